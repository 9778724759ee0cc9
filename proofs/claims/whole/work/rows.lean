section
-- ===== PART A: goes FIRST, ahead of the names: the tables' words, and 'selects' of the private methods out of them =====
/-- a private method of a class that the tables say can be made, by its rows of tables_1 -/
def lw_okq (q : MethodName × Nat) : Prop := (q.1.cls ≠ "java/lang/invoke/MethodHandle" ∧ q.1.cls ≠ "java/lang/invoke/VarHandle") ∧ Cond.instantiable q.1.cls q.2 ∈ tables_1 ∧ Cond.privateMethod q.1 ∈ tables_1 ∧ Cond.instanceMethod q.1 ∈ tables_1
theorem lw_p0 : lw_okq (⟨"CobblerCodes$Tree", "putNode", "(IIII)V"⟩, 9) := ⟨⟨by decide +kernel, by decide +kernel⟩, List.mem_of_getElem? (i := 29) (by decide +kernel), List.mem_of_getElem? (i := 61) (by decide +kernel), List.mem_of_getElem? (i := 62) (by decide +kernel)⟩
theorem lw_p1 : lw_okq (⟨"CobblerCodes$Tree", "knows", "(I)Z"⟩, 9) := ⟨⟨by decide +kernel, by decide +kernel⟩, List.mem_of_getElem? (i := 29) (by decide +kernel), List.mem_of_getElem? (i := 128) (by decide +kernel), List.mem_of_getElem? (i := 129) (by decide +kernel)⟩
theorem lw_p2 : lw_okq (⟨"CobblerCodes$Shop", "bitsFor", "(I)I"⟩, 4) := ⟨⟨by decide +kernel, by decide +kernel⟩, List.mem_of_getElem? (i := 23) (by decide +kernel), List.mem_of_getElem? (i := 135) (by decide +kernel), List.mem_of_getElem? (i := 136) (by decide +kernel)⟩
theorem lw_p3 : lw_okq (⟨"CobblerCodes$Tree", "lengthOf", "(I)I"⟩, 9) := ⟨⟨by decide +kernel, by decide +kernel⟩, List.mem_of_getElem? (i := 29) (by decide +kernel), List.mem_of_getElem? (i := 140) (by decide +kernel), List.mem_of_getElem? (i := 141) (by decide +kernel)⟩
theorem lw_p4 : lw_okq (⟨"CobblerCodes$Shop", "factOfShop", "(I)I"⟩, 4) := ⟨⟨by decide +kernel, by decide +kernel⟩, List.mem_of_getElem? (i := 23) (by decide +kernel), List.mem_of_getElem? (i := 158) (by decide +kernel), List.mem_of_getElem? (i := 159) (by decide +kernel)⟩
theorem lw_p5 : lw_okq (⟨"CobblerCodes$Tree", "knownLasts", "()I"⟩, 9) := ⟨⟨by decide +kernel, by decide +kernel⟩, List.mem_of_getElem? (i := 29) (by decide +kernel), List.mem_of_getElem? (i := 162) (by decide +kernel), List.mem_of_getElem? (i := 163) (by decide +kernel)⟩
theorem lw_p6 : lw_okq (⟨"CobblerCodes$Tree", "weightOfRoot", "()I"⟩, 9) := ⟨⟨by decide +kernel, by decide +kernel⟩, List.mem_of_getElem? (i := 29) (by decide +kernel), List.mem_of_getElem? (i := 166) (by decide +kernel), List.mem_of_getElem? (i := 167) (by decide +kernel)⟩
theorem lw_p7 : lw_okq (⟨"CobblerCodes$Tree", "factOfNode", "(II)I"⟩, 9) := ⟨⟨by decide +kernel, by decide +kernel⟩, List.mem_of_getElem? (i := 29) (by decide +kernel), List.mem_of_getElem? (i := 170) (by decide +kernel), List.mem_of_getElem? (i := 171) (by decide +kernel)⟩
theorem lw_p8 : lw_okq (⟨"java/lang/Throwable", "fillInStackTrace", "(I)Ljava/lang/Throwable;"⟩, 6) := ⟨⟨by decide +kernel, by decide +kernel⟩, List.mem_of_getElem? (i := 223) (by decide +kernel), List.mem_of_getElem? (i := 221) (by decide +kernel), List.mem_of_getElem? (i := 222) (by decide +kernel)⟩
theorem lw_p9 : lw_okq (⟨"CobblerCodes$Shop", "takeOne", "(I)I"⟩, 4) := ⟨⟨by decide +kernel, by decide +kernel⟩, List.mem_of_getElem? (i := 23) (by decide +kernel), List.mem_of_getElem? (i := 253) (by decide +kernel), List.mem_of_getElem? (i := 254) (by decide +kernel)⟩
theorem lw_p10 : lw_okq (⟨"CobblerCodes$Tree", "learn", "(I)V"⟩, 9) := ⟨⟨by decide +kernel, by decide +kernel⟩, List.mem_of_getElem? (i := 29) (by decide +kernel), List.mem_of_getElem? (i := 258) (by decide +kernel), List.mem_of_getElem? (i := 259) (by decide +kernel)⟩
theorem lw_p11 : lw_okq (⟨"CobblerCodes$Tree", "makeHeavier", "(I)V"⟩, 9) := ⟨⟨by decide +kernel, by decide +kernel⟩, List.mem_of_getElem? (i := 29) (by decide +kernel), List.mem_of_getElem? (i := 262) (by decide +kernel), List.mem_of_getElem? (i := 263) (by decide +kernel)⟩
theorem lw_p12 : lw_okq (⟨"CobblerCodes$Tree", "firstAsHeavyAs", "(I)I"⟩, 9) := ⟨⟨by decide +kernel, by decide +kernel⟩, List.mem_of_getElem? (i := 29) (by decide +kernel), List.mem_of_getElem? (i := 266) (by decide +kernel), List.mem_of_getElem? (i := 267) (by decide +kernel)⟩
theorem lw_p13 : lw_okq (⟨"CobblerCodes$Tree", "exchange", "(II)V"⟩, 9) := ⟨⟨by decide +kernel, by decide +kernel⟩, List.mem_of_getElem? (i := 29) (by decide +kernel), List.mem_of_getElem? (i := 270) (by decide +kernel), List.mem_of_getElem? (i := 271) (by decide +kernel)⟩
theorem lw_p14 : lw_okq (⟨"CobblerCodes$Tree", "wearDown", "()I"⟩, 9) := ⟨⟨by decide +kernel, by decide +kernel⟩, List.mem_of_getElem? (i := 29) (by decide +kernel), List.mem_of_getElem? (i := 274) (by decide +kernel), List.mem_of_getElem? (i := 275) (by decide +kernel)⟩
theorem lw_p15 : lw_okq (⟨"CobblerCodes$Tree", "fillHeap", "()I"⟩, 9) := ⟨⟨by decide +kernel, by decide +kernel⟩, List.mem_of_getElem? (i := 29) (by decide +kernel), List.mem_of_getElem? (i := 278) (by decide +kernel), List.mem_of_getElem? (i := 279) (by decide +kernel)⟩
def lw_privs_1 : List (MethodName × Nat) := [(⟨"CobblerCodes$Tree", "putNode", "(IIII)V"⟩, 9), (⟨"CobblerCodes$Tree", "knows", "(I)Z"⟩, 9), (⟨"CobblerCodes$Shop", "bitsFor", "(I)I"⟩, 4), (⟨"CobblerCodes$Tree", "lengthOf", "(I)I"⟩, 9), (⟨"CobblerCodes$Shop", "factOfShop", "(I)I"⟩, 4), (⟨"CobblerCodes$Tree", "knownLasts", "()I"⟩, 9), (⟨"CobblerCodes$Tree", "weightOfRoot", "()I"⟩, 9), (⟨"CobblerCodes$Tree", "factOfNode", "(II)I"⟩, 9), (⟨"java/lang/Throwable", "fillInStackTrace", "(I)Ljava/lang/Throwable;"⟩, 6), (⟨"CobblerCodes$Shop", "takeOne", "(I)I"⟩, 4), (⟨"CobblerCodes$Tree", "learn", "(I)V"⟩, 9), (⟨"CobblerCodes$Tree", "makeHeavier", "(I)V"⟩, 9), (⟨"CobblerCodes$Tree", "firstAsHeavyAs", "(I)I"⟩, 9), (⟨"CobblerCodes$Tree", "exchange", "(II)V"⟩, 9), (⟨"CobblerCodes$Tree", "wearDown", "()I"⟩, 9), (⟨"CobblerCodes$Tree", "fillHeap", "()I"⟩, 9)]
theorem lw_r1 : ∀ q ∈ lw_privs_1, lw_okq q := List.forall_mem_cons.mpr ⟨lw_p0, List.forall_mem_cons.mpr ⟨lw_p1, List.forall_mem_cons.mpr ⟨lw_p2, List.forall_mem_cons.mpr ⟨lw_p3, List.forall_mem_cons.mpr ⟨lw_p4, List.forall_mem_cons.mpr ⟨lw_p5, List.forall_mem_cons.mpr ⟨lw_p6, List.forall_mem_cons.mpr ⟨lw_p7, List.forall_mem_cons.mpr ⟨lw_p8, List.forall_mem_cons.mpr ⟨lw_p9, List.forall_mem_cons.mpr ⟨lw_p10, List.forall_mem_cons.mpr ⟨lw_p11, List.forall_mem_cons.mpr ⟨lw_p12, List.forall_mem_cons.mpr ⟨lw_p13, List.forall_mem_cons.mpr ⟨lw_p14, List.forall_mem_cons.mpr ⟨lw_p15, fun _ h => absurd h List.not_mem_nil⟩⟩⟩⟩⟩⟩⟩⟩⟩⟩⟩⟩⟩⟩⟩⟩
theorem lw_p16 : lw_okq (⟨"CobblerCodes$Heap", "clear", "()V"⟩, 4) := ⟨⟨by decide +kernel, by decide +kernel⟩, List.mem_of_getElem? (i := 35) (by decide +kernel), List.mem_of_getElem? (i := 282) (by decide +kernel), List.mem_of_getElem? (i := 283) (by decide +kernel)⟩
theorem lw_p17 : lw_okq (⟨"CobblerCodes$Heap", "add", "(III)V"⟩, 4) := ⟨⟨by decide +kernel, by decide +kernel⟩, List.mem_of_getElem? (i := 35) (by decide +kernel), List.mem_of_getElem? (i := 286) (by decide +kernel), List.mem_of_getElem? (i := 287) (by decide +kernel)⟩
theorem lw_p18 : lw_okq (⟨"CobblerCodes$Tree", "takeLightest", "(I)I"⟩, 9) := ⟨⟨by decide +kernel, by decide +kernel⟩, List.mem_of_getElem? (i := 29) (by decide +kernel), List.mem_of_getElem? (i := 292) (by decide +kernel), List.mem_of_getElem? (i := 293) (by decide +kernel)⟩
theorem lw_p19 : lw_okq (⟨"CobblerCodes$Heap", "lightest", "()I"⟩, 4) := ⟨⟨by decide +kernel, by decide +kernel⟩, List.mem_of_getElem? (i := 35) (by decide +kernel), List.mem_of_getElem? (i := 296) (by decide +kernel), List.mem_of_getElem? (i := 297) (by decide +kernel)⟩
theorem lw_p20 : lw_okq (⟨"CobblerCodes$Heap", "drop", "(I)V"⟩, 4) := ⟨⟨by decide +kernel, by decide +kernel⟩, List.mem_of_getElem? (i := 35) (by decide +kernel), List.mem_of_getElem? (i := 301) (by decide +kernel), List.mem_of_getElem? (i := 302) (by decide +kernel)⟩
theorem lw_p21 : lw_okq (⟨"CobblerCodes$Shop", "takeRow", "(III)I"⟩, 4) := ⟨⟨by decide +kernel, by decide +kernel⟩, List.mem_of_getElem? (i := 23) (by decide +kernel), List.mem_of_getElem? (i := 333) (by decide +kernel), List.mem_of_getElem? (i := 334) (by decide +kernel)⟩
theorem lw_p22 : lw_okq (⟨"CobblerCodes$Tree", "factOfLeaf", "(II)I"⟩, 9) := ⟨⟨by decide +kernel, by decide +kernel⟩, List.mem_of_getElem? (i := 29) (by decide +kernel), List.mem_of_getElem? (i := 379) (by decide +kernel), List.mem_of_getElem? (i := 380) (by decide +kernel)⟩
theorem lw_p23 : lw_okq (⟨"CobblerCodes$Tree", "codeOf", "(I)I"⟩, 9) := ⟨⟨by decide +kernel, by decide +kernel⟩, List.mem_of_getElem? (i := 29) (by decide +kernel), List.mem_of_getElem? (i := 384) (by decide +kernel), List.mem_of_getElem? (i := 385) (by decide +kernel)⟩
theorem lw_p24 : lw_okq (⟨"CobblerCodes$Tree", "codeByLengths", "(I)I"⟩, 9) := ⟨⟨by decide +kernel, by decide +kernel⟩, List.mem_of_getElem? (i := 29) (by decide +kernel), List.mem_of_getElem? (i := 388) (by decide +kernel), List.mem_of_getElem? (i := 389) (by decide +kernel)⟩
theorem lw_p25 : lw_okq (⟨"CobblerCodes$Tree", "firstWritten", "(II)I"⟩, 9) := ⟨⟨by decide +kernel, by decide +kernel⟩, List.mem_of_getElem? (i := 29) (by decide +kernel), List.mem_of_getElem? (i := 422) (by decide +kernel), List.mem_of_getElem? (i := 423) (by decide +kernel)⟩
theorem lw_p26 : lw_okq (⟨"CobblerCodes$Shop", "startLike", "(LCobblerCodes$Shop;)V"⟩, 4) := ⟨⟨by decide +kernel, by decide +kernel⟩, List.mem_of_getElem? (i := 23) (by decide +kernel), List.mem_of_getElem? (i := 433) (by decide +kernel), List.mem_of_getElem? (i := 434) (by decide +kernel)⟩
theorem lw_p27 : lw_okq (⟨"CobblerCodes$Tree", "becomeLike", "(LCobblerCodes$Tree;)V"⟩, 9) := ⟨⟨by decide +kernel, by decide +kernel⟩, List.mem_of_getElem? (i := 29) (by decide +kernel), List.mem_of_getElem? (i := 437) (by decide +kernel), List.mem_of_getElem? (i := 438) (by decide +kernel)⟩
theorem lw_p28 : lw_okq (⟨"CobblerCodesModel", "set", "(IIII)V"⟩, 12) := ⟨⟨by decide +kernel, by decide +kernel⟩, List.mem_of_getElem? (i := 453) (by decide +kernel), List.mem_of_getElem? (i := 459) (by decide +kernel), List.mem_of_getElem? (i := 460) (by decide +kernel)⟩
theorem lw_p29 : lw_okq (⟨"CobblerCodesModel", "useOne", "(I)I"⟩, 12) := ⟨⟨by decide +kernel, by decide +kernel⟩, List.mem_of_getElem? (i := 453) (by decide +kernel), List.mem_of_getElem? (i := 514) (by decide +kernel), List.mem_of_getElem? (i := 515) (by decide +kernel)⟩
theorem lw_p30 : lw_okq (⟨"CobblerCodesModel", "bitsOf", "(I)I"⟩, 12) := ⟨⟨by decide +kernel, by decide +kernel⟩, List.mem_of_getElem? (i := 453) (by decide +kernel), List.mem_of_getElem? (i := 518) (by decide +kernel), List.mem_of_getElem? (i := 519) (by decide +kernel)⟩
theorem lw_p31 : lw_okq (⟨"CobblerCodesModel", "placeOf", "(I)I"⟩, 12) := ⟨⟨by decide +kernel, by decide +kernel⟩, List.mem_of_getElem? (i := 453) (by decide +kernel), List.mem_of_getElem? (i := 522) (by decide +kernel), List.mem_of_getElem? (i := 523) (by decide +kernel)⟩
def lw_privs_2 : List (MethodName × Nat) := [(⟨"CobblerCodes$Heap", "clear", "()V"⟩, 4), (⟨"CobblerCodes$Heap", "add", "(III)V"⟩, 4), (⟨"CobblerCodes$Tree", "takeLightest", "(I)I"⟩, 9), (⟨"CobblerCodes$Heap", "lightest", "()I"⟩, 4), (⟨"CobblerCodes$Heap", "drop", "(I)V"⟩, 4), (⟨"CobblerCodes$Shop", "takeRow", "(III)I"⟩, 4), (⟨"CobblerCodes$Tree", "factOfLeaf", "(II)I"⟩, 9), (⟨"CobblerCodes$Tree", "codeOf", "(I)I"⟩, 9), (⟨"CobblerCodes$Tree", "codeByLengths", "(I)I"⟩, 9), (⟨"CobblerCodes$Tree", "firstWritten", "(II)I"⟩, 9), (⟨"CobblerCodes$Shop", "startLike", "(LCobblerCodes$Shop;)V"⟩, 4), (⟨"CobblerCodes$Tree", "becomeLike", "(LCobblerCodes$Tree;)V"⟩, 9), (⟨"CobblerCodesModel", "set", "(IIII)V"⟩, 12), (⟨"CobblerCodesModel", "useOne", "(I)I"⟩, 12), (⟨"CobblerCodesModel", "bitsOf", "(I)I"⟩, 12), (⟨"CobblerCodesModel", "placeOf", "(I)I"⟩, 12)]
theorem lw_r2 : ∀ q ∈ lw_privs_2, lw_okq q := List.forall_mem_cons.mpr ⟨lw_p16, List.forall_mem_cons.mpr ⟨lw_p17, List.forall_mem_cons.mpr ⟨lw_p18, List.forall_mem_cons.mpr ⟨lw_p19, List.forall_mem_cons.mpr ⟨lw_p20, List.forall_mem_cons.mpr ⟨lw_p21, List.forall_mem_cons.mpr ⟨lw_p22, List.forall_mem_cons.mpr ⟨lw_p23, List.forall_mem_cons.mpr ⟨lw_p24, List.forall_mem_cons.mpr ⟨lw_p25, List.forall_mem_cons.mpr ⟨lw_p26, List.forall_mem_cons.mpr ⟨lw_p27, List.forall_mem_cons.mpr ⟨lw_p28, List.forall_mem_cons.mpr ⟨lw_p29, List.forall_mem_cons.mpr ⟨lw_p30, List.forall_mem_cons.mpr ⟨lw_p31, fun _ h => absurd h List.not_mem_nil⟩⟩⟩⟩⟩⟩⟩⟩⟩⟩⟩⟩⟩⟩⟩⟩
theorem lw_p32 : lw_okq (⟨"CobblerCodesModel", "lengthAt", "(I)I"⟩, 12) := ⟨⟨by decide +kernel, by decide +kernel⟩, List.mem_of_getElem? (i := 453) (by decide +kernel), List.mem_of_getElem? (i := 526) (by decide +kernel), List.mem_of_getElem? (i := 527) (by decide +kernel)⟩
theorem lw_p33 : lw_okq (⟨"CobblerCodesModel", "above", "(I)I"⟩, 12) := ⟨⟨by decide +kernel, by decide +kernel⟩, List.mem_of_getElem? (i := 453) (by decide +kernel), List.mem_of_getElem? (i := 530) (by decide +kernel), List.mem_of_getElem? (i := 531) (by decide +kernel)⟩
theorem lw_p34 : lw_okq (⟨"CobblerCodesModel", "add", "(I)V"⟩, 12) := ⟨⟨by decide +kernel, by decide +kernel⟩, List.mem_of_getElem? (i := 453) (by decide +kernel), List.mem_of_getElem? (i := 534) (by decide +kernel), List.mem_of_getElem? (i := 535) (by decide +kernel)⟩
theorem lw_p35 : lw_okq (⟨"CobblerCodesModel", "asHeavy", "(I)I"⟩, 12) := ⟨⟨by decide +kernel, by decide +kernel⟩, List.mem_of_getElem? (i := 453) (by decide +kernel), List.mem_of_getElem? (i := 538) (by decide +kernel), List.mem_of_getElem? (i := 539) (by decide +kernel)⟩
theorem lw_p36 : lw_okq (⟨"CobblerCodesModel", "change", "(II)V"⟩, 12) := ⟨⟨by decide +kernel, by decide +kernel⟩, List.mem_of_getElem? (i := 453) (by decide +kernel), List.mem_of_getElem? (i := 542) (by decide +kernel), List.mem_of_getElem? (i := 543) (by decide +kernel)⟩
theorem lw_p37 : lw_okq (⟨"CobblerCodesModel", "wearAll", "()I"⟩, 12) := ⟨⟨by decide +kernel, by decide +kernel⟩, List.mem_of_getElem? (i := 453) (by decide +kernel), List.mem_of_getElem? (i := 546) (by decide +kernel), List.mem_of_getElem? (i := 547) (by decide +kernel)⟩
theorem lw_p38 : lw_okq (⟨"CobblerCodesModel", "known", "()I"⟩, 12) := ⟨⟨by decide +kernel, by decide +kernel⟩, List.mem_of_getElem? (i := 453) (by decide +kernel), List.mem_of_getElem? (i := 550) (by decide +kernel), List.mem_of_getElem? (i := 551) (by decide +kernel)⟩
theorem lw_p39 : lw_okq (⟨"CobblerCodesModel", "push", "(III)V"⟩, 12) := ⟨⟨by decide +kernel, by decide +kernel⟩, List.mem_of_getElem? (i := 453) (by decide +kernel), List.mem_of_getElem? (i := 554) (by decide +kernel), List.mem_of_getElem? (i := 555) (by decide +kernel)⟩
theorem lw_p40 : lw_okq (⟨"CobblerCodesModel", "pull", "(I)I"⟩, 12) := ⟨⟨by decide +kernel, by decide +kernel⟩, List.mem_of_getElem? (i := 453) (by decide +kernel), List.mem_of_getElem? (i := 558) (by decide +kernel), List.mem_of_getElem? (i := 559) (by decide +kernel)⟩
theorem lw_p41 : lw_okq (⟨"CobblerCodesModel", "no", "(I)I"⟩, 12) := ⟨⟨by decide +kernel, by decide +kernel⟩, List.mem_of_getElem? (i := 453) (by decide +kernel), List.mem_of_getElem? (i := 563) (by decide +kernel), List.mem_of_getElem? (i := 564) (by decide +kernel)⟩
theorem lw_p42 : lw_okq (⟨"CobblerCodesModel", "isRow", "(III)Z"⟩, 12) := ⟨⟨by decide +kernel, by decide +kernel⟩, List.mem_of_getElem? (i := 453) (by decide +kernel), List.mem_of_getElem? (i := 571) (by decide +kernel), List.mem_of_getElem? (i := 572) (by decide +kernel)⟩
theorem lw_p43 : lw_okq (⟨"CobblerCodesModel", "row", "(III)I"⟩, 12) := ⟨⟨by decide +kernel, by decide +kernel⟩, List.mem_of_getElem? (i := 453) (by decide +kernel), List.mem_of_getElem? (i := 575) (by decide +kernel), List.mem_of_getElem? (i := 576) (by decide +kernel)⟩
theorem lw_p44 : lw_okq (⟨"CobblerCodesModel", "lastTold", "(II)I"⟩, 12) := ⟨⟨by decide +kernel, by decide +kernel⟩, List.mem_of_getElem? (i := 453) (by decide +kernel), List.mem_of_getElem? (i := 591) (by decide +kernel), List.mem_of_getElem? (i := 592) (by decide +kernel)⟩
theorem lw_p45 : lw_okq (⟨"CobblerCodesModel", "leafTold", "(III)I"⟩, 12) := ⟨⟨by decide +kernel, by decide +kernel⟩, List.mem_of_getElem? (i := 453) (by decide +kernel), List.mem_of_getElem? (i := 595) (by decide +kernel), List.mem_of_getElem? (i := 596) (by decide +kernel)⟩
theorem lw_p46 : lw_okq (⟨"CobblerCodesModel", "codeAt", "(I)I"⟩, 12) := ⟨⟨by decide +kernel, by decide +kernel⟩, List.mem_of_getElem? (i := 453) (by decide +kernel), List.mem_of_getElem? (i := 599) (by decide +kernel), List.mem_of_getElem? (i := 600) (by decide +kernel)⟩
theorem lw_p47 : lw_okq (⟨"CobblerCodesModel", "lengthCode", "(I)I"⟩, 12) := ⟨⟨by decide +kernel, by decide +kernel⟩, List.mem_of_getElem? (i := 453) (by decide +kernel), List.mem_of_getElem? (i := 603) (by decide +kernel), List.mem_of_getElem? (i := 604) (by decide +kernel)⟩
def lw_privs_3 : List (MethodName × Nat) := [(⟨"CobblerCodesModel", "lengthAt", "(I)I"⟩, 12), (⟨"CobblerCodesModel", "above", "(I)I"⟩, 12), (⟨"CobblerCodesModel", "add", "(I)V"⟩, 12), (⟨"CobblerCodesModel", "asHeavy", "(I)I"⟩, 12), (⟨"CobblerCodesModel", "change", "(II)V"⟩, 12), (⟨"CobblerCodesModel", "wearAll", "()I"⟩, 12), (⟨"CobblerCodesModel", "known", "()I"⟩, 12), (⟨"CobblerCodesModel", "push", "(III)V"⟩, 12), (⟨"CobblerCodesModel", "pull", "(I)I"⟩, 12), (⟨"CobblerCodesModel", "no", "(I)I"⟩, 12), (⟨"CobblerCodesModel", "isRow", "(III)Z"⟩, 12), (⟨"CobblerCodesModel", "row", "(III)I"⟩, 12), (⟨"CobblerCodesModel", "lastTold", "(II)I"⟩, 12), (⟨"CobblerCodesModel", "leafTold", "(III)I"⟩, 12), (⟨"CobblerCodesModel", "codeAt", "(I)I"⟩, 12), (⟨"CobblerCodesModel", "lengthCode", "(I)I"⟩, 12)]
theorem lw_r3 : ∀ q ∈ lw_privs_3, lw_okq q := List.forall_mem_cons.mpr ⟨lw_p32, List.forall_mem_cons.mpr ⟨lw_p33, List.forall_mem_cons.mpr ⟨lw_p34, List.forall_mem_cons.mpr ⟨lw_p35, List.forall_mem_cons.mpr ⟨lw_p36, List.forall_mem_cons.mpr ⟨lw_p37, List.forall_mem_cons.mpr ⟨lw_p38, List.forall_mem_cons.mpr ⟨lw_p39, List.forall_mem_cons.mpr ⟨lw_p40, List.forall_mem_cons.mpr ⟨lw_p41, List.forall_mem_cons.mpr ⟨lw_p42, List.forall_mem_cons.mpr ⟨lw_p43, List.forall_mem_cons.mpr ⟨lw_p44, List.forall_mem_cons.mpr ⟨lw_p45, List.forall_mem_cons.mpr ⟨lw_p46, List.forall_mem_cons.mpr ⟨lw_p47, fun _ h => absurd h List.not_mem_nil⟩⟩⟩⟩⟩⟩⟩⟩⟩⟩⟩⟩⟩⟩⟩⟩
theorem lw_p48 : lw_okq (⟨"CobblerCodesModel", "nextLeaf", "(II)I"⟩, 12) := ⟨⟨by decide +kernel, by decide +kernel⟩, List.mem_of_getElem? (i := 453) (by decide +kernel), List.mem_of_getElem? (i := 607) (by decide +kernel), List.mem_of_getElem? (i := 608) (by decide +kernel)⟩
theorem lw_p49 : lw_okq (⟨"CobblerCodesModel", "nodeTold", "(II)I"⟩, 12) := ⟨⟨by decide +kernel, by decide +kernel⟩, List.mem_of_getElem? (i := 453) (by decide +kernel), List.mem_of_getElem? (i := 619) (by decide +kernel), List.mem_of_getElem? (i := 620) (by decide +kernel)⟩
theorem lw_p50 : lw_okq (⟨"CobblerCodesModel", "counted", "(I)I"⟩, 12) := ⟨⟨by decide +kernel, by decide +kernel⟩, List.mem_of_getElem? (i := 453) (by decide +kernel), List.mem_of_getElem? (i := 627) (by decide +kernel), List.mem_of_getElem? (i := 628) (by decide +kernel)⟩
theorem lw_p51 : lw_okq (⟨"CobblerCodesModel", "readOne", "(II)I"⟩, 12) := ⟨⟨by decide +kernel, by decide +kernel⟩, List.mem_of_getElem? (i := 453) (by decide +kernel), List.mem_of_getElem? (i := 635) (by decide +kernel), List.mem_of_getElem? (i := 636) (by decide +kernel)⟩
theorem lw_p52 : lw_okq (⟨"CobblerCodesModel", "tried", "(IIII)I"⟩, 12) := ⟨⟨by decide +kernel, by decide +kernel⟩, List.mem_of_getElem? (i := 453) (by decide +kernel), List.mem_of_getElem? (i := 647) (by decide +kernel), List.mem_of_getElem? (i := 648) (by decide +kernel)⟩
theorem lw_p53 : lw_okq (⟨"CobblerCodesModel", "bestLimit", "(III)I"⟩, 12) := ⟨⟨by decide +kernel, by decide +kernel⟩, List.mem_of_getElem? (i := 453) (by decide +kernel), List.mem_of_getElem? (i := 660) (by decide +kernel), List.mem_of_getElem? (i := 661) (by decide +kernel)⟩
def lw_privs_4 : List (MethodName × Nat) := [(⟨"CobblerCodesModel", "nextLeaf", "(II)I"⟩, 12), (⟨"CobblerCodesModel", "nodeTold", "(II)I"⟩, 12), (⟨"CobblerCodesModel", "counted", "(I)I"⟩, 12), (⟨"CobblerCodesModel", "readOne", "(II)I"⟩, 12), (⟨"CobblerCodesModel", "tried", "(IIII)I"⟩, 12), (⟨"CobblerCodesModel", "bestLimit", "(III)I"⟩, 12)]
theorem lw_r4 : ∀ q ∈ lw_privs_4, lw_okq q := List.forall_mem_cons.mpr ⟨lw_p48, List.forall_mem_cons.mpr ⟨lw_p49, List.forall_mem_cons.mpr ⟨lw_p50, List.forall_mem_cons.mpr ⟨lw_p51, List.forall_mem_cons.mpr ⟨lw_p52, List.forall_mem_cons.mpr ⟨lw_p53, fun _ h => absurd h List.not_mem_nil⟩⟩⟩⟩⟩⟩
def lw_privs : List (MethodName × Nat) := lw_privs_1 ++ (lw_privs_2 ++ (lw_privs_3 ++ (lw_privs_4)))
def lw_tbl : List Cond := k2_sels lw_privs ++ tables_1
theorem lw_privs_ok : ∀ q ∈ lw_privs, lw_okq q := by
  show ∀ q ∈ lw_privs_1 ++ (lw_privs_2 ++ (lw_privs_3 ++ (lw_privs_4))), lw_okq q
  exact List.forall_mem_append.mpr ⟨lw_r1, List.forall_mem_append.mpr ⟨lw_r2, List.forall_mem_append.mpr ⟨lw_r3, lw_r4⟩⟩⟩
/-- the streams that the claim lets the run draw from -/
abbrev lw_cs : List Choice := [Jvm.Choice.named "NaN.bits"]
theorem lw_bits : nanBits ∈ lw_cs := by first | decide | exact List.mem_cons_self | simp [lw_cs, nanBits]
-- ===== end of PART A; then your names; then what follows =====
/-! ===== BEGIN words of one list among another's, by their places ===== -/
theorem goodIn_r {big : List Cond} (ws : List Cond) (ps : List Nat) (hp : ws = ps.filterMap (fun i => big[i]?)) (h : ws.all goodWord = true) : GoodIn big ws := by
  intro w hw
  have h1 := List.all_eq_true.mp h w hw
  rw [hp] at hw
  obtain ⟨i, -, hi⟩ := List.mem_filterMap.mp hw
  have hm : w ∈ big := by first | exact List.mem_of_getElem? hi | exact List.getElem?_mem hi
  exact ⟨hm, good_of_word h1⟩
theorem goodIn_app {big a b : List Cond} (ha : GoodIn big a) (hb : GoodIn big b) : GoodIn big (a ++ b) := fun w h => (List.mem_append.mp h).elim (ha w) (hb w)
theorem goodIn_ca {big a b : List Cond} {c : Cond} (ha : GoodIn big (c :: a)) (hb : GoodIn big b) : GoodIn big (c :: (a ++ b)) := fun w h => (List.mem_cons.mp h).elim (fun e => ha w (List.mem_cons.mpr (Or.inl e))) (fun h => (List.mem_append.mp h).elim (fun h => ha w (List.mem_cons.mpr (Or.inr h))) (hb w))
theorem goodIn_sub {big ws : List Cond} (hm : ∀ w ∈ ws, w ∈ big) (h : ws.all goodWord = true) : GoodIn big ws := fun w hw => ⟨hm w hw, good_of_word (List.all_eq_true.mp h w hw)⟩
/-! ===== END ===== -/

/-! ===== BEGIN exceptions that leave a method, and their catching by the caller (launches without stack traces) ===== -/
section VXA
/-! The laws vx_back, vx_callV, vx_callS, vx_callSW, vx_throw0, vx_throwS follow proofs of the library, with one case more: JvmDerived/Free/Laws.lean (Back.of_free), Shelf42/LK1.lean (callV, callS), Shelf/KitTraced.lean (throwNew0V, throwNewS). -/
/-- where a method has thrown q: the class by its name, the cell, what was written, the world -/
def vx_T (XC : String → State → State → Prop) (st : State) (q : Addr) (t : State) (mc ms : Nat) (free : Addr → Prop) : Prop :=
  ∃ (E : String) (ce : Cell) (L : List Loc), XC E st t ∧ t.heap[q]? = some ce ∧ ce.vm = .none ∧ st.vm.findClass E = some ce.cls ∧ st.WarmedH t.vm ∧ st.sameButNew ({ t with vm := st.vm } : State) L mc ms ∧ ∀ z ∈ L, free z.base
def vx_Q (Qc : Array Value → State → Outcome → State → Prop) (XC : String → State → State → Prop) (mc ms : Nat) (free : Addr → Prop) : Array Value → State → Outcome → State → Prop := fun a st o t =>
  (Qc a st o t ∧ ∃ L, FrameEnd st o t L mc ms ∧ ∀ q ∈ L, free q.base) ∨ ∃ q, o = .threw q ∧ vx_T XC st q t mc ms free
/-- a callee that returns or throws -/
def vx_Met (l : Launch) (y : MethodName) (ws : List Cond) (rm : Room) (Pc : Array Value → State → Prop) (Qc : Array Value → State → Outcome → State → Prop) (XC : String → State → State → Prop) (mc ms : Nat) (free : Addr → Prop) : Prop :=
  MetFree l y (headSpec ws rm) Pc (fun _ _ _ _ _ => True) (vx_Q Qc XC mc ms free)
def vx_Post (XC : String → State → State → Prop) (mc ms : Nat) (free : Addr → Prop) : Pt → Array Value → Addr → Pt → Prop := fun A a q B =>
  ∃ (g : JFrame) (mk : MethodId) (t : State) (L : List Loc) (E : String) (ce : Cell), B.U.heap = t.heap ∧ B.U.vm = t.vm ∧ XC E (A.U.calling g mk a) t ∧ t.heap[q]? = some ce ∧ ce.vm = .none ∧ A.U.vm.findClass E = some ce.cls ∧ B.locs = A.locs ++ L ∧ (∀ z ∈ L, free z.base) ∧ B.cells = A.cells + mc ∧ B.slots = A.slots + ms
def vx_Back (l : Launch) (R : Room) (p : Program) (e : Env) (below : List Frame) (s : State) (sargs : Array Value) (y : MethodName) (len W9 : Nat)
    (Pre : Pt → Array Value → Prop) (Post : Pt → Array Value → Option Value → Pt → Prop) (PostX : Pt → Array Value → Addr → Pt → Prop) : Prop :=
  ∀ (m : MethodId) (meth : Method) (c : Code) (A : Pt) (g : JFrame) (ig : Instr) (mk : MethodId) (a : Array Value),
    Stand p l e R s m sargs below meth c A.U A.locs A.cells A.slots → g.method = m → g.locals.size = c.maxLocals → decode c.code g.pc = .ok (ig, len) →
    2 * g.monitorRoom + (g.stack.map fun v => v.category).sum ≤ W9 → A.U.methodNamed? y = some mk → Pre A a →
    (∃ (v : Option Value) (B : Pt), Stand p l e R s m sargs below meth c B.U B.locs B.cells B.slots ∧ Post A a v B ∧
      Steps p.tables e below (doInvoke e (A.U.setTop g) [] mk a).1 (B.U.setTop { g with pc := g.pc + len, stack := v.toList ++ g.stack })) ∨
    (∃ (q : Addr) (B : Pt), Stand p l e R s m sargs below meth c B.U B.locs B.cells B.slots ∧ PostX A a q B ∧
      Steps p.tables e below (doInvoke e (A.U.setTop g) [] mk a).1 ((B.U.setTop g).pushFrame (.throwing q)))
section Payer
variable {l : Launch} {R : Room} {p : Program} {e : Env} {below : List Frame} {s : State} {sargs : Array Value} {y : MethodName} {len W9 : Nat}
theorem vx_back {ws : List Cond} {rm : Room} {Pc : Array Value → State → Prop} {Qc : Array Value → State → Outcome → State → Prop} {XC : String → State → State → Prop} {mc ms : Nat} {free : Addr → Prop} {bytes : ByteArray} {maxL : Nat} {ret : Option FieldType}
    (hM : vx_Met l y ws rm Pc Qc XC mc ms free) (hblind : FrameBlind Pc) (hrc : rm.cells = mc) (hrs : rm.slots = ms)
    (hframes : rm.frames + 1 ≤ R.frames) (hlocals : W9 + (maxL + 11) + rm.locals ≤ R.locals)
    (hws : ∀ w ∈ ws, ∀ a' U, s.WarmedH U.vm → w.before a' U = true) (hcode : Cond.code y bytes maxL ret ∈ ws) (hinit : ∀ a' U, s.WarmedH U.vm → (Cond.initialized y.cls).before a' U = true) :
    vx_Back l R p e below s sargs y len W9 (PreOf R mc ms Pc) (PostOf Qc mc ms free) (vx_Post XC mc ms free) := by
  intro m meth c A g ig mk a X hg hsize hdg hW hn hp
  have h1 : (headSpec ws rm).pre.before a A.U = true := atoms_intro fun w hw => hws w hw _ _ X.warmed
  have h2 : (Cond.code y bytes maxL ret).before a A.U = true := hws _ hcode _ _ X.warmed
  have h3 : (Cond.initialized y.cls).before a A.U = true := hinit _ _ X.warmed
  have h4 : A.cells + (headSpec ws rm).room.cells ≤ R.cells := by rw [show (headSpec ws rm).room.cells = mc from hrc]; exact hp.1
  have h5 : A.slots + (headSpec ws rm).room.slots ≤ R.slots := by rw [show (headSpec ws rm).room.slots = ms from hrs]; exact hp.2.1
  have hPc : Pc a (A.U.calling g mk a) := hblind _ _ _ _ hp.2.2
  obtain ⟨U, Ls, c0, s0⟩ := A
  dsimp only [Pt.U, Pt.locs, Pt.cells, Pt.slots] at h1 h2 h3 h4 h5 X hn hPc ⊢
  obtain ⟨methY, cY, hmY, hcY, -, hlY, -, -, -, -⟩ := Cond.code_spec hn h2
  obtain ⟨kY, hkY, -⟩ := className_of_methodNamed hn
  have hinitY : kY.init = .initialized := Cond.initialized_spec (findClass_of_methodNamed hn) hkY h3
  have h : At U g.method c below := by rw [hg]; exact X.here
  have hlocals9 : W9 + (maxL + 11) + (headSpec ws rm).room.locals ≤ R.locals := hlocals
  have happ : (headSpec ws rm).appliesLoose y e.platform (U.calling g mk a) = true :=
    Spec.appliesLoose_calling (g := g) h hdg hn hkY hinitY
      (X.room_calling (g := g) (R' := (headSpec ws rm).room) hsize hmY hcY hframes (by rw [hlY]; omega) h4 h5) h1
  obtain ⟨mid, hmid⟩ := h.above
  have hfr : (U.setTop g).frames = (.java g :: mid) ++ below := by rw [State.frames_setTop' g h.top, hmid]; rfl
  obtain ⟨o, s₂, hsteps, -, hend, hq⟩ := Steps.callFree hM p X.admits X.cas X.clock (acts := []) hfr happ hPc trivial
  have hq' : vx_Q Qc XC mc ms free a (U.calling g mk a) o s₂ := hq
  rw [State.frames_setTop' g h.top] at hend
  obtain ⟨g₀, hg0⟩ := Option.isSome_iff_exists.mp h.top
  obtain ⟨r, hr⟩ := State.topJava?_eq_some.mp hg0
  have hr' : (({ U with heap := s₂.heap, slotsUsed := s₂.slotsUsed } : State).setVm s₂.vm).frames = .java g₀ :: r := hr
  rcases hq' with ⟨hqc, L, hfe, hL⟩ | ⟨q, rfl, E, ce, L, hx, hce, hcv, hcl, hW₂, hsm, hL⟩
  · obtain ⟨⟨v, rfl⟩, hW₂, e2, q2, q3, q4, q5, q6⟩ := id hfe
    have e3 : s₂ = ({ (U.calling g mk a).setFrames s₂.frames with heap := s₂.heap, slotsUsed := s₂.slotsUsed } : State).setVm s₂.vm := by
      have : s₂ = ({ s₂ with vm := (U.calling g mk a).vm } : State).setVm s₂.vm := rfl
      rw [e2] at this
      exact this
    obtain ⟨c₂, i₂, len₂, hc₂, hd₂, hf₂⟩ := hend
    have hW' : U.WarmedH s₂.vm := hW₂
    have hcc : c₂ = c := by
      have h1 : s₂.code? g.method = U.code? g.method := by
        rw [State.code?_eq, State.code?_eq, hW'.alike.method?]
      exact Option.some.inj (hc₂.symm.trans (h1.trans h.code))
    subst hcc
    have hlen : len₂ = len := by rw [hdg] at hd₂; cases hd₂; rfl
    subst hlen
    have hs₂ : s₂ = (({ U with heap := s₂.heap, slotsUsed := s₂.slotsUsed } : State).setVm s₂.vm).setTop { g with pc := g.pc + len₂, stack := v.toList ++ g.stack } := by
      refine e3.trans ?_
      rw [hf₂, State.calling_eq h.top, State.setFrames_setFrames, State.setTop_of_frames _ hr', hr]
      rfl
    have hsame : U.sameButNew ({ U with heap := s₂.heap, slotsUsed := s₂.slotsUsed } : State) L mc ms := by
      refine ⟨?_, q2, q3, q4, q5, q6⟩
      obtain ⟨t, ht, -⟩ := State.frames_cons hr
      show ({ U with heap := s₂.heap, slotsUsed := s₂.slotsUsed } : State) = { U.setFrames U.frames with heap := s₂.heap, slotsUsed := s₂.slotsUsed }
      rw [State.setFrames_self ht]
    subst hg
    refine Or.inl ⟨v, ⟨(({ U with heap := s₂.heap, slotsUsed := s₂.slotsUsed } : State).setVm s₂.vm), Ls ++ L, c0 + mc, s0 + ms⟩,
      ⟨X.admits, X.cas, X.clock, X.frames, X.room, X.hears, X.method, X.code, (X.here.setHeapUsed s₂.heap s₂.slotsUsed).setVm hW'.alike, X.tail, State.WarmedH.trans X.warmed hW', X.limits, X.bytes, X.same.trans (hsame.setVm s.vm)⟩,
      ⟨g, mk, s₂, L, rfl, rfl, hqc, rfl, hL, rfl, rfl⟩, ?_⟩
    show Steps p.tables e below _ ((({ U with heap := s₂.heap, slotsUsed := s₂.slotsUsed } : State).setVm s₂.vm).setTop { g with pc := g.pc + len₂, stack := v.toList ++ g.stack })
    rw [← hs₂]
    exact hsteps
  · obtain ⟨e2, q2, q3, q4, q5, q6⟩ := id hsm
    have e3 : s₂ = ({ (U.calling g mk a).setFrames s₂.frames with heap := s₂.heap, slotsUsed := s₂.slotsUsed } : State).setVm s₂.vm := by
      have : s₂ = ({ s₂ with vm := (U.calling g mk a).vm } : State).setVm s₂.vm := rfl
      rw [e2] at this
      exact this
    have hf₂ : s₂.frames = .throwing q :: .java g :: U.frames.tail := hend
    have hW' : U.WarmedH s₂.vm := hW₂
    have hs₂ : s₂ = ((({ U with heap := s₂.heap, slotsUsed := s₂.slotsUsed } : State).setVm s₂.vm).setTop g).pushFrame (.throwing q) := by
      refine e3.trans ?_
      rw [hf₂, State.calling_eq h.top, State.setFrames_setFrames, State.pushFrame, State.frames_setTop _ hr', State.setTop_of_frames _ hr', State.setFrames_setFrames, hr]
      rfl
    have hsame : U.sameButNew ({ U with heap := s₂.heap, slotsUsed := s₂.slotsUsed } : State) L mc ms := by
      refine ⟨?_, q2, q3, q4, q5, q6⟩
      obtain ⟨t, ht, -⟩ := State.frames_cons hr
      show ({ U with heap := s₂.heap, slotsUsed := s₂.slotsUsed } : State) = { U.setFrames U.frames with heap := s₂.heap, slotsUsed := s₂.slotsUsed }
      rw [State.setFrames_self ht]
    subst hg
    refine Or.inr ⟨q, ⟨(({ U with heap := s₂.heap, slotsUsed := s₂.slotsUsed } : State).setVm s₂.vm), Ls ++ L, c0 + mc, s0 + ms⟩,
      ⟨X.admits, X.cas, X.clock, X.frames, X.room, X.hears, X.method, X.code, (X.here.setHeapUsed s₂.heap s₂.slotsUsed).setVm hW'.alike, X.tail, State.WarmedH.trans X.warmed hW', X.limits, X.bytes, X.same.trans (hsame.setVm s.vm)⟩,
      ⟨g, mk, s₂, L, E, ce, rfl, rfl, hx, hce, hcv, hcl, rfl, hL, rfl, rfl⟩, ?_⟩
    show Steps p.tables e below _ (((({ U with heap := s₂.heap, slotsUsed := s₂.slotsUsed } : State).setVm s₂.vm).setTop g).pushFrame (.throwing q))
    rw [← hs₂]
    exact hsteps
end Payer
section Calls
variable {p : Program} {l : Launch} {e : Env} {R : Room} {s : State} {m : MethodId} {args : Array Value} {below : List Frame} {meth : Method} {c : Code} {T : State} {locs : List Loc} {cells slots : Nat}
theorem vx_callV (X : Stand p l e R s m args below meth c T locs cells slots) (hexec : p.tables.exec = Jvm.exec) {own C : String} {index : Nat} {y : MethodName} {bytes : ByteArray} {maxL : Nat} {ret : Option FieldType}
    (hown : s.vm.findClass own = some m.cls) (hlink : (Cond.methodLink own index y).before args s = true) (hinst : (Cond.instanceMethod y).before args s = true) (hsel : (Cond.selects C y y).before args s = true)
    (hcode : (Cond.code y bytes maxL ret).before args s = true) (hy : y.cls ≠ "java/lang/invoke/MethodHandle" ∧ y.cls ≠ "java/lang/invoke/VarHandle")
    {W9 : Nat} {Pre : Pt → Array Value → Prop} {Post : Pt → Array Value → Option Value → Pt → Prop} {PostX : Pt → Array Value → Addr → Pt → Prop} (hK : vx_Back l R p e below s args y 3 W9 Pre Post PostX)
    {b : Addr} {cellB : Cell} (hcell : T.heap[b]? = some cellB) (hobj : cellB.vm.isStatics = false) (hcls : s.vm.findClass C = some cellB.cls)
    {g : JFrame} (hg : g.method = m) (hsize : g.locals.size = c.maxLocals) {argsL rest : List Value} (hlen : ∀ sig, parseMethodDescriptor y.desc = some sig → argsL.length = sig.parameters.length)
    (hstack : g.stack = argsL.reverse ++ .ref b :: rest) (hW : 2 * g.monitorRoom + (rest.map fun v => v.category).sum ≤ W9) (hdg : decode c.code g.pc = .ok (.invokevirtual index, 3))
    (hpre : ∀ vm₁, s.WarmedH vm₁ → Pre ⟨T.setVm vm₁, locs, cells, slots⟩ (Value.ref b :: argsL).toArray) :
    (∃ (v : Option Value) (vm₁ : Vm) (B : Pt), s.WarmedH vm₁ ∧ Stand p l e R s m args below meth c B.U B.locs B.cells B.slots ∧ Post ⟨T.setVm vm₁, locs, cells, slots⟩ (Value.ref b :: argsL).toArray v B ∧
      ∀ target, Steps p.tables e below (B.U.setTop { g with pc := g.pc + 3, stack := v.toList ++ rest }) target → Steps p.tables e below (T.setTop g) target) ∨
    (∃ (q : Addr) (vm₁ : Vm) (B : Pt), s.WarmedH vm₁ ∧ Stand p l e R s m args below meth c B.U B.locs B.cells B.slots ∧ PostX ⟨T.setVm vm₁, locs, cells, slots⟩ (Value.ref b :: argsL).toArray q B ∧
      Steps p.tables e below (T.setTop g) ((B.U.setTop { g with stack := rest }).pushFrame (.throwing q))) := by
  obtain ⟨mk, methM, hnamed, hmethM, hstM, habM⟩ := Cond.instanceMethod_spec hinst
  obtain ⟨methM', cM, hmethM', -, -, -, -, -, -, hsigM⟩ := Cond.code_spec hnamed hcode
  cases hmethM.symm.trans hmethM'
  obtain ⟨c2, r2, m2, q1, q2, q3, q4, kP, hkP, hkPi⟩ := Cond.selects_spec hsel
  cases hcls.symm.trans q1
  cases (State.methodFound?_of_named hnamed hy).symm.trans q2
  cases hnamed.symm.trans q3
  have hselP : selectMethod e.platform s.vm cellB.cls mk = .method mk := by rw [Launch.admits_selectMethod X.admits]; exact q4
  obtain ⟨vm₁, X₁, hstep₁⟩ := X.invokevirtual hexec hown hlink hnamed hmethM hstM hkP hkPi hy (a := b) (cell := cellB) hcell
    (fun z h => by rw [h] at hobj; cases hobj) hselP hmethM habM hkP hkPi (g := g) hg (argsL := argsL) (rest := rest) (hlen _ hsigM) hstack hdg
  rcases hK m meth c ⟨T.setVm vm₁, locs, cells, slots⟩ { g with stack := rest } (.invokevirtual index) mk (Value.ref b :: argsL).toArray X₁ hg hsize hdg hW (X₁.named hnamed) (hpre vm₁ X₁.warmed) with ⟨v, B, X', hpost, hsteps⟩ | ⟨q, B, X', hpost, hsteps⟩
  · exact Or.inl ⟨v, vm₁, B, X₁.warmed, X', hpost, fun target h => hstep₁ _ fun acts => by rw [doInvoke_state]; exact hsteps.trans h⟩
  · exact Or.inr ⟨q, vm₁, B, X₁.warmed, X', hpost, hstep₁ _ fun acts => by rw [doInvoke_state]; exact hsteps⟩
theorem vx_callS (X : Stand p l e R s m args below meth c T locs cells slots) (hexec : p.tables.exec = Jvm.exec) {own : String} {index : Nat} {y : MethodName} {bytes : ByteArray} {maxL : Nat} {ret : Option FieldType}
    (hown : s.vm.findClass own = some m.cls) (hlink : (Cond.methodLink own index y).before args s = true) (hstat : (Cond.static y).before args s = true) (hinit : (Cond.initialized y.cls).before args s = true)
    (hcode : (Cond.code y bytes maxL ret).before args s = true) (hy : y.cls ≠ "java/lang/invoke/MethodHandle" ∧ y.cls ≠ "java/lang/invoke/VarHandle")
    {W9 : Nat} {Pre : Pt → Array Value → Prop} {Post : Pt → Array Value → Option Value → Pt → Prop} {PostX : Pt → Array Value → Addr → Pt → Prop} (hK : vx_Back l R p e below s args y 3 W9 Pre Post PostX)
    {g : JFrame} (hg : g.method = m) (hsize : g.locals.size = c.maxLocals) {argsL rest : List Value} (hlen : ∀ sig, parseMethodDescriptor y.desc = some sig → argsL.length = sig.parameters.length)
    (hstack : g.stack = argsL.reverse ++ rest) (hW : 2 * g.monitorRoom + (rest.map fun v => v.category).sum ≤ W9) (hdg : decode c.code g.pc = .ok (.invokestatic index, 3))
    (hpre : ∀ vm₁, s.WarmedH vm₁ → Pre ⟨T.setVm vm₁, locs, cells, slots⟩ argsL.toArray) :
    (∃ (v : Option Value) (vm₁ : Vm) (B : Pt), s.WarmedH vm₁ ∧ Stand p l e R s m args below meth c B.U B.locs B.cells B.slots ∧ Post ⟨T.setVm vm₁, locs, cells, slots⟩ argsL.toArray v B ∧
      ∀ target, Steps p.tables e below (B.U.setTop { g with pc := g.pc + 3, stack := v.toList ++ rest }) target → Steps p.tables e below (T.setTop g) target) ∨
    (∃ (q : Addr) (vm₁ : Vm) (B : Pt), s.WarmedH vm₁ ∧ Stand p l e R s m args below meth c B.U B.locs B.cells B.slots ∧ PostX ⟨T.setVm vm₁, locs, cells, slots⟩ argsL.toArray q B ∧
      Steps p.tables e below (T.setTop g) ((B.U.setTop { g with stack := rest }).pushFrame (.throwing q))) := by
  obtain ⟨mk, hnamed⟩ := Cond.code_named hcode
  obtain ⟨methM, cM, hmethM, -, -, -, -, -, -, hsigM⟩ := Cond.code_spec hnamed hcode
  have hstatic : methM.isStatic = true := Cond.static_spec hnamed hmethM hstat
  obtain ⟨kP, hkP, -⟩ := className_of_methodNamed hnamed
  have hinitP : kP.init = .initialized := Cond.initialized_spec (findClass_of_methodNamed hnamed) hkP hinit
  obtain ⟨vm₁, X₁, hstep₁⟩ := X.invokestatic hexec hown hlink hnamed hmethM hstatic hkP hinitP hy (g := g) hg (argsL := argsL) (rest := rest) (hlen _ hsigM) hstack hdg
  rcases hK m meth c ⟨T.setVm vm₁, locs, cells, slots⟩ { g with stack := rest } (.invokestatic index) mk argsL.toArray X₁ hg hsize hdg hW (X₁.named hnamed) (hpre vm₁ X₁.warmed) with ⟨v, B, X', hpost, hsteps⟩ | ⟨q, B, X', hpost, hsteps⟩
  · exact Or.inl ⟨v, vm₁, B, X₁.warmed, X', hpost, fun target h => hstep₁ _ fun acts => by rw [doInvoke_state]; exact hsteps.trans h⟩
  · exact Or.inr ⟨q, vm₁, B, X₁.warmed, X', hpost, hstep₁ _ fun acts => by rw [doInvoke_state]; exact hsteps⟩
end Calls
theorem vx_cls {s : State} {T : State} {vm₁ : Vm} {E : String} {k : ClassId} (hW : s.WarmedH vm₁) (h : (T.setVm vm₁).vm.findClass E = some k) : s.vm.findClass E = some k := by
  have h1 : vm₁.findClass E = some k := h
  rw [hW.alike.findClass] at h1
  exact h1
/-- the method's frame g, with q thrown over it -/
def vx_W (p : Program) (l : Launch) (e : Env) (R : Room) (s : State) (m : MethodId) (args : Array Value) (below : List Frame) (meth : Method) (c : Code) (H : Heap) (locs : List Loc) (cells slots : Nat) (Q : State → Prop) (g : JFrame) (q : Addr) : Prop :=
  ∀ T : State, T.heap = H → Stand p l e R s m args below meth c T locs cells slots → ∃ t, Steps p.tables e below ((T.setTop g).pushFrame (.throwing q)) t ∧ Q t
def vx_Run (p : Program) (l : Launch) (e : Env) (R : Room) (s : State) (m : MethodId) (args : Array Value) (below : List Frame) (meth : Method) (c : Code) (H : Heap) (locs : List Loc) (cells slots mc ms : Nat) (g : JFrame) (rest : List Value) (Qa : State → Outcome → State → Prop) (XC : String → State → State → Prop) (free : Addr → Prop) : Prop :=
  ∀ T : State, T.heap = H → Stand p l e R s m args below meth c T locs cells slots →
    (∃ (v : Option Value) (st₀ t T' : State) (L : List Loc), st₀.heap = H ∧ Stand p l e R s m args below meth c T' (locs ++ L) (cells + mc) (slots + ms) ∧ (∀ q ∈ L, free q.base) ∧ T'.heap = t.heap ∧ T'.vm = t.vm ∧ Qa st₀ (.returned v) t ∧
      Goes p e below T g T' { g with pc := g.pc + 3, stack := v.toList ++ rest }) ∨
    (∃ (q : Addr) (st₀ t T' : State) (L : List Loc) (E : String) (ce : Cell), st₀.heap = H ∧ Stand p l e R s m args below meth c T' (locs ++ L) (cells + mc) (slots + ms) ∧ (∀ z ∈ L, free z.base) ∧ T'.heap = t.heap ∧ T'.vm = t.vm ∧ XC E st₀ t ∧ t.heap[q]? = some ce ∧ ce.vm = .none ∧ s.vm.findClass E = some ce.cls ∧
      Steps p.tables e below (T.setTop g) ((T'.setTop { g with stack := rest }).pushFrame (.throwing q)))
def vx_X {S : Type} (px : S → Prop) (B : String → S → State → Prop) (A : Nat → Prop) : String → State → State → Prop := fun E st t => ∃ u : S, px u ∧ B E u t ∧ va_F A st t
section Runs
variable {p : Program} {l : Launch} {e : Env} {R : Room} {s : State} {m : MethodId} {args : Array Value} {below : List Frame} {meth : Method} {c : Code} {H : Heap} {locs : List Loc} {cells slots : Nat}
variable {y : MethodName} {bytes cc : ByteArray} {maxL nL mc ms n index : Nat} {ret : Option FieldType} {ws : List Cond} {rm : Room} {Pc : Array Value → State → Prop} {Qc : Array Value → State → Outcome → State → Prop} {XC : String → State → State → Prop} {free : Addr → Prop} {Ts : List Cond} {own C : String} {b : Addr} {As rest : List Value} {g : JFrame}
theorem vx_callBack (cb : CallB R s args own index y bytes maxL ret ws rm mc ms n) (hM : vx_Met l y ws rm Pc Qc XC mc ms free) (hbl : FrameBlind Pc) : vx_Back l R p e below s args y 3 8 (PreOf R mc ms Pc) (PostOf Qc mc ms free) (vx_Post XC mc ms free) := by
  obtain ⟨hrc, hrs, hfr, hlo, hws, hcw, -, hini, -⟩ := cb
  exact vx_back (bytes := bytes) (maxL := maxL) (ret := ret) hM hbl hrc hrs hfr hlo hws hcw (fun a' U hW => word_at hW (Or.inl (by first | rfl | simp [Cond.onTables, Cond.keeps, Cond.steady])) hini)
theorem vx_runV (S : CallFix p m c cc nL s args Ts own) (hM : vx_Met l y ws rm Pc Qc XC mc ms free) (cw : CallW R s args own C index y bytes maxL ret ws rm mc ms n) (hp : PreV s H C b Pc As)
    (hg : g.method = m) (hn : As.length = n) (hsize : g.locals.size = nL) (hstack : g.stack = As.reverse ++ .ref b :: rest) (hW : 2 * g.monitorRoom + (rest.map fun v => v.category).sum ≤ 8) (hdg : decode cc g.pc = .ok (.invokevirtual index, 3)) (hf : cells + mc ≤ R.cells ∧ slots + ms ≤ R.slots) :
    vx_Run p l e R s m args below meth c H locs cells slots mc ms g rest (Qc (Value.ref b :: As).toArray) XC free := by
  have hK : vx_Back l R p e below s args y 3 8 (PreOf R mc ms Pc) (PostOf Qc mc ms free) (vx_Post XC mc ms free) := vx_callBack cw.1 hM hp.1
  obtain ⟨⟨-, -, -, -, -, -, hcode, -, hy, hlen, hl⟩, hin, hse⟩ := cw
  obtain ⟨hx, hb, hml, ho, -⟩ := S
  obtain ⟨-, ⟨cellB, hcB, hoB, hclB⟩, hPc⟩ := hp
  intro T hT X
  rcases vx_callV X hx (C := C) (bytes := bytes) (maxL := maxL) (ret := ret) ho hl hin hse hcode hy hK (by rw [hT]; exact hcB) hoB hclB hg (hsize.trans hml.symm) (argsL := As) (rest := rest) (fun sig h => hn.trans (hlen sig h)) hstack hW (by rw [hb]; exact hdg)
    (fun vm₁ hW₁ => ⟨hf.1, hf.2, hPc (T.setVm vm₁) hT hW₁⟩) with ⟨v, vm₁, ⟨U', l2, c2, s2⟩, hW₁, X', ⟨g', mk, t, L, e1, e2, hq, h1, hL, h2, h3⟩, st⟩ | ⟨q, vm₁, ⟨U', l2, c2, s2⟩, hW₁, X', ⟨g', mk, t, L, E, ce, e1, e2, hq, hce, hcv, hcl, h1, hL, h2, h3⟩, st⟩
  · dsimp only [Pt.U, Pt.locs, Pt.cells, Pt.slots] at X' e1 e2 h1 h2 h3 st
    subst h1; subst h2; subst h3
    exact Or.inl ⟨v, (T.setVm vm₁).calling g' mk (Value.ref b :: As).toArray, t, U', L, hT, X', hL, e1, e2, hq, st⟩
  · dsimp only [Pt.U, Pt.locs, Pt.cells, Pt.slots] at X' e1 e2 h1 h2 h3 st hcl
    subst h1; subst h2; subst h3
    exact Or.inr ⟨q, (T.setVm vm₁).calling g' mk (Value.ref b :: As).toArray, t, U', L, E, ce, hT, X', hL, e1, e2, hq, hce, hcv, vx_cls hW₁ hcl, st⟩
theorem vx_runS (S : CallFix p m c cc nL s args Ts own) (hM : vx_Met l y ws rm Pc Qc XC mc ms free) (cw : CallB R s args own index y bytes maxL ret ws rm mc ms n ∧ (Cond.static y).before args s = true) (hp : PreS s H Pc As)
    (hg : g.method = m) (hn : As.length = n) (hsize : g.locals.size = nL) (hstack : g.stack = As.reverse ++ rest) (hW : 2 * g.monitorRoom + (rest.map fun v => v.category).sum ≤ 8) (hdg : decode cc g.pc = .ok (.invokestatic index, 3)) (hf : cells + mc ≤ R.cells ∧ slots + ms ≤ R.slots) :
    vx_Run p l e R s m args below meth c H locs cells slots mc ms g rest (Qc As.toArray) XC free := by
  have hK : vx_Back l R p e below s args y 3 8 (PreOf R mc ms Pc) (PostOf Qc mc ms free) (vx_Post XC mc ms free) := vx_callBack cw.1 hM hp.1
  obtain ⟨⟨-, -, -, -, -, -, hcode, hini, hy, hlen, hl⟩, hstt⟩ := cw
  obtain ⟨hx, hb, hml, ho, -⟩ := S
  intro T hT X
  rcases vx_callS X hx (bytes := bytes) (maxL := maxL) (ret := ret) ho hl hstt hini hcode hy hK hg (hsize.trans hml.symm) (argsL := As) (rest := rest) (fun sig h => hn.trans (hlen sig h)) hstack hW (by rw [hb]; exact hdg)
    (fun vm₁ hW₁ => ⟨hf.1, hf.2, hp.2 (T.setVm vm₁) hT hW₁⟩) with ⟨v, vm₁, ⟨U', l2, c2, s2⟩, hW₁, X', ⟨g', mk, t, L, e1, e2, hq, h1, hL, h2, h3⟩, st⟩ | ⟨q, vm₁, ⟨U', l2, c2, s2⟩, hW₁, X', ⟨g', mk, t, L, E, ce, e1, e2, hq, hce, hcv, hcl, h1, hL, h2, h3⟩, st⟩
  · dsimp only [Pt.U, Pt.locs, Pt.cells, Pt.slots] at X' e1 e2 h1 h2 h3 st
    subst h1; subst h2; subst h3
    exact Or.inl ⟨v, (T.setVm vm₁).calling g' mk As.toArray, t, U', L, hT, X', hL, e1, e2, hq, st⟩
  · dsimp only [Pt.U, Pt.locs, Pt.cells, Pt.slots] at X' e1 e2 h1 h2 h3 st hcl
    subst h1; subst h2; subst h3
    exact Or.inr ⟨q, (T.setVm vm₁).calling g' mk As.toArray, t, U', L, E, ce, hT, X', hL, e1, e2, hq, hce, hcv, vx_cls hW₁ hcl, st⟩
end Runs
section Rows
variable {p : Program} {l : Launch} {e : Env} {R : Room} {s : State} {m : MethodId} {args : Array Value} {below : List Frame} {meth : Method} {c : Code} {H : Heap} {locs : List Loc} {cells slots : Nat} {Q : State → Prop}
variable {mc ms : Nat} {free : Addr → Prop} {A0 A1 : Nat → Prop} {H0 : Heap} {a : Array Value} {pc : Nat} {ls : Array Slot} {st0 rest : List Value}
theorem vx_keep {st₀ t T' : State} {L : List Loc} (h0 : st₀.heap = H) (e1 : T'.heap = t.heap) (hS : va_S A0 H0 H locs) (hA : ∀ q, q < H.size → A1 q → A0 q) (hf : ∀ q, free q → A0 q) (hL : ∀ q ∈ L, free q.base) (hF : va_F A1 st₀ t) :
    H.size ≤ T'.heap.size ∧ (∀ q : Nat, q < H.size → ¬ A1 q → T'.heap[q]? = H[q]?) ∧ va_S A0 H0 T'.heap (locs ++ L) := by
  obtain ⟨hz, hk⟩ := hF
  rw [h0] at hz hk
  exact ⟨by rw [e1]; exact hz, fun q h1 h2 => by rw [e1]; exact hk q h1 h2,
    ⟨Nat.le_trans hS.1 (by rw [e1]; exact hz), fun q h1 h2 => by rw [e1, hk q (Nat.lt_of_lt_of_le h1 hS.1) (fun z => h2 (hA q (Nat.lt_of_lt_of_le h1 hS.1) z))]; exact hS.2.1 q h1 h2, fun q hq => by
      rcases List.mem_append.mp hq with h | h
      · exact hS.2.2 q h
      · exact hf _ (hL q h)⟩⟩
theorem vx_calli {S SX : Type} {post : Int32 → S → Prop} {px : SX → Prop} {B : S → State → Prop} {BX : String → SX → State → Prop} {AX : Nat → Prop} (hr : vx_Run p l e R s m args below meth c H locs cells slots mc ms (F0 m pc ls st0) rest (va_Qi post B A1 a) (vx_X px BX AX) free) (hS : va_S A0 H0 H locs) (hA : ∀ q, q < H.size → A1 q → A0 q) (hf : ∀ q, free q → A0 q) (hAX : ∀ q, q < H.size → AX q → A0 q)
    (kx : ∀ (E : String) (ce : Cell) (q9 : Addr) (u : SX) (t : State) (H1 : Heap) (locs1 : List Loc), t.heap = H1 → s.vm.Alike t.vm → px u → BX E u t → H.size ≤ H1.size → (∀ q : Nat, q < H.size → ¬ AX q → H1[q]? = H[q]?) → va_S A0 H0 H1 locs1 → H1[q9]? = some ce → ce.vm = .none → s.vm.findClass E = some ce.cls → vx_W p l e R s m args below meth c H1 locs1 (cells + mc) (slots + ms) Q (F0 m pc ls rest) q9)
    (kk : ∀ (r : Int32) (u : S) (t : State) (H1 : Heap) (locs1 : List Loc), t.heap = H1 → s.vm.Alike t.vm → post r u → B u t → H.size ≤ H1.size → (∀ q : Nat, q < H.size → ¬ A1 q → H1[q]? = H[q]?) → va_S A0 H0 H1 locs1 → W p l e R s m args below meth c H1 locs1 (cells + mc) (slots + ms) Q (F0 m (pc + 3) ls (.int r :: rest))) : W p l e R s m args below meth c H locs cells slots Q (F0 m pc ls st0) := by
  intro T hT X
  rcases hr T hT X with ⟨v, st₀, t, T', L, h0, X', hL, e1, e2, ⟨⟨r, u, hv, hp, hb⟩, hF⟩, st⟩ | ⟨q, st₀, t, T', L, E, ce, h0, X', hL, e1, e2, ⟨u, hp, hb, hF⟩, hce, hcv, hcl, st⟩
  · cases hv
    obtain ⟨k1, k2, k3⟩ := vx_keep h0 e1 hS hA hf hL hF
    obtain ⟨t2, a1, b1⟩ := kk r u t T'.heap (locs ++ L) e1.symm (by rw [← e2]; exact X'.warmed.alike) hp hb k1 k2 k3 T' rfl X'
    exact ⟨t2, st t2 a1, b1⟩
  · obtain ⟨k1, k2, k3⟩ := vx_keep h0 e1 hS hAX hf hL hF
    obtain ⟨t2, a1, b1⟩ := kx E ce q u t T'.heap (locs ++ L) e1.symm (by rw [← e2]; exact X'.warmed.alike) hp hb k1 k2 k3 (by rw [e1]; exact hce) hcv hcl T' rfl X'
    exact ⟨t2, st.trans a1, b1⟩
theorem vx_calll {S SX : Type} {post : Int64 → S → Prop} {px : SX → Prop} {B : S → State → Prop} {BX : String → SX → State → Prop} {AX : Nat → Prop} (hr : vx_Run p l e R s m args below meth c H locs cells slots mc ms (F0 m pc ls st0) rest (va_Ql post B A1 a) (vx_X px BX AX) free) (hS : va_S A0 H0 H locs) (hA : ∀ q, q < H.size → A1 q → A0 q) (hf : ∀ q, free q → A0 q) (hAX : ∀ q, q < H.size → AX q → A0 q)
    (kx : ∀ (E : String) (ce : Cell) (q9 : Addr) (u : SX) (t : State) (H1 : Heap) (locs1 : List Loc), t.heap = H1 → s.vm.Alike t.vm → px u → BX E u t → H.size ≤ H1.size → (∀ q : Nat, q < H.size → ¬ AX q → H1[q]? = H[q]?) → va_S A0 H0 H1 locs1 → H1[q9]? = some ce → ce.vm = .none → s.vm.findClass E = some ce.cls → vx_W p l e R s m args below meth c H1 locs1 (cells + mc) (slots + ms) Q (F0 m pc ls rest) q9)
    (kk : ∀ (r : Int64) (u : S) (t : State) (H1 : Heap) (locs1 : List Loc), t.heap = H1 → s.vm.Alike t.vm → post r u → B u t → H.size ≤ H1.size → (∀ q : Nat, q < H.size → ¬ A1 q → H1[q]? = H[q]?) → va_S A0 H0 H1 locs1 → W p l e R s m args below meth c H1 locs1 (cells + mc) (slots + ms) Q (F0 m (pc + 3) ls (.long r :: rest))) : W p l e R s m args below meth c H locs cells slots Q (F0 m pc ls st0) := by
  intro T hT X
  rcases hr T hT X with ⟨v, st₀, t, T', L, h0, X', hL, e1, e2, ⟨⟨r, u, hv, hp, hb⟩, hF⟩, st⟩ | ⟨q, st₀, t, T', L, E, ce, h0, X', hL, e1, e2, ⟨u, hp, hb, hF⟩, hce, hcv, hcl, st⟩
  · cases hv
    obtain ⟨k1, k2, k3⟩ := vx_keep h0 e1 hS hA hf hL hF
    obtain ⟨t2, a1, b1⟩ := kk r u t T'.heap (locs ++ L) e1.symm (by rw [← e2]; exact X'.warmed.alike) hp hb k1 k2 k3 T' rfl X'
    exact ⟨t2, st t2 a1, b1⟩
  · obtain ⟨k1, k2, k3⟩ := vx_keep h0 e1 hS hAX hf hL hF
    obtain ⟨t2, a1, b1⟩ := kx E ce q u t T'.heap (locs ++ L) e1.symm (by rw [← e2]; exact X'.warmed.alike) hp hb k1 k2 k3 (by rw [e1]; exact hce) hcv hcl T' rfl X'
    exact ⟨t2, st.trans a1, b1⟩
theorem vx_callf {S SX : Type} {post : UInt32 → S → Prop} {px : SX → Prop} {B : S → State → Prop} {BX : String → SX → State → Prop} {AX : Nat → Prop} (hr : vx_Run p l e R s m args below meth c H locs cells slots mc ms (F0 m pc ls st0) rest (va_Qf post B A1 a) (vx_X px BX AX) free) (hS : va_S A0 H0 H locs) (hA : ∀ q, q < H.size → A1 q → A0 q) (hf : ∀ q, free q → A0 q) (hAX : ∀ q, q < H.size → AX q → A0 q)
    (kx : ∀ (E : String) (ce : Cell) (q9 : Addr) (u : SX) (t : State) (H1 : Heap) (locs1 : List Loc), t.heap = H1 → s.vm.Alike t.vm → px u → BX E u t → H.size ≤ H1.size → (∀ q : Nat, q < H.size → ¬ AX q → H1[q]? = H[q]?) → va_S A0 H0 H1 locs1 → H1[q9]? = some ce → ce.vm = .none → s.vm.findClass E = some ce.cls → vx_W p l e R s m args below meth c H1 locs1 (cells + mc) (slots + ms) Q (F0 m pc ls rest) q9)
    (kk : ∀ (r : UInt32) (u : S) (t : State) (H1 : Heap) (locs1 : List Loc), t.heap = H1 → s.vm.Alike t.vm → post r u → B u t → H.size ≤ H1.size → (∀ q : Nat, q < H.size → ¬ A1 q → H1[q]? = H[q]?) → va_S A0 H0 H1 locs1 → W p l e R s m args below meth c H1 locs1 (cells + mc) (slots + ms) Q (F0 m (pc + 3) ls (.float r :: rest))) : W p l e R s m args below meth c H locs cells slots Q (F0 m pc ls st0) := by
  intro T hT X
  rcases hr T hT X with ⟨v, st₀, t, T', L, h0, X', hL, e1, e2, ⟨⟨r, u, hv, hp, hb⟩, hF⟩, st⟩ | ⟨q, st₀, t, T', L, E, ce, h0, X', hL, e1, e2, ⟨u, hp, hb, hF⟩, hce, hcv, hcl, st⟩
  · cases hv
    obtain ⟨k1, k2, k3⟩ := vx_keep h0 e1 hS hA hf hL hF
    obtain ⟨t2, a1, b1⟩ := kk r u t T'.heap (locs ++ L) e1.symm (by rw [← e2]; exact X'.warmed.alike) hp hb k1 k2 k3 T' rfl X'
    exact ⟨t2, st t2 a1, b1⟩
  · obtain ⟨k1, k2, k3⟩ := vx_keep h0 e1 hS hAX hf hL hF
    obtain ⟨t2, a1, b1⟩ := kx E ce q u t T'.heap (locs ++ L) e1.symm (by rw [← e2]; exact X'.warmed.alike) hp hb k1 k2 k3 (by rw [e1]; exact hce) hcv hcl T' rfl X'
    exact ⟨t2, st.trans a1, b1⟩
theorem vx_calld {S SX : Type} {post : UInt64 → S → Prop} {px : SX → Prop} {B : S → State → Prop} {BX : String → SX → State → Prop} {AX : Nat → Prop} (hr : vx_Run p l e R s m args below meth c H locs cells slots mc ms (F0 m pc ls st0) rest (va_Qd post B A1 a) (vx_X px BX AX) free) (hS : va_S A0 H0 H locs) (hA : ∀ q, q < H.size → A1 q → A0 q) (hf : ∀ q, free q → A0 q) (hAX : ∀ q, q < H.size → AX q → A0 q)
    (kx : ∀ (E : String) (ce : Cell) (q9 : Addr) (u : SX) (t : State) (H1 : Heap) (locs1 : List Loc), t.heap = H1 → s.vm.Alike t.vm → px u → BX E u t → H.size ≤ H1.size → (∀ q : Nat, q < H.size → ¬ AX q → H1[q]? = H[q]?) → va_S A0 H0 H1 locs1 → H1[q9]? = some ce → ce.vm = .none → s.vm.findClass E = some ce.cls → vx_W p l e R s m args below meth c H1 locs1 (cells + mc) (slots + ms) Q (F0 m pc ls rest) q9)
    (kk : ∀ (r : UInt64) (u : S) (t : State) (H1 : Heap) (locs1 : List Loc), t.heap = H1 → s.vm.Alike t.vm → post r u → B u t → H.size ≤ H1.size → (∀ q : Nat, q < H.size → ¬ A1 q → H1[q]? = H[q]?) → va_S A0 H0 H1 locs1 → W p l e R s m args below meth c H1 locs1 (cells + mc) (slots + ms) Q (F0 m (pc + 3) ls (.double r :: rest))) : W p l e R s m args below meth c H locs cells slots Q (F0 m pc ls st0) := by
  intro T hT X
  rcases hr T hT X with ⟨v, st₀, t, T', L, h0, X', hL, e1, e2, ⟨⟨r, u, hv, hp, hb⟩, hF⟩, st⟩ | ⟨q, st₀, t, T', L, E, ce, h0, X', hL, e1, e2, ⟨u, hp, hb, hF⟩, hce, hcv, hcl, st⟩
  · cases hv
    obtain ⟨k1, k2, k3⟩ := vx_keep h0 e1 hS hA hf hL hF
    obtain ⟨t2, a1, b1⟩ := kk r u t T'.heap (locs ++ L) e1.symm (by rw [← e2]; exact X'.warmed.alike) hp hb k1 k2 k3 T' rfl X'
    exact ⟨t2, st t2 a1, b1⟩
  · obtain ⟨k1, k2, k3⟩ := vx_keep h0 e1 hS hAX hf hL hF
    obtain ⟨t2, a1, b1⟩ := kx E ce q u t T'.heap (locs ++ L) e1.symm (by rw [← e2]; exact X'.warmed.alike) hp hb k1 k2 k3 (by rw [e1]; exact hce) hcv hcl T' rfl X'
    exact ⟨t2, st.trans a1, b1⟩
theorem vx_callv {S SX : Type} {post : S → Prop} {px : SX → Prop} {B : S → State → Prop} {BX : String → SX → State → Prop} {AX : Nat → Prop} (hr : vx_Run p l e R s m args below meth c H locs cells slots mc ms (F0 m pc ls st0) rest (va_Qv post B A1 a) (vx_X px BX AX) free) (hS : va_S A0 H0 H locs) (hA : ∀ q, q < H.size → A1 q → A0 q) (hf : ∀ q, free q → A0 q) (hAX : ∀ q, q < H.size → AX q → A0 q)
    (kx : ∀ (E : String) (ce : Cell) (q9 : Addr) (u : SX) (t : State) (H1 : Heap) (locs1 : List Loc), t.heap = H1 → s.vm.Alike t.vm → px u → BX E u t → H.size ≤ H1.size → (∀ q : Nat, q < H.size → ¬ AX q → H1[q]? = H[q]?) → va_S A0 H0 H1 locs1 → H1[q9]? = some ce → ce.vm = .none → s.vm.findClass E = some ce.cls → vx_W p l e R s m args below meth c H1 locs1 (cells + mc) (slots + ms) Q (F0 m pc ls rest) q9)
    (kk : ∀ (u : S) (t : State) (H1 : Heap) (locs1 : List Loc), t.heap = H1 → s.vm.Alike t.vm → post u → B u t → H.size ≤ H1.size → (∀ q : Nat, q < H.size → ¬ A1 q → H1[q]? = H[q]?) → va_S A0 H0 H1 locs1 → W p l e R s m args below meth c H1 locs1 (cells + mc) (slots + ms) Q (F0 m (pc + 3) ls (rest))) : W p l e R s m args below meth c H locs cells slots Q (F0 m pc ls st0) := by
  intro T hT X
  rcases hr T hT X with ⟨v, st₀, t, T', L, h0, X', hL, e1, e2, ⟨⟨u, hv, hp, hb⟩, hF⟩, st⟩ | ⟨q, st₀, t, T', L, E, ce, h0, X', hL, e1, e2, ⟨u, hp, hb, hF⟩, hce, hcv, hcl, st⟩
  · cases hv
    obtain ⟨k1, k2, k3⟩ := vx_keep h0 e1 hS hA hf hL hF
    obtain ⟨t2, a1, b1⟩ := kk u t T'.heap (locs ++ L) e1.symm (by rw [← e2]; exact X'.warmed.alike) hp hb k1 k2 k3 T' rfl X'
    exact ⟨t2, st t2 a1, b1⟩
  · obtain ⟨k1, k2, k3⟩ := vx_keep h0 e1 hS hAX hf hL hF
    obtain ⟨t2, a1, b1⟩ := kx E ce q u t T'.heap (locs ++ L) e1.symm (by rw [← e2]; exact X'.warmed.alike) hp hb k1 k2 k3 (by rw [e1]; exact hce) hcv hcl T' rfl X'
    exact ⟨t2, st.trans a1, b1⟩
/-- caught by the row x of this method's table; the rows ahead don't take it -/
theorem vx_catch {own name : String} {E : String} {ce : Cell} {q : Addr} (hown : s.vm.findClass own = some m.cls) (pre : List ExceptionTableEntry) (x : ExceptionTableEntry) (suf : List ExceptionTableEntry) (hsplit : c.exceptionTable.toList = pre ++ x :: suf)
    (hpass : ∀ z ∈ pre, covers z pc = false ∨ (z.catchType ≠ 0 ∧ ∃ nm : String, (Cond.classLink own z.catchType nm).before args s = true ∧ va_Nc E nm s)) (hx : covers x pc = true) (h0 : x.catchType ≠ 0)
    (hlink : (Cond.classLink own x.catchType name).before args s = true) (hcast : (Cond.castable E name).before args s = true) (hcell : H[q]? = some ce) (hv : ce.vm = .none) (hcl : s.vm.findClass E = some ce.cls)
    (kk : W p l e R s m args below meth c H locs cells slots Q (F0 m x.handlerPc ls [.ref q])) : vx_W p l e R s m args below meth c H locs cells slots Q (F0 m pc ls rest) q := by
  intro T hT X
  have hpl : e.platform.magicAccessors = ({} : Platform).magicAccessors := by rw [X.admits.platform]
  obtain ⟨c3, c4, hc3, hc4, hasg⟩ := Cond.castable_spec hcast
  cases Option.some.inj (hc3.symm.trans hcl)
  obtain ⟨c5, hc5, hcl5⟩ := Cond.classLink_spec hown hlink e.platform hpl
  cases Option.some.inj (hc4.symm.trans hc5)
  obtain ⟨vm', X', st⟩ := X.thenCaughtThrough q (g := F0 m pc ls rest) rfl (Steps.refl _) (by rw [hT]; exact hcell) (by rw [hv]; rfl) (by obtain ⟨k9, h9, -⟩ := Vm.findClass_spec hcl; exact ⟨k9, h9⟩) pre x suf hsplit
    (fun z hz => by
      rcases hpass z hz with h | ⟨hz0, nm, hl1, hn1⟩
      · exact Or.inl h
      · obtain ⟨c6, hc6, hcl6⟩ := Cond.classLink_spec hown hl1 e.platform hpl
        obtain ⟨a8, b8, h1, h2, h3⟩ := hn1
        cases Option.some.inj (h1.symm.trans hcl)
        cases Option.some.inj (h2.symm.trans hc6)
        exact Or.inr ⟨hz0, _, hcl6, h3⟩) hx (Or.inr ⟨h0, c4, hcl5, hasg⟩)
  obtain ⟨t, a1, b1⟩ := kk (T.setVm vm') hT X'
  exact ⟨t, st.trans a1, b1⟩
end Rows
section Ends
variable {p : Program} {l : Launch} {e : Env} {R : Room} {s : State} {m : MethodId} {args : Array Value} {below : List Frame} {meth : Method} {c : Code} {H : Heap} {locs : List Loc} {cells slots : Nat} {Q : State → Prop}
variable {mc ms : Nat} {free : Addr → Prop} {A0 A1 : Nat → Prop} {H0 : Heap} {a : Array Value} {ls : Array Slot} {st0 rest : List Value}
variable {Qc : Array Value → State → Outcome → State → Prop} {XC : String → State → State → Prop}
/-- what a body that may throw owes at its end -/
def vx_MQ (below : List Frame) (Qc : Array Value → State → Outcome → State → Prop) (XC : String → State → State → Prop) (a : Array Value) (s : State) (mc ms : Nat) (free : Addr → Prop) : State → Prop := fun t =>
  ∃ o, t.status = .running ∧ Ended t below o ∧ vx_Q Qc XC mc ms free a s o t
theorem vx_ret {g : JFrame} {mc ms : Nat} (k : W p l e R s m args below meth c H locs cells slots (MQ below Qc args s mc ms free) g) : W p l e R s m args below meth c H locs cells slots (vx_MQ below Qc XC args s mc ms free) g := by
  intro T hT X
  obtain ⟨t, a1, o, b1, b2, b3, b4⟩ := k T hT X
  exact ⟨t, a1, o, b1, b2, Or.inl ⟨b3, b4⟩⟩
/-- not caught here: it goes on to the caller -/
theorem vx_widen {g : JFrame} {q : Addr} {k n : Nat} (h1 : cells ≤ k) (h2 : slots ≤ n) (kk : vx_W p l e R s m args below meth c H locs k n Q g q) : vx_W p l e R s m args below meth c H locs cells slots Q g q := fun T hT X => kk T hT (stand_widen X h1 h2)
theorem vx_out {pc : Nat} {E : String} {ce : Cell} {q : Addr} {mc ms : Nat} (hout : ∀ x ∈ c.exceptionTable.toList, covers x pc = false) (hlocks : meth.locks = false) (hcell : H[q]? = some ce) (hv : ce.vm = .none) (hcl : s.vm.findClass E = some ce.cls)
    (hx : ∀ t : State, t.heap = H → s.vm.Alike t.vm → XC E s t) (hf : ∀ z ∈ locs, free z.base) (hc : cells ≤ mc) (hs : slots ≤ ms) :
    vx_W p l e R s m args below meth c H locs cells slots (vx_MQ below Qc XC args s mc ms free) (F0 m pc ls rest) q := by
  intro T hT X
  obtain ⟨st1, hrun, hend, hW, hsm⟩ := X.leaveThrown q (g := F0 m pc ls rest) rfl rfl rfl hout hlocks
  have hcell9 : (T.setFrames (.throwing q :: below)).heap[q]? = some ce := by
    show T.heap[q]? = some ce
    rw [hT]; exact hcell
  exact ⟨_, st1, .threw q, hrun, hend, Or.inr ⟨q, rfl, E, ce, locs, hx _ hT hW.alike, hcell9, hv, hcl, hW, hsm.mono hc hs, hf⟩⟩
theorem vx_frame {U : State} {k n : Nat} (h : s.sameButNew ({ U with vm := s.vm } : State) locs k n) : s.heap.size ≤ U.heap.size ∧ ∀ q : Nat, q < s.heap.size → (∀ z ∈ locs, z.base ≠ q) → U.heap[q]? = s.heap[q]? := by
  obtain ⟨-, h2, -, -, -, h6⟩ := h
  refine ⟨h2, fun q hq hz => ?_⟩
  obtain ⟨c9, e1, e2, e3, e4⟩ := h6 q _ (Array.getElem?_eq_getElem hq)
  have hs : c9.slots = (s.heap[q]).slots := Array.ext_getElem? fun i => e4 i fun hm => hz _ hm rfl
  have h9 : c9 = s.heap[q] := by
    rw [hs] at e2
    exact e2
  have e5 : U.heap[q]? = some c9 := e1
  rw [e5, h9, Array.getElem?_eq_getElem hq]
/-- the words of a throw but the four that speak of the heap -/
def vx_no (w : Cond) : Bool := decide (w ≠ .isRef (.static Bundle.tN "UNASSIGNED_STACK" Bundle.steD)) && decide (w ≠ .isRef (.static Bundle.tN "SUPPRESSED_SENTINEL" Bundle.listD)) && decide (w ≠ .laysStatic Bundle.tN "UNASSIGNED_STACK" Bundle.steD) && decide (w ≠ .laysStatic Bundle.tN "SUPPRESSED_SENTINEL" Bundle.listD)
def vx_at0 (own : String) (ic : Nat) (X : String) (names : List String) : List Cond := (Bundle.ownAtoms0 own ic X names).filter vx_no
def vx_atS (own : String) (ic : Nat) (X : String) (names : List String) : List Cond := (Bundle.ownAtoms own ic X names).filter vx_no
/-- a word that the tables alone decide, or a good one -/
def vx_ot (w : Cond) : Bool := w.onTables || goodWord w
theorem vx_ot_at {args a' : Array Value} {s U : State} {w : Cond} (hW : s.WarmedH U.vm) (hvm : s.vm = U.vm) (hg : vx_ot w = true) (h : w.before args s = true) : w.before a' U = true := by
  simp only [vx_ot, Bool.or_eq_true] at hg
  rcases hg with hg | hg
  · exact va_tabs hg hvm h
  · exact word_at hW (good_of_word hg) h
/-- a list's words: the good ones out of the method's own list, the others by premises of their own -/
theorem vx_hat {args : Array Value} {s : State} {L B : List Cond} (h1 : ∀ w ∈ L.filter goodWord, w.before args s = true) (h2 : ∀ w ∈ L.filter (fun w => !goodWord w), w ∈ B) (h3 : ∀ w ∈ B, w.before args s = true) : ∀ w ∈ L, w.before args s = true := by
  intro w hw
  by_cases g : goodWord w = true
  · exact h1 w (List.mem_filter.mpr ⟨hw, g⟩)
  · refine h3 w (h2 w (List.mem_filter.mpr ⟨hw, ?_⟩))
    show (!goodWord w) = true
    cases hgw : goodWord w
    · rfl
    · exact absurd hgw g
theorem vx_c {args : Array Value} {s : State} {w : Cond} {B : List Cond} (h : w.before args s = true) (t : ∀ w ∈ B, w.before args s = true) : ∀ w' ∈ w :: B, w'.before args s = true := fun w' h' => (List.mem_cons.mp h').elim (fun e => by rw [e]; exact h) (t w')
theorem vx_n {args : Array Value} {s : State} : ∀ w ∈ ([] : List Cond), w.before args s = true := fun _ h => nomatch h
theorem vx_own {args : Array Value} {s : State} {L : List Cond} (h1 : ∀ w ∈ L.filter vx_no, w.before args s = true)
    (hU : (Cond.isRef (.static Bundle.tN "UNASSIGNED_STACK" Bundle.steD)).before args s = true) (hN : (Cond.isRef (.static Bundle.tN "SUPPRESSED_SENTINEL" Bundle.listD)).before args s = true)
    (lU : (Cond.laysStatic Bundle.tN "UNASSIGNED_STACK" Bundle.steD).before args s = true) (lN : (Cond.laysStatic Bundle.tN "SUPPRESSED_SENTINEL" Bundle.listD).before args s = true) : ∀ w ∈ L, w.before args s = true := by
  intro w hw
  by_cases e1 : w = .isRef (.static Bundle.tN "UNASSIGNED_STACK" Bundle.steD)
  · rw [e1]; exact hU
  · by_cases e2 : w = .isRef (.static Bundle.tN "SUPPRESSED_SENTINEL" Bundle.listD)
    · rw [e2]; exact hN
    · by_cases e3 : w = .laysStatic Bundle.tN "UNASSIGNED_STACK" Bundle.steD
      · rw [e3]; exact lU
      · by_cases e4 : w = .laysStatic Bundle.tN "SUPPRESSED_SENTINEL" Bundle.listD
        · rw [e4]; exact lN
        · exact h1 w (List.mem_filter.mpr ⟨hw, by unfold vx_no; rw [decide_eq_true e1, decide_eq_true e2, decide_eq_true e3, decide_eq_true e4]; rfl⟩)
/-- where a static field lies, its class's statics cell in H -/
def vx_L (C n d : String) (A : Nat → Prop) (U : State) (H : Heap) : Prop := ∃ (c : ClassId) (k : Class) (i : Nat) (f : Field) (a : Nat) (cell : Cell), U.vm.findClass C = some c ∧ U.fieldFound? C n d = some (c, k, i, f) ∧ f.isStatic = true ∧ k.statics = some a ∧ H[a]? = some cell ∧ cell.vm.isStatics = true ∧ cell.cls = c ∧ f.slot < cell.slots.size ∧ k.staticTypes[f.slot]? = some f.type ∧ ¬ A a
theorem vx_L.moved {C n d : String} {A : Nat → Prop} {u U : State} {H : Heap} (hvm : u.vm.Alike U.vm) (h : vx_L C n d A u H) : vx_L C n d A U H := by
  obtain ⟨c, k, i, f, a, cell, h1, h2, h3, h4, h5, h6, h7, h8, h9, h10⟩ := h
  obtain ⟨k', hi', he⟩ := State.fieldFound?_setVm hvm h2
  exact ⟨c, k', i, f, a, cell, by rw [hvm.findClass]; exact h1, hi', h3, by rw [he]; exact h4, h5, h6, h7, h8, by rw [he]; exact h9, h10⟩
theorem vx_L.kept {C n d : String} {A : Nat → Prop} {U : State} {H H1 : Heap} (h : vx_L C n d A U H) (hq : ∀ a : Nat, a < H.size → ¬ A a → H1[a]? = H[a]?) : vx_L C n d A U H1 := by
  obtain ⟨c, k, i, f, a, cell, h1, h2, h3, h4, h5, h6, h7, h8, h9, h10⟩ := h
  exact ⟨c, k, i, f, a, cell, h1, h2, h3, h4, by rw [hq a (Array.getElem?_eq_some_iff.mp h5).1 h10]; exact h5, h6, h7, h8, h9, h10⟩
theorem vx_L.narrow {C n d : String} {A B : Nat → Prop} {U : State} {H : Heap} (h : vx_L C n d A U H) (hAB : ∀ q, B q → A q) : vx_L C n d B U H := by
  obtain ⟨c, k, i, f, a, cell, h1, h2, h3, h4, h5, h6, h7, h8, h9, h10⟩ := h
  exact ⟨c, k, i, f, a, cell, h1, h2, h3, h4, h5, h6, h7, h8, h9, fun z => h10 (hAB _ z)⟩
theorem vx_L.word {C n d : String} {A : Nat → Prop} {s : State} {args : Array Value} (h : vx_L C n d A s s.heap) : (Cond.laysStatic C n d).before args s = true := by
  obtain ⟨c, k, i, f, a, cell, h1, h2, h3, h4, h5, h6, h7, h8, h9, -⟩ := h
  show (Cond.laysStatic C n d).holds args s none s [] = true
  exact Cond.laysStatic_of h1 h2 h3 h4 h5 h6 h7 h8 h9
/-- .. and what it holds: null or some reference -/
def vx_Zq (C n d : String) (A : Nat → Prop) (U : State) (H : Heap) : Prop := va_Zq C n d A U H ∧ vx_L C n d A U H
theorem vx_Zq.moved {C n d : String} {A : Nat → Prop} {u U : State} {H : Heap} (hvm : u.vm.Alike U.vm) (h : vx_Zq C n d A u H) : vx_Zq C n d A U H := ⟨va_Zq.moved hvm h.1, vx_L.moved hvm h.2⟩
theorem vx_Zq.kept {C n d : String} {A : Nat → Prop} {U : State} {H H1 : Heap} (h : vx_Zq C n d A U H) (hq : ∀ a : Nat, a < H.size → ¬ A a → H1[a]? = H[a]?) : vx_Zq C n d A U H1 := ⟨va_Zq.kept h.1 hq, vx_L.kept h.2 hq⟩
theorem vx_Zq.narrow {C n d : String} {A B : Nat → Prop} {U : State} {H : Heap} (h : vx_Zq C n d A U H) (hAB : ∀ q, B q → A q) : vx_Zq C n d B U H := ⟨va_Zq.narrow h.1 hAB, vx_L.narrow h.2 hAB⟩
theorem vx_Zqof {args : Array Value} {s : State} {C n d : String} {A : Nat → Prop} (hl : (Cond.laysStatic C n d).before args s = true) (hini : (Cond.initialized C).before args s = true) (h : (Cond.isRef (.static C n d)).before args s = true) (hA : ∀ a : Nat, a < s.heap.size → ¬ A a) : vx_Zq C n d A s s.heap := by
  refine ⟨va_Zqof hl hini h hA, ?_⟩
  obtain ⟨c, k, i, f, a, cell, h1, h2, h3, h4, h5, h6, h7, h8, h9⟩ := Cond.laysStatic_spec hl
  exact ⟨c, k, i, f, a, cell, h1, h2, h3, h4, h5, h6, h7, h8, h9, hA a (Array.getElem?_eq_some_iff.mp h5).1⟩
theorem vx_isRef {C n d : String} {v : Value} {A : Nat → Prop} {s : State} {args : Array Value} (h : va_Z C n d v A s s.heap) (hv : v.isRef = true) : (Cond.isRef (.static C n d)).before args s = true := by
  obtain ⟨cf, kf, fi, f, a, cell, h1, h2, h3, h4, h5, h6, h7, -⟩ := h
  have he : (Term.static C n d).eval args s none [] s = some v := by
    simp [Term.eval, State.fieldNamed?, h1, h2, h4, h5, h6, h7]
  simp only [Cond.before, Cond.holds, Cond.value, he]
  cases v <;> simp_all [Value.isRef]
theorem vx_isRefq {C n d : String} {A : Nat → Prop} {s : State} {args : Array Value} (h : va_Zq C n d A s s.heap) : (Cond.isRef (.static C n d)).before args s = true := by
  rcases h with h | ⟨t, h⟩
  · exact vx_isRef h rfl
  · exact vx_isRef h rfl
/-- the same frame, seen from here: as if the method were called anew in this heap -/
theorem vx_rebase {T : State} (X : Stand p l e R s m args below meth c T locs cells slots) {R' : Room} (hf : R'.frames ≤ R.frames) (hl : R'.locals ≤ R.locals) (hc : cells + R'.cells ≤ R.cells) (hs : slots + R'.slots ≤ R.slots) :
    Stand p l e R' ((T.setVm s.vm).setFrames (.invoking m args :: below)) m args below meth c T [] 0 0 := by
  have htop : (T.setVm s.vm).topJava?.isSome := X.here.top
  have hF : ((T.setVm s.vm).setFrames (.invoking m args :: below)).frames = .invoking m args :: below := State.frames_setFrames _ (State.cur_lt_of_top htop)
  obtain ⟨g₀, hg0⟩ := Option.isSome_iff_exists.mp htop
  obtain ⟨r, hr⟩ := State.topJava?_eq_some.mp hg0
  have hl9 : e.platform.stackLimits (T.setVm s.vm).me = e.platform.stackLimits s.me := X.limits
  have hb9 : (T.setVm s.vm).me.stackBytes = s.me.stackBytes := X.bytes
  refine ⟨X.admits, X.cas, X.clock, hF, ?_, X.hears, X.method, X.code, X.here, X.tail, X.warmed, ?_, ?_, ?_⟩
  · have h := X.room
    have hU : ((T.setVm s.vm).setFrames (.invoking m args :: below)).localsInUse = s.localsInUse := by
      rw [State.localsInUse_invoking hF (meth := meth) (c := c) X.method X.code, State.localsInUse_invoking X.frames X.method X.code]
    simp only [State.hasRoom, Bool.and_eq_true, decide_eq_true_eq] at h ⊢
    obtain ⟨⟨⟨⟨h1, h2, h3, h4, h5, h6⟩, h7⟩, h8⟩, h9⟩ := h
    rw [X.frames, List.length_cons] at h2 h3
    have q1 := X.heapSize
    have q2 := X.used
    simp only [hF, hU, List.length_cons, State.stackLimits_setFrames, State.stackBytes_setFrames, hl9, hb9]
    refine ⟨⟨⟨⟨by omega, by omega, by omega, by omega, by omega, h6⟩, ?_⟩, ?_⟩, X.book⟩
    · show T.heap.size + R'.cells ≤ e.platform.maxCells
      omega
    · show T.slotsUsed + R'.slots ≤ e.platform.maxSlots
      omega
  · rw [State.stackLimits_setFrames]; rfl
  · rw [State.stackBytes_setFrames]; rfl
  · refine ⟨?_, Nat.le_refl _, Nat.le_refl _, ?_, ?_, fun a c9 h9 => ⟨c9, h9, rfl, rfl, fun _ _ => rfl⟩⟩
    · obtain ⟨t, ht, -⟩ := State.frames_cons hr
      show T.setVm s.vm = { ((T.setVm s.vm).setFrames (.invoking m args :: below)).setFrames (T.setVm s.vm).frames with heap := T.heap, slotsUsed := T.slotsUsed }
      rw [State.setFrames_setFrames, State.setFrames_self ht]
      rfl
    · show T.slotsUsed = T.slotsUsed + ((T.heap.toList.drop T.heap.size).map (·.slots.size)).sum
      rw [List.drop_eq_nil_of_le (Nat.le_of_eq Array.length_toList)]
      rfl
    · show ((T.heap.toList.drop T.heap.size).map (·.slots.size)).sum ≤ 0
      rw [List.drop_eq_nil_of_le (Nat.le_of_eq Array.length_toList)]
      exact Nat.le_refl _
/-- 'throw new E()': new; dup; invokespecial; athrow -/
theorem vx_throw0 {cc : ByteArray} {pc : Nat} (hexec : p.tables.exec = Jvm.exec) (hb : c.code = cc) (hl : l.stackTraces = false) {own cls : String} {names : List String} {ik ic mc ms : Nat} {A : Nat → Prop}
    (hown : s.vm.findClass own = some m.cls) (hcls : Bundle.fit cls = true) (hnames : ∀ n ∈ names, Bundle.fit n = true)
    (hk : (Cond.classLink own ik cls).before args s = true) (hini : (Cond.initialized cls).before args s = true) (hat : ∀ w ∈ vx_at0 own ic cls names, w.before args s = true)
    (hgood : ∀ w ∈ Cond.classLink own ik cls :: Cond.initialized cls :: vx_at0 own ic cls names, vx_ot w = true)
    (hU : vx_Zq Bundle.tN "UNASSIGNED_STACK" Bundle.steD A s s.heap) (hN : vx_Zq Bundle.tN "SUPPRESSED_SENTINEL" Bundle.listD A s s.heap) (hS : va_S A s.heap H locs) (hsize : ls.size = c.maxLocals)
    (d0 : decode cc pc = .ok (.new ik, 3)) (d3 : decode cc (pc + 3) = .ok (.dup, 1)) (d4 : decode cc (pc + 4) = .ok (.invokespecial ic, 3)) (d7 : decode cc (pc + 7) = .ok (.athrow, 1))
    (hout : ∀ x ∈ c.exceptionTable.toList, covers x (pc + 7) = false)
    (hRframes : names.length + 3 < R.frames) (hRlocals : (rest.map fun v => v.category).sum + (13 * (names.length + 1) + 42) ≤ R.locals) (hRcells : cells + 1 ≤ R.cells) (hRslots : slots + 6 ≤ R.slots) (hlocks : meth.locks = false)
    (hx : ∀ t : State, s.vm.Alike t.vm → H.size ≤ t.heap.size → (∀ q : Nat, q < H.size → t.heap[q]? = H[q]?) → XC cls s t)
    (hf : ∀ z ∈ locs, free z.base) (hc : cells + 1 ≤ mc) (hs : slots + 6 ≤ ms) :
    W p l e R s m args below meth c H locs cells slots (vx_MQ below Qc XC args s mc ms free) (F0 m pc ls rest) := by
  intro T hT X
  have htr : e.platform.stackTraces = false := (show e.platform.stackTraces = l.stackTraces by rw [X.admits.platform]).trans hl
  have Y := vx_rebase X (R' := { frames := R.frames, locals := R.locals, cells := 1, slots := 6 }) (Nat.le_refl _) (Nat.le_refl _) hRcells hRslots
  obtain ⟨s', hA⟩ : ∃ z, z = (T.setVm s.vm).setFrames (.invoking m args :: below) := ⟨_, rfl⟩
  rw [← hA] at Y
  have hvm : s'.vm = s.vm := by rw [hA]; rfl
  have hhp : s'.heap = H := by rw [hA]; exact hT
  have hW0 : s.WarmedH s'.vm := by rw [hvm]; exact State.WarmedH.refl s
  have hat' : ∀ w ∈ vx_at0 own ic cls names, w.before args s' = true := fun w hw => vx_ot_at hW0 hvm.symm (hgood w (List.mem_cons_of_mem _ (List.mem_cons_of_mem _ hw))) (hat w hw)
  have hk' : (Cond.classLink own ik cls).before args s' = true := vx_ot_at hW0 hvm.symm (hgood _ List.mem_cons_self) hk
  have hini' : (Cond.initialized cls).before args s' = true := vx_ot_at hW0 hvm.symm (hgood _ (List.mem_cons_of_mem _ List.mem_cons_self)) hini
  have hU' : vx_Zq Bundle.tN "UNASSIGNED_STACK" Bundle.steD A s' s'.heap := by rw [hhp]; exact vx_Zq.moved hW0.alike (hU.kept hS.2.1)
  have hN' : vx_Zq Bundle.tN "SUPPRESSED_SENTINEL" Bundle.listD A s' s'.heap := by rw [hhp]; exact vx_Zq.moved hW0.alike (hN.kept hS.2.1)
  have h : ∀ w ∈ Bundle.ownAtoms0 own ic cls names, w.before args s' = true := vx_own hat' (vx_isRefq hU'.1) (vx_isRefq hN'.1) hU'.2.word hN'.2.word
  have hown' : s'.vm.findClass own = some m.cls := by rw [hvm]; exact hown
  have hins : (Cond.instantiable cls 6).before args s' = true := h _ (by simp [Bundle.ownAtoms0])
  obtain ⟨vm₁, cX, kX, hfX, hkX, -, -, X₁, st1⟩ := Y.newCold hexec (own := own) (C := cls) (index := ik) (n := 6) hown' hk' hins hini'
    (g := F0 m pc ls rest) rfl (by rw [hb]; exact d0) (Nat.le_refl _) (Nat.le_refl _)
  generalize hT1 : (T.setVm vm₁).pushCell { cls := cX, slots := kX.instanceTypes.map defaultValue, vm := .none } = T1 at X₁ st1
  have hcat : (Value.ref T.heap.size).category = 1 := rfl
  have hcellA : T1.heap[T.heap.size]? = some (freshCell cX kX) := by rw [← hT1]; exact State.heap_pushCell_size _ _
  have d3' : decode c.code (pc + 3) = .ok (.dup, 1) := by rw [hb]; exact d3
  obtain ⟨U, hsteps, hrun, hend, hW, hsame, ce, hce, hO⟩ := X₁.ctorThrow0 hexec htr (own := own) (cls := cls) (names := names) (ic := ic) hown' hcls hnames h (fun x hx => nomatch hx) hfX hkX hcellA (by rw [hhp, hT]; exact Nat.le_refl _)
    (g := { method := m, pc := pc + 4, locals := ls, stack := .ref T.heap.size :: .ref T.heap.size :: rest, locked := none }) rfl hsize rfl rfl (rest := rest) rfl
    (by rw [hb]; exact d4) (by rw [hb]; exact d7) hout hRframes (by simp only [List.map_cons, List.sum_cons, hcat]; omega) hlocks
  obtain ⟨f1, f2⟩ := vx_frame hsame
  rw [hhp] at f1 f2
  have hWs : s.WarmedH U.vm := State.WarmedH.trans hW0 hW
  have hcl : s.vm.findClass cls = some ce.cls := by
    have h9 := hO.cls
    rw [hvm] at h9
    exact h9
  have hall : s.sameButNew ({ U with vm := s.vm } : State) locs mc ms := by
    subst hA
    obtain ⟨e1, e2⟩ := hsame
    rw [State.setFrames_setFrames] at e1
    have h2 : (T.setVm s.vm).sameButNew ({ U with vm := s.vm } : State) [] (0 + 1) (0 + 6) := ⟨e1, e2⟩
    have h3 := X.same.trans h2
    rw [List.append_nil] at h3
    exact h3.mono hc hs
  refine ⟨U, ?_, .threw T.heap.size, hrun, hend, Or.inr ⟨T.heap.size, rfl, cls, ce, locs, hx U hWs.alike f1 (fun q hq => f2 q hq (fun z hz => nomatch hz)), hce, hO.vm, hcl, hWs, hall, hf⟩⟩
  refine st1 _ ?_
  show Steps p.tables e below (T1.setTop { method := m, pc := pc + 3, locals := ls, stack := .ref T.heap.size :: rest, locked := none }) _
  jvm_step X₁.here [X₁.here.top, hexec, d3', Value.category]
  exact hsteps
/-- 'throw new E("text")': new; dup; ldc; invokespecial; athrow -/
theorem vx_throwS {cc : ByteArray} {pc : Nat} (hexec : p.tables.exec = Jvm.exec) (hb : c.code = cc) (hl : l.stackTraces = false) {own cls text : String} {names : List String} {ik is ic mc ms sa : Nat} {A : Nat → Prop}
    (hown : s.vm.findClass own = some m.cls) (hcls : Bundle.fit cls = true) (hnames : ∀ n ∈ names, Bundle.fit n = true)
    (hk : (Cond.classLink own ik cls).before args s = true) (hini : (Cond.initialized cls).before args s = true) (hstr : vk_R own is text sa s) (hat : ∀ w ∈ vx_atS own ic cls names, w.before args s = true)
    (hgood : ∀ w ∈ Cond.classLink own ik cls :: Cond.initialized cls :: vx_atS own ic cls names, vx_ot w = true)
    (hU : vx_Zq Bundle.tN "UNASSIGNED_STACK" Bundle.steD A s s.heap) (hN : vx_Zq Bundle.tN "SUPPRESSED_SENTINEL" Bundle.listD A s s.heap) (hS : va_S A s.heap H locs) (hsize : ls.size = c.maxLocals)
    (d0 : decode cc pc = .ok (.new ik, 3)) (d3 : decode cc (pc + 3) = .ok (.dup, 1)) (d4 : decode cc (pc + 4) = .ok (.ldc is, 2)) (d6 : decode cc (pc + 6) = .ok (.invokespecial ic, 3)) (d9 : decode cc (pc + 9) = .ok (.athrow, 1))
    (hout : ∀ x ∈ c.exceptionTable.toList, covers x (pc + 9) = false)
    (hRframes : names.length + 3 < R.frames) (hRlocals : (rest.map fun v => v.category).sum + (13 * (names.length + 1) + 43) ≤ R.locals) (hRcells : cells + 1 ≤ R.cells) (hRslots : slots + 6 ≤ R.slots) (hlocks : meth.locks = false)
    (hx : ∀ t : State, s.vm.Alike t.vm → H.size ≤ t.heap.size → (∀ q : Nat, q < H.size → t.heap[q]? = H[q]?) → XC cls s t)
    (hf : ∀ z ∈ locs, free z.base) (hc : cells + 1 ≤ mc) (hs : slots + 6 ≤ ms) :
    W p l e R s m args below meth c H locs cells slots (vx_MQ below Qc XC args s mc ms free) (F0 m pc ls rest) := by
  intro T hT X
  have htr : e.platform.stackTraces = false := (show e.platform.stackTraces = l.stackTraces by rw [X.admits.platform]).trans hl
  have Y := vx_rebase X (R' := { frames := R.frames, locals := R.locals, cells := 1, slots := 6 }) (Nat.le_refl _) (Nat.le_refl _) hRcells hRslots
  obtain ⟨s', hA⟩ : ∃ z, z = (T.setVm s.vm).setFrames (.invoking m args :: below) := ⟨_, rfl⟩
  rw [← hA] at Y
  have hvm : s'.vm = s.vm := by rw [hA]; rfl
  have hhp : s'.heap = H := by rw [hA]; exact hT
  have hW0 : s.WarmedH s'.vm := by rw [hvm]; exact State.WarmedH.refl s
  have hat' : ∀ w ∈ vx_atS own ic cls names, w.before args s' = true := fun w hw => vx_ot_at hW0 hvm.symm (hgood w (List.mem_cons_of_mem _ (List.mem_cons_of_mem _ hw))) (hat w hw)
  have hk' : (Cond.classLink own ik cls).before args s' = true := vx_ot_at hW0 hvm.symm (hgood _ List.mem_cons_self) hk
  have hini' : (Cond.initialized cls).before args s' = true := vx_ot_at hW0 hvm.symm (hgood _ (List.mem_cons_of_mem _ List.mem_cons_self)) hini
  have hU' : vx_Zq Bundle.tN "UNASSIGNED_STACK" Bundle.steD A s' s'.heap := by rw [hhp]; exact vx_Zq.moved hW0.alike (hU.kept hS.2.1)
  have hN' : vx_Zq Bundle.tN "SUPPRESSED_SENTINEL" Bundle.listD A s' s'.heap := by rw [hhp]; exact vx_Zq.moved hW0.alike (hN.kept hS.2.1)
  have h : ∀ w ∈ Bundle.ownAtoms own ic cls names, w.before args s' = true := vx_own hat' (vx_isRefq hU'.1) (vx_isRefq hN'.1) hU'.2.word hN'.2.word
  have hown' : s'.vm.findClass own = some m.cls := by rw [hvm]; exact hown
  have hins : (Cond.instantiable cls 6).before args s' = true := h _ (by simp [Bundle.ownAtoms])
  obtain ⟨vm₁, cX, kX, hfX, hkX, -, -, X₁, st1⟩ := Y.newCold hexec (own := own) (C := cls) (index := ik) (n := 6) hown' hk' hins hini'
    (g := F0 m pc ls rest) rfl (by rw [hb]; exact d0) (Nat.le_refl _) (Nat.le_refl _)
  generalize hT1 : (T.setVm vm₁).pushCell { cls := cX, slots := kX.instanceTypes.map defaultValue, vm := .none } = T1 at X₁ st1
  have hcat : (Value.ref T.heap.size).category = 1 := rfl
  have hcellA : T1.heap[T.heap.size]? = some (freshCell cX kX) := by rw [← hT1]; exact State.heap_pushCell_size _ _
  have d3' : decode c.code (pc + 3) = .ok (.dup, 1) := by rw [hb]; exact d3
  have d4' : decode c.code (pc + 4) = .ok (.ldc is, 2) := by rw [hb]; exact d4
  have hstr' : vk_R own is text sa s' := vk_R.warm hW0 hstr
  obtain ⟨U, hsteps, hrun, hend, hW, hsame, ce, hce, hO⟩ := X₁.ctorThrowS hexec htr (own := own) (cls := cls) (names := names) (ic := ic) hown' hcls hnames h (fun x hx => nomatch hx) hfX hkX hcellA (by rw [hhp, hT]; exact Nat.le_refl _) (msg := .ref sa) rfl
    (g := { method := m, pc := pc + 6, locals := ls, stack := .ref sa :: .ref T.heap.size :: .ref T.heap.size :: rest, locked := none }) rfl hsize rfl rfl (rest := rest) rfl
    (by rw [hb]; exact d6) (by rw [hb]; exact d9) hout hRframes (by simp only [List.map_cons, List.sum_cons, hcat]; omega) hlocks
  obtain ⟨f1, f2⟩ := vx_frame hsame
  rw [hhp] at f1 f2
  have hWs : s.WarmedH U.vm := State.WarmedH.trans hW0 hW
  have hcl : s.vm.findClass cls = some ce.cls := by
    have h9 := hO.cls
    rw [hvm] at h9
    exact h9
  have hall : s.sameButNew ({ U with vm := s.vm } : State) locs mc ms := by
    subst hA
    obtain ⟨e1, e2⟩ := hsame
    rw [State.setFrames_setFrames] at e1
    have h2 : (T.setVm s.vm).sameButNew ({ U with vm := s.vm } : State) [] (0 + 1) (0 + 6) := ⟨e1, e2⟩
    have h3 := X.same.trans h2
    rw [List.append_nil] at h3
    exact h3.mono hc hs
  refine ⟨U, ?_, .threw T.heap.size, hrun, hend, Or.inr ⟨T.heap.size, rfl, cls, ce, locs, hx U hWs.alike f1 (fun q hq => f2 q hq (fun z hz => nomatch hz)), hce, hO.vm, hcl, hWs, hall, hf⟩⟩
  refine st1 _ ?_
  show Steps p.tables e below (T1.setTop { method := m, pc := pc + 3, locals := ls, stack := .ref T.heap.size :: rest, locked := none }) _
  jvm_step X₁.here [X₁.here.top, hexec, d3', Value.category]
  exact X₁.ldcString hexec (own := own) (text := text) (index := is) (a := sa) hown' hstr'.1 hstr'.2
    (g := { method := m, pc := pc + 4, locals := ls, stack := .ref T.heap.size :: .ref T.heap.size :: rest, locked := none }) rfl d4' _ hsteps
/-- 'throw new E("text")', the text by a wide index -/
theorem vx_throwSW {cc : ByteArray} {pc : Nat} (hexec : p.tables.exec = Jvm.exec) (hb : c.code = cc) (hl : l.stackTraces = false) {own cls text : String} {names : List String} {ik is ic mc ms sa : Nat} {A : Nat → Prop}
    (hown : s.vm.findClass own = some m.cls) (hcls : Bundle.fit cls = true) (hnames : ∀ n ∈ names, Bundle.fit n = true)
    (hk : (Cond.classLink own ik cls).before args s = true) (hini : (Cond.initialized cls).before args s = true) (hstr : vk_R own is text sa s) (hat : ∀ w ∈ vx_atS own ic cls names, w.before args s = true)
    (hgood : ∀ w ∈ Cond.classLink own ik cls :: Cond.initialized cls :: vx_atS own ic cls names, vx_ot w = true)
    (hU : vx_Zq Bundle.tN "UNASSIGNED_STACK" Bundle.steD A s s.heap) (hN : vx_Zq Bundle.tN "SUPPRESSED_SENTINEL" Bundle.listD A s s.heap) (hS : va_S A s.heap H locs) (hsize : ls.size = c.maxLocals)
    (d0 : decode cc pc = .ok (.new ik, 3)) (d3 : decode cc (pc + 3) = .ok (.dup, 1)) (d4 : decode cc (pc + 4) = .ok (.ldc_w is, 3)) (d7 : decode cc (pc + 7) = .ok (.invokespecial ic, 3)) (d10 : decode cc (pc + 10) = .ok (.athrow, 1))
    (hout : ∀ x ∈ c.exceptionTable.toList, covers x (pc + 10) = false)
    (hRframes : names.length + 3 < R.frames) (hRlocals : (rest.map fun v => v.category).sum + (13 * (names.length + 1) + 43) ≤ R.locals) (hRcells : cells + 1 ≤ R.cells) (hRslots : slots + 6 ≤ R.slots) (hlocks : meth.locks = false)
    (hx : ∀ t : State, s.vm.Alike t.vm → H.size ≤ t.heap.size → (∀ q : Nat, q < H.size → t.heap[q]? = H[q]?) → XC cls s t)
    (hf : ∀ z ∈ locs, free z.base) (hc : cells + 1 ≤ mc) (hs : slots + 6 ≤ ms) :
    W p l e R s m args below meth c H locs cells slots (vx_MQ below Qc XC args s mc ms free) (F0 m pc ls rest) := by
  intro T hT X
  have htr : e.platform.stackTraces = false := (show e.platform.stackTraces = l.stackTraces by rw [X.admits.platform]).trans hl
  have Y := vx_rebase X (R' := { frames := R.frames, locals := R.locals, cells := 1, slots := 6 }) (Nat.le_refl _) (Nat.le_refl _) hRcells hRslots
  obtain ⟨s', hA⟩ : ∃ z, z = (T.setVm s.vm).setFrames (.invoking m args :: below) := ⟨_, rfl⟩
  rw [← hA] at Y
  have hvm : s'.vm = s.vm := by rw [hA]; rfl
  have hhp : s'.heap = H := by rw [hA]; exact hT
  have hW0 : s.WarmedH s'.vm := by rw [hvm]; exact State.WarmedH.refl s
  have hat' : ∀ w ∈ vx_atS own ic cls names, w.before args s' = true := fun w hw => vx_ot_at hW0 hvm.symm (hgood w (List.mem_cons_of_mem _ (List.mem_cons_of_mem _ hw))) (hat w hw)
  have hk' : (Cond.classLink own ik cls).before args s' = true := vx_ot_at hW0 hvm.symm (hgood _ List.mem_cons_self) hk
  have hini' : (Cond.initialized cls).before args s' = true := vx_ot_at hW0 hvm.symm (hgood _ (List.mem_cons_of_mem _ List.mem_cons_self)) hini
  have hU' : vx_Zq Bundle.tN "UNASSIGNED_STACK" Bundle.steD A s' s'.heap := by rw [hhp]; exact vx_Zq.moved hW0.alike (hU.kept hS.2.1)
  have hN' : vx_Zq Bundle.tN "SUPPRESSED_SENTINEL" Bundle.listD A s' s'.heap := by rw [hhp]; exact vx_Zq.moved hW0.alike (hN.kept hS.2.1)
  have h : ∀ w ∈ Bundle.ownAtoms own ic cls names, w.before args s' = true := vx_own hat' (vx_isRefq hU'.1) (vx_isRefq hN'.1) hU'.2.word hN'.2.word
  have hown' : s'.vm.findClass own = some m.cls := by rw [hvm]; exact hown
  have hins : (Cond.instantiable cls 6).before args s' = true := h _ (by simp [Bundle.ownAtoms])
  obtain ⟨vm₁, cX, kX, hfX, hkX, -, -, X₁, st1⟩ := Y.newCold hexec (own := own) (C := cls) (index := ik) (n := 6) hown' hk' hins hini'
    (g := F0 m pc ls rest) rfl (by rw [hb]; exact d0) (Nat.le_refl _) (Nat.le_refl _)
  generalize hT1 : (T.setVm vm₁).pushCell { cls := cX, slots := kX.instanceTypes.map defaultValue, vm := .none } = T1 at X₁ st1
  have hcat : (Value.ref T.heap.size).category = 1 := rfl
  have hcellA : T1.heap[T.heap.size]? = some (freshCell cX kX) := by rw [← hT1]; exact State.heap_pushCell_size _ _
  have d3' : decode c.code (pc + 3) = .ok (.dup, 1) := by rw [hb]; exact d3
  have d4' : decode c.code (pc + 4) = .ok (.ldc_w is, 3) := by rw [hb]; exact d4
  have hstr' : vk_R own is text sa s' := vk_R.warm hW0 hstr
  obtain ⟨U, hsteps, hrun, hend, hW, hsame, ce, hce, hO⟩ := X₁.ctorThrowS hexec htr (own := own) (cls := cls) (names := names) (ic := ic) hown' hcls hnames h (fun x hx => nomatch hx) hfX hkX hcellA (by rw [hhp, hT]; exact Nat.le_refl _) (msg := .ref sa) rfl
    (g := { method := m, pc := pc + 7, locals := ls, stack := .ref sa :: .ref T.heap.size :: .ref T.heap.size :: rest, locked := none }) rfl hsize rfl rfl (rest := rest) rfl
    (by rw [hb]; exact d7) (by rw [hb]; exact d10) hout hRframes (by simp only [List.map_cons, List.sum_cons, hcat]; omega) hlocks
  obtain ⟨f1, f2⟩ := vx_frame hsame
  rw [hhp] at f1 f2
  have hWs : s.WarmedH U.vm := State.WarmedH.trans hW0 hW
  have hcl : s.vm.findClass cls = some ce.cls := by
    have h9 := hO.cls
    rw [hvm] at h9
    exact h9
  have hall : s.sameButNew ({ U with vm := s.vm } : State) locs mc ms := by
    subst hA
    obtain ⟨e1, e2⟩ := hsame
    rw [State.setFrames_setFrames] at e1
    have h2 : (T.setVm s.vm).sameButNew ({ U with vm := s.vm } : State) [] (0 + 1) (0 + 6) := ⟨e1, e2⟩
    have h3 := X.same.trans h2
    rw [List.append_nil] at h3
    exact h3.mono hc hs
  refine ⟨U, ?_, .threw T.heap.size, hrun, hend, Or.inr ⟨T.heap.size, rfl, cls, ce, locs, hx U hWs.alike f1 (fun q hq => f2 q hq (fun z hz => nomatch hz)), hce, hO.vm, hcl, hWs, hall, hf⟩⟩
  refine st1 _ ?_
  show Steps p.tables e below (T1.setTop { method := m, pc := pc + 3, locals := ls, stack := .ref T.heap.size :: rest, locked := none }) _
  jvm_step X₁.here [X₁.here.top, hexec, d3', Value.category]
  exact X₁.ldcStringW hexec (own := own) (text := text) (index := is) (a := sa) hown' hstr'.1 hstr'.2
    (g := { method := m, pc := pc + 4, locals := ls, stack := .ref T.heap.size :: .ref T.heap.size :: rest, locked := none }) rfl d4' _ hsteps
end Ends
section Bodies
variable {l : Launch}
theorem vx_ofW {y : MethodName} {ws ws' : List Cond} {rm : Room} {Pc : Array Value → State → Prop} {Qc : Array Value → State → Outcome → State → Prop} {XC : String → State → State → Prop} {mc ms : Nat} {free : Addr → Prop} {cc : ByteArray} {maxL : Nat} {ret : Option FieldType}
    (hy : plainName y.cls = true) (hw : ws = Cond.code y cc maxL ret :: ws')
    (body : ∀ p e s m args below meth c s₁, BodyLoose p l y (headSpec ws rm) cc maxL ret e s m args below meth c s₁ → c.maxLocals = maxL → (∀ x ∈ c.exceptionTable.toList, False) → Pc args s →
      W p l e (headSpec ws rm).room s m args below meth c s.heap [] 0 0 (vx_MQ below Qc XC args s mc ms free) (entryFrame m args maxL)) : vx_Met l y ws rm Pc Qc XC mc ms free := by
  refine MetFree.of_bodyS (code := cc) (maxLocals := maxL) (ret := ret) hy ?_ ?_
  · intro args s m h hn
    obtain ⟨meth, c, h1, h2, h3, h4, h5, h6, -, -⟩ := Cond.code_spec hn (atoms_spec (ws := ws) h _ (by rw [hw]; exact List.mem_cons_self))
    exact ⟨meth, c, h1, h2, h3, h4, h5, h6⟩
  · intro p e s m args below meth c s₁ B hml hP _
    have hh0 : s₁.heap = s.heap := by rw [B.state]; rfl
    have ht : ∀ x ∈ c.exceptionTable.toList, False := by
      obtain ⟨meth9, c9, h1, h2, -, -, -, -, h7, -⟩ := Cond.code_spec B.named (atoms_spec (ws := ws) B.pre _ (by rw [hw]; exact List.mem_cons_self))
      cases Option.some.inj (h1.symm.trans B.method)
      cases Option.some.inj (h2.symm.trans (Stand.of_body B).code)
      intro x hx
      rw [Array.isEmpty_iff.mp h7] at hx
      cases hx
    obtain ⟨t, a1, o, b1, b2, b3⟩ := body p e s m args below meth c s₁ B hml ht hP s₁ hh0 (Stand.of_body B)
    exact ⟨t, o, a1, b1, b2, b3⟩
/-- the table of a body with handlers -/
theorem vx_table {p : Program} {x y : MethodName} {S : Spec} {cc bytes : ByteArray} {maxL maxL' : Nat} {ret ret' : Option FieldType} {e : Env} {s s₁ : State} {m : MethodId} {args : Array Value} {below : List Frame} {meth : Method} {c : Code} {hh : List (Nat × Nat × Nat × Nat)}
    (B : BodyLoose p l y S cc maxL ret e s m args below meth c s₁) (h : (Cond.codeWith y bytes maxL' ret' hh).before args s = true) : c.exceptionTable.toList = tableOf hh := by
  obtain ⟨m9, meth9, c9, hn9, h1, h2, -, -, h6, -⟩ := Cond.codeWith_spec h
  cases Option.some.inj (hn9.symm.trans B.named)
  cases Option.some.inj (h1.symm.trans B.method)
  cases Option.some.inj (h2.symm.trans (Stand.of_body B).code)
  rw [← h6, table_eq]
end Bodies
end VXA
/-! ===== END ===== -/
/-! ===== BEGIN a static call of a method with an exception table ===== -/
section VXS
variable {p : Program} {l : Launch} {e : Env} {R : Room} {s : State} {m : MethodId} {args : Array Value} {below : List Frame} {meth : Method} {c : Code} {T : State} {H : Heap} {locs : List Loc} {cells slots : Nat}
abbrev vx_CSW (R : Room) (s : State) (args : Array Value) (own : String) (index : Nat) (y : MethodName) (bytes : ByteArray) (maxL : Nat) (ret : Option FieldType) (hh : List (Nat × Nat × Nat × Nat)) (ws : List Cond) (rm : Room) (mc ms n : Nat) : Prop :=
  (rm.cells = mc ∧ rm.slots = ms ∧ rm.frames + 1 ≤ R.frames ∧ 8 + (maxL + 11) + rm.locals ≤ R.locals ∧ (∀ w ∈ ws, ∀ (a' : Array Value) (U : State), s.WarmedH U.vm → w.before a' U = true) ∧ Cond.codeWith y bytes maxL ret hh ∈ ws) ∧
  (Cond.codeWith y bytes maxL ret hh).before args s = true ∧ (Cond.initialized y.cls).before args s = true ∧ (y.cls ≠ "java/lang/invoke/MethodHandle" ∧ y.cls ≠ "java/lang/invoke/VarHandle") ∧
  (∀ sig, parseMethodDescriptor y.desc = some sig → n = sig.parameters.length) ∧ (Cond.methodLink own index y).before args s = true ∧ (Cond.static y).before args s = true
theorem vx_cwSW {own : String} {index maxL mc ms : Nat} {y : MethodName} {bytes : ByteArray} {ret : Option FieldType} {hh : List (Nat × Nat × Nat × Nat)} {Ts ws ws' : List Cond} {rm : Room} (n : Nat) (ht : ∀ w ∈ Ts, w.before args s = true) (hT : GoodIn Ts (va_wsS own index y ws)) (hw : ws = Cond.codeWith y bytes maxL ret hh :: ws') (hrc : rm.cells = mc) (hrs : rm.slots = ms)
    (hd : y.cls ≠ "java/lang/invoke/MethodHandle" ∧ y.cls ≠ "java/lang/invoke/VarHandle" ∧ (parseMethodDescriptor y.desc).map (fun d => d.parameters.length) = some n) (hR : rm.frames + 1 ≤ R.frames ∧ 8 + (maxL + 11) + rm.locals ≤ R.locals) :
    vx_CSW R s args own index y bytes maxL ret hh ws rm mc ms n := by
  have ok : ∀ w ∈ va_wsS own index y ws, w.before args s = true := fun w h => ht w (hT w h).1
  have hG : GoodIn Ts ws := fun w h => hT w (by unfold va_wsS; exact List.mem_append_right _ h)
  have hc : Cond.codeWith y bytes maxL ret hh ∈ ws := by rw [hw]; exact List.mem_cons_self
  refine ⟨⟨hrc, hrs, hR.1, hR.2, pay_in ht hG, hc⟩, ht _ (hG _ hc).1, ok _ (by simp [va_wsS]), ⟨hd.1, hd.2.1⟩, fun sig h => ?_, ok _ (by simp [va_wsS]), ok _ (by simp [va_wsS])⟩
  have h2 := hd.2.2
  rw [h] at h2
  exact (Option.some.inj h2).symm
theorem vx_callSW (X : Stand p l e R s m args below meth c T locs cells slots) (hexec : p.tables.exec = Jvm.exec) {own : String} {index : Nat} {y : MethodName} {bytes : ByteArray} {maxL : Nat} {ret : Option FieldType} {hh : List (Nat × Nat × Nat × Nat)}
    (hown : s.vm.findClass own = some m.cls) (hlink : (Cond.methodLink own index y).before args s = true) (hstat : (Cond.static y).before args s = true) (hinit : (Cond.initialized y.cls).before args s = true)
    (hcode : (Cond.codeWith y bytes maxL ret hh).before args s = true) (hy : y.cls ≠ "java/lang/invoke/MethodHandle" ∧ y.cls ≠ "java/lang/invoke/VarHandle")
    {W9 : Nat} {Pre : Pt → Array Value → Prop} {Post : Pt → Array Value → Option Value → Pt → Prop} (hK : Back l R p e below s args y 3 W9 Pre Post)
    {g : JFrame} (hg : g.method = m) (hsize : g.locals.size = c.maxLocals) {argsL rest : List Value} (hlen : ∀ sig, parseMethodDescriptor y.desc = some sig → argsL.length = sig.parameters.length)
    (hstack : g.stack = argsL.reverse ++ rest) (hW : 2 * g.monitorRoom + (rest.map fun v => v.category).sum ≤ W9) (hdg : decode c.code g.pc = .ok (.invokestatic index, 3))
    (hpre : ∀ vm₁, s.WarmedH vm₁ → Pre ⟨T.setVm vm₁, locs, cells, slots⟩ argsL.toArray) :
    ∃ (v : Option Value) (vm₁ : Vm) (B : Pt), s.WarmedH vm₁ ∧ Stand p l e R s m args below meth c B.U B.locs B.cells B.slots ∧ Post ⟨T.setVm vm₁, locs, cells, slots⟩ argsL.toArray v B ∧
      ∀ target, Steps p.tables e below (B.U.setTop { g with pc := g.pc + 3, stack := v.toList ++ rest }) target → Steps p.tables e below (T.setTop g) target := by
  obtain ⟨mk, methM, cM, hnamed, hmethM, -, -, -, -, -, -, hsigM⟩ := Cond.codeWith_spec hcode
  have hstatic : methM.isStatic = true := Cond.static_spec hnamed hmethM hstat
  obtain ⟨kP, hkP, -⟩ := className_of_methodNamed hnamed
  have hinitP : kP.init = .initialized := Cond.initialized_spec (findClass_of_methodNamed hnamed) hkP hinit
  obtain ⟨vm₁, X₁, hstep₁⟩ := X.invokestatic hexec hown hlink hnamed hmethM hstatic hkP hinitP hy (g := g) hg (argsL := argsL) (rest := rest) (hlen _ hsigM) hstack hdg
  obtain ⟨v, B, X', hpost, hsteps⟩ := hK m meth c ⟨T.setVm vm₁, locs, cells, slots⟩ { g with stack := rest } (.invokestatic index) mk argsL.toArray X₁ hg hsize hdg hW (X₁.named hnamed) (hpre vm₁ X₁.warmed)
  exact ⟨v, vm₁, B, X₁.warmed, X', hpost, fun target h => hstep₁ _ fun acts => by rw [doInvoke_state]; exact hsteps.trans h⟩
theorem vx_runSW {y : MethodName} {bytes cc : ByteArray} {maxL nL mc ms n index : Nat} {ret : Option FieldType} {hh : List (Nat × Nat × Nat × Nat)} {ws : List Cond} {rm : Room} {Pc : Array Value → State → Prop} {Qc : Array Value → State → Outcome → State → Prop} {free : Addr → Prop} {Ts : List Cond} {own : String} {As rest : List Value} {g : JFrame}
    (S : CallFix p m c cc nL s args Ts own) (hM : Met l y ws rm Pc Qc mc ms free) (cw : vx_CSW R s args own index y bytes maxL ret hh ws rm mc ms n) (hp : PreS s H Pc As)
    (hg : g.method = m) (hn : As.length = n) (hsize : g.locals.size = nL) (hstack : g.stack = As.reverse ++ rest) (hW : 2 * g.monitorRoom + (rest.map fun v => v.category).sum ≤ 8) (hdg : decode cc g.pc = .ok (.invokestatic index, 3)) (hf : cells + mc ≤ R.cells ∧ slots + ms ≤ R.slots) :
    va_Run p l e R s m args below meth c H locs cells slots mc ms g rest (Qc As.toArray) (free) := by
  obtain ⟨⟨hrc, hrs, hfr, hlo, hws, hcw⟩, hcode, hini, hy, hlen, hl, hstt⟩ := cw
  have hK : Back l R p e below s args y 3 8 (PreOf R mc ms Pc) (PostOf Qc mc ms free) := va_backW (hh := hh) (bytes := bytes) (maxL := maxL) (ret := ret) hM hp.1 hrc hrs hfr hlo hws hcw (fun a' U hW => word_at hW (Or.inl (by first | rfl | simp [Cond.onTables, Cond.keeps, Cond.steady])) hini)
  obtain ⟨hx, hb, hml, ho, -⟩ := S
  intro T hT X
  obtain ⟨v, vm₁, ⟨U', l2, c2, s2⟩, hW₁, X', ⟨g', mk, t, L, e1, e2, hq, h1, hL, h2, h3⟩, st⟩ := vx_callSW X hx (hh := hh) (bytes := bytes) (maxL := maxL) (ret := ret) ho hl hstt hini hcode hy hK hg (hsize.trans hml.symm) (argsL := As) (rest := rest) (fun sig h => hn.trans (hlen sig h)) hstack hW (by rw [hb]; exact hdg)
    (fun vm₁ hW₁ => ⟨hf.1, hf.2, hp.2 (T.setVm vm₁) hT hW₁⟩)
  dsimp only [Pt.U, Pt.locs, Pt.cells, Pt.slots] at X' e1 e2 h1 h2 h3 st
  subst h1; subst h2; subst h3
  exact ⟨v, (T.setVm vm₁).calling g' mk As.toArray, t, U', L, hT, X', hL, e1, e2, hq, st⟩
/-- not caught here, past rows that name other classes: it goes on to the caller -/
theorem vx_outP {p : Program} {l : Launch} {e : Env} {R : Room} {s : State} {m : MethodId} {args : Array Value} {below : List Frame} {meth : Method} {c : Code} {H : Heap} {locs : List Loc} {cells slots : Nat} {free : Addr → Prop} {ls : Array Slot} {rest : List Value} {Qc : Array Value → State → Outcome → State → Prop} {XC : String → State → State → Prop}
    {pc : Nat} {own E : String} {ce : Cell} {q : Addr} {mc ms : Nat} (hown : s.vm.findClass own = some m.cls) (hlocks : meth.locks = false)
    (hpass : ∀ z ∈ c.exceptionTable.toList, covers z pc = false ∨ (z.catchType ≠ 0 ∧ ∃ nm : String, (Cond.classLink own z.catchType nm).before args s = true ∧ va_Nc E nm s)) (hcell : H[q]? = some ce) (hv : ce.vm = .none) (hcl : s.vm.findClass E = some ce.cls)
    (hx : ∀ t : State, t.heap = H → s.vm.Alike t.vm → XC E s t) (hf : ∀ z ∈ locs, free z.base) (hc : cells ≤ mc) (hs : slots ≤ ms) :
    vx_W p l e R s m args below meth c H locs cells slots (vx_MQ below Qc XC args s mc ms free) (F0 m pc ls rest) q := by
  intro T hT X
  have hpl : e.platform.magicAccessors = ({} : Platform).magicAccessors := by rw [X.admits.platform]
  obtain ⟨vm', hW', X', st⟩ := X.outThrough hlocks q (g := F0 m pc ls rest) rfl rfl rfl (cell := ce) (by rw [hT]; exact hcell) (by rw [hv]; rfl)
    (by obtain ⟨k9, h9, -⟩ := Vm.findClass_spec hcl; exact ⟨k9, h9⟩) (fun z hz => by
      rcases hpass z hz with h | ⟨hz0, nm, hl1, hn1⟩
      · exact Or.inl h
      · obtain ⟨c6, hc6, hcl6⟩ := Cond.classLink_spec hown hl1 e.platform hpl
        obtain ⟨a8, b8, h1, h2, h3⟩ := hn1
        cases Option.some.inj (h1.symm.trans hcl)
        cases Option.some.inj (h2.symm.trans hc6)
        exact Or.inr ⟨hz0, _, hcl6, h3⟩)
  obtain ⟨g₀, hfr⟩ := X'.frames_eq
  have hcell9 : ((T.setVm vm').setFrames (.throwing q :: below)).heap[q]? = some ce := by
    show T.heap[q]? = some ce
    rw [hT]; exact hcell
  have hend : Ended ((T.setVm vm').setFrames (.throwing q :: below)) below (.threw q) := State.frames_setFrames _ (State.cur_lt_of_frames hfr)
  refine ⟨(T.setVm vm').setFrames (.throwing q :: below), ?_, .threw q, X'.here.running, hend, Or.inr ⟨q, rfl, E, ce, locs, hx _ hT (X'.ends _).1.alike, hcell9, hv, hcl, (X'.ends _).1, (X'.ends _).2.mono hc hs, hf⟩⟩
  rw [X.pushThrowing_eq]
  exact st
/-- a thing of a world lies in the heap -/
theorem vx_lt {D : va_G} {cl : List vw_C} {ws : va_W} {H1 : Heap} (h : va_P D cl ws H1) {k : Nat} {q : Nat × va_E} (hk : ws[k]? = some q) : q.1 < H1.size := (h k q hk).lt
end VXS
/-! ===== END ===== -/
/-! ===== BEGIN methods with a table of their own: called by a name, returning or throwing ===== -/
section VXH
/-! vx_backW, vx_callVX, vx_callSX, vx_callVW, vx_runVW, vx_runVX, vx_runSX, vx_ofWH follow the same proofs as their sisters above (Free/Laws.lean, Shelf42/LK1.lean); vx_outP calls Shelf42/NT130.lean (outThrough). -/
section
variable {l : Launch} {R : Room} {p : Program} {e : Env} {below : List Frame} {s : State} {sargs : Array Value} {y : MethodName} {len W9 : Nat}
theorem vx_backW {ws : List Cond} {rm : Room} {Pc : Array Value → State → Prop} {Qc : Array Value → State → Outcome → State → Prop} {XC : String → State → State → Prop} {mc ms : Nat} {free : Addr → Prop} {bytes : ByteArray} {maxL : Nat} {ret : Option FieldType} {hh : List (Nat × Nat × Nat × Nat)}
    (hM : vx_Met l y ws rm Pc Qc XC mc ms free) (hblind : FrameBlind Pc) (hrc : rm.cells = mc) (hrs : rm.slots = ms)
    (hframes : rm.frames + 1 ≤ R.frames) (hlocals : W9 + (maxL + 11) + rm.locals ≤ R.locals)
    (hws : ∀ w ∈ ws, ∀ a' U, s.WarmedH U.vm → w.before a' U = true) (hcode : Cond.codeWith y bytes maxL ret hh ∈ ws) (hinit : ∀ a' U, s.WarmedH U.vm → (Cond.initialized y.cls).before a' U = true) :
    vx_Back l R p e below s sargs y len W9 (PreOf R mc ms Pc) (PostOf Qc mc ms free) (vx_Post XC mc ms free) := by
  intro m meth c A g ig mk a X hg hsize hdg hW hn hp
  have h1 : (headSpec ws rm).pre.before a A.U = true := atoms_intro fun w hw => hws w hw _ _ X.warmed
  have h2 : (Cond.codeWith y bytes maxL ret hh).before a A.U = true := hws _ hcode _ _ X.warmed
  have h3 : (Cond.initialized y.cls).before a A.U = true := hinit _ _ X.warmed
  have h4 : A.cells + (headSpec ws rm).room.cells ≤ R.cells := by rw [show (headSpec ws rm).room.cells = mc from hrc]; exact hp.1
  have h5 : A.slots + (headSpec ws rm).room.slots ≤ R.slots := by rw [show (headSpec ws rm).room.slots = ms from hrs]; exact hp.2.1
  have hPc : Pc a (A.U.calling g mk a) := hblind _ _ _ _ hp.2.2
  obtain ⟨U, Ls, c0, s0⟩ := A
  dsimp only [Pt.U, Pt.locs, Pt.cells, Pt.slots] at h1 h2 h3 h4 h5 X hn hPc ⊢
  obtain ⟨m9, methY, cY, hn9, hmY, hcY, -, hlY, -⟩ := Cond.codeWith_spec h2
  cases Option.some.inj (hn9.symm.trans hn)
  obtain ⟨kY, hkY, -⟩ := className_of_methodNamed hn
  have hinitY : kY.init = .initialized := Cond.initialized_spec (findClass_of_methodNamed hn) hkY h3
  have h : At U g.method c below := by rw [hg]; exact X.here
  have hlocals9 : W9 + (maxL + 11) + (headSpec ws rm).room.locals ≤ R.locals := hlocals
  have happ : (headSpec ws rm).appliesLoose y e.platform (U.calling g mk a) = true :=
    Spec.appliesLoose_calling (g := g) h hdg hn hkY hinitY
      (X.room_calling (g := g) (R' := (headSpec ws rm).room) hsize hmY hcY hframes (by rw [hlY]; omega) h4 h5) h1
  obtain ⟨mid, hmid⟩ := h.above
  have hfr : (U.setTop g).frames = (.java g :: mid) ++ below := by rw [State.frames_setTop' g h.top, hmid]; rfl
  obtain ⟨o, s₂, hsteps, -, hend, hq⟩ := Steps.callFree hM p X.admits X.cas X.clock (acts := []) hfr happ hPc trivial
  have hq' : vx_Q Qc XC mc ms free a (U.calling g mk a) o s₂ := hq
  rw [State.frames_setTop' g h.top] at hend
  obtain ⟨g₀, hg0⟩ := Option.isSome_iff_exists.mp h.top
  obtain ⟨r, hr⟩ := State.topJava?_eq_some.mp hg0
  have hr' : (({ U with heap := s₂.heap, slotsUsed := s₂.slotsUsed } : State).setVm s₂.vm).frames = .java g₀ :: r := hr
  rcases hq' with ⟨hqc, L, hfe, hL⟩ | ⟨q, rfl, E, ce, L, hx, hce, hcv, hcl, hW₂, hsm, hL⟩
  · obtain ⟨⟨v, rfl⟩, hW₂, e2, q2, q3, q4, q5, q6⟩ := id hfe
    have e3 : s₂ = ({ (U.calling g mk a).setFrames s₂.frames with heap := s₂.heap, slotsUsed := s₂.slotsUsed } : State).setVm s₂.vm := by
      have : s₂ = ({ s₂ with vm := (U.calling g mk a).vm } : State).setVm s₂.vm := rfl
      rw [e2] at this
      exact this
    obtain ⟨c₂, i₂, len₂, hc₂, hd₂, hf₂⟩ := hend
    have hW' : U.WarmedH s₂.vm := hW₂
    have hcc : c₂ = c := by
      have h1 : s₂.code? g.method = U.code? g.method := by
        rw [State.code?_eq, State.code?_eq, hW'.alike.method?]
      exact Option.some.inj (hc₂.symm.trans (h1.trans h.code))
    subst hcc
    have hlen : len₂ = len := by rw [hdg] at hd₂; cases hd₂; rfl
    subst hlen
    have hs₂ : s₂ = (({ U with heap := s₂.heap, slotsUsed := s₂.slotsUsed } : State).setVm s₂.vm).setTop { g with pc := g.pc + len₂, stack := v.toList ++ g.stack } := by
      refine e3.trans ?_
      rw [hf₂, State.calling_eq h.top, State.setFrames_setFrames, State.setTop_of_frames _ hr', hr]
      rfl
    have hsame : U.sameButNew ({ U with heap := s₂.heap, slotsUsed := s₂.slotsUsed } : State) L mc ms := by
      refine ⟨?_, q2, q3, q4, q5, q6⟩
      obtain ⟨t, ht, -⟩ := State.frames_cons hr
      show ({ U with heap := s₂.heap, slotsUsed := s₂.slotsUsed } : State) = { U.setFrames U.frames with heap := s₂.heap, slotsUsed := s₂.slotsUsed }
      rw [State.setFrames_self ht]
    subst hg
    refine Or.inl ⟨v, ⟨(({ U with heap := s₂.heap, slotsUsed := s₂.slotsUsed } : State).setVm s₂.vm), Ls ++ L, c0 + mc, s0 + ms⟩,
      ⟨X.admits, X.cas, X.clock, X.frames, X.room, X.hears, X.method, X.code, (X.here.setHeapUsed s₂.heap s₂.slotsUsed).setVm hW'.alike, X.tail, State.WarmedH.trans X.warmed hW', X.limits, X.bytes, X.same.trans (hsame.setVm s.vm)⟩,
      ⟨g, mk, s₂, L, rfl, rfl, hqc, rfl, hL, rfl, rfl⟩, ?_⟩
    show Steps p.tables e below _ ((({ U with heap := s₂.heap, slotsUsed := s₂.slotsUsed } : State).setVm s₂.vm).setTop { g with pc := g.pc + len₂, stack := v.toList ++ g.stack })
    rw [← hs₂]
    exact hsteps
  · obtain ⟨e2, q2, q3, q4, q5, q6⟩ := id hsm
    have e3 : s₂ = ({ (U.calling g mk a).setFrames s₂.frames with heap := s₂.heap, slotsUsed := s₂.slotsUsed } : State).setVm s₂.vm := by
      have : s₂ = ({ s₂ with vm := (U.calling g mk a).vm } : State).setVm s₂.vm := rfl
      rw [e2] at this
      exact this
    have hf₂ : s₂.frames = .throwing q :: .java g :: U.frames.tail := hend
    have hW' : U.WarmedH s₂.vm := hW₂
    have hs₂ : s₂ = ((({ U with heap := s₂.heap, slotsUsed := s₂.slotsUsed } : State).setVm s₂.vm).setTop g).pushFrame (.throwing q) := by
      refine e3.trans ?_
      rw [hf₂, State.calling_eq h.top, State.setFrames_setFrames, State.pushFrame, State.frames_setTop _ hr', State.setTop_of_frames _ hr', State.setFrames_setFrames, hr]
      rfl
    have hsame : U.sameButNew ({ U with heap := s₂.heap, slotsUsed := s₂.slotsUsed } : State) L mc ms := by
      refine ⟨?_, q2, q3, q4, q5, q6⟩
      obtain ⟨t, ht, -⟩ := State.frames_cons hr
      show ({ U with heap := s₂.heap, slotsUsed := s₂.slotsUsed } : State) = { U.setFrames U.frames with heap := s₂.heap, slotsUsed := s₂.slotsUsed }
      rw [State.setFrames_self ht]
    subst hg
    refine Or.inr ⟨q, ⟨(({ U with heap := s₂.heap, slotsUsed := s₂.slotsUsed } : State).setVm s₂.vm), Ls ++ L, c0 + mc, s0 + ms⟩,
      ⟨X.admits, X.cas, X.clock, X.frames, X.room, X.hears, X.method, X.code, (X.here.setHeapUsed s₂.heap s₂.slotsUsed).setVm hW'.alike, X.tail, State.WarmedH.trans X.warmed hW', X.limits, X.bytes, X.same.trans (hsame.setVm s.vm)⟩,
      ⟨g, mk, s₂, L, E, ce, rfl, rfl, hx, hce, hcv, hcl, rfl, hL, rfl, rfl⟩, ?_⟩
    show Steps p.tables e below _ (((({ U with heap := s₂.heap, slotsUsed := s₂.slotsUsed } : State).setVm s₂.vm).setTop g).pushFrame (.throwing q))
    rw [← hs₂]
    exact hsteps
end
variable {p : Program} {l : Launch} {e : Env} {R : Room} {s : State} {m : MethodId} {args : Array Value} {below : List Frame} {meth : Method} {c : Code} {T : State} {H : Heap} {locs : List Loc} {cells slots : Nat}
theorem vx_callVX (X : Stand p l e R s m args below meth c T locs cells slots) (hexec : p.tables.exec = Jvm.exec) {own C : String} {index : Nat} {y : MethodName} {bytes : ByteArray} {maxL : Nat} {ret : Option FieldType} {hh : List (Nat × Nat × Nat × Nat)}
    (hown : s.vm.findClass own = some m.cls) (hlink : (Cond.methodLink own index y).before args s = true) (hinst : (Cond.instanceMethod y).before args s = true) (hsel : (Cond.selects C y y).before args s = true)
    (hcode : (Cond.codeWith y bytes maxL ret hh).before args s = true) (hy : y.cls ≠ "java/lang/invoke/MethodHandle" ∧ y.cls ≠ "java/lang/invoke/VarHandle")
    {W9 : Nat} {Pre : Pt → Array Value → Prop} {Post : Pt → Array Value → Option Value → Pt → Prop} {PostX : Pt → Array Value → Addr → Pt → Prop} (hK : vx_Back l R p e below s args y 3 W9 Pre Post PostX)
    {b : Addr} {cellB : Cell} (hcell : T.heap[b]? = some cellB) (hobj : cellB.vm.isStatics = false) (hcls : s.vm.findClass C = some cellB.cls)
    {g : JFrame} (hg : g.method = m) (hsize : g.locals.size = c.maxLocals) {argsL rest : List Value} (hlen : ∀ sig, parseMethodDescriptor y.desc = some sig → argsL.length = sig.parameters.length)
    (hstack : g.stack = argsL.reverse ++ .ref b :: rest) (hW : 2 * g.monitorRoom + (rest.map fun v => v.category).sum ≤ W9) (hdg : decode c.code g.pc = .ok (.invokevirtual index, 3))
    (hpre : ∀ vm₁, s.WarmedH vm₁ → Pre ⟨T.setVm vm₁, locs, cells, slots⟩ (Value.ref b :: argsL).toArray) :
    (∃ (v : Option Value) (vm₁ : Vm) (B : Pt), s.WarmedH vm₁ ∧ Stand p l e R s m args below meth c B.U B.locs B.cells B.slots ∧ Post ⟨T.setVm vm₁, locs, cells, slots⟩ (Value.ref b :: argsL).toArray v B ∧
      ∀ target, Steps p.tables e below (B.U.setTop { g with pc := g.pc + 3, stack := v.toList ++ rest }) target → Steps p.tables e below (T.setTop g) target) ∨
    (∃ (q : Addr) (vm₁ : Vm) (B : Pt), s.WarmedH vm₁ ∧ Stand p l e R s m args below meth c B.U B.locs B.cells B.slots ∧ PostX ⟨T.setVm vm₁, locs, cells, slots⟩ (Value.ref b :: argsL).toArray q B ∧
      Steps p.tables e below (T.setTop g) ((B.U.setTop { g with stack := rest }).pushFrame (.throwing q))) := by
  obtain ⟨mk, methM, hnamed, hmethM, hstM, habM⟩ := Cond.instanceMethod_spec hinst
  obtain ⟨m8, methM', cM, hn8, hmethM', -, -, -, -, -, -, hsigM⟩ := Cond.codeWith_spec hcode
  cases Option.some.inj (hn8.symm.trans hnamed)
  cases hmethM.symm.trans hmethM'
  obtain ⟨c2, r2, m2, q1, q2, q3, q4, kP, hkP, hkPi⟩ := Cond.selects_spec hsel
  cases hcls.symm.trans q1
  cases (State.methodFound?_of_named hnamed hy).symm.trans q2
  cases hnamed.symm.trans q3
  have hselP : selectMethod e.platform s.vm cellB.cls mk = .method mk := by rw [Launch.admits_selectMethod X.admits]; exact q4
  obtain ⟨vm₁, X₁, hstep₁⟩ := X.invokevirtual hexec hown hlink hnamed hmethM hstM hkP hkPi hy (a := b) (cell := cellB) hcell
    (fun z h => by rw [h] at hobj; cases hobj) hselP hmethM habM hkP hkPi (g := g) hg (argsL := argsL) (rest := rest) (hlen _ hsigM) hstack hdg
  rcases hK m meth c ⟨T.setVm vm₁, locs, cells, slots⟩ { g with stack := rest } (.invokevirtual index) mk (Value.ref b :: argsL).toArray X₁ hg hsize hdg hW (X₁.named hnamed) (hpre vm₁ X₁.warmed) with ⟨v, B, X', hpost, hsteps⟩ | ⟨q, B, X', hpost, hsteps⟩
  · exact Or.inl ⟨v, vm₁, B, X₁.warmed, X', hpost, fun target h => hstep₁ _ fun acts => by rw [doInvoke_state]; exact hsteps.trans h⟩
  · exact Or.inr ⟨q, vm₁, B, X₁.warmed, X', hpost, hstep₁ _ fun acts => by rw [doInvoke_state]; exact hsteps⟩
theorem vx_callSX (X : Stand p l e R s m args below meth c T locs cells slots) (hexec : p.tables.exec = Jvm.exec) {own : String} {index : Nat} {y : MethodName} {bytes : ByteArray} {maxL : Nat} {ret : Option FieldType} {hh : List (Nat × Nat × Nat × Nat)}
    (hown : s.vm.findClass own = some m.cls) (hlink : (Cond.methodLink own index y).before args s = true) (hstat : (Cond.static y).before args s = true) (hinit : (Cond.initialized y.cls).before args s = true)
    (hcode : (Cond.codeWith y bytes maxL ret hh).before args s = true) (hy : y.cls ≠ "java/lang/invoke/MethodHandle" ∧ y.cls ≠ "java/lang/invoke/VarHandle")
    {W9 : Nat} {Pre : Pt → Array Value → Prop} {Post : Pt → Array Value → Option Value → Pt → Prop} {PostX : Pt → Array Value → Addr → Pt → Prop} (hK : vx_Back l R p e below s args y 3 W9 Pre Post PostX)
    {g : JFrame} (hg : g.method = m) (hsize : g.locals.size = c.maxLocals) {argsL rest : List Value} (hlen : ∀ sig, parseMethodDescriptor y.desc = some sig → argsL.length = sig.parameters.length)
    (hstack : g.stack = argsL.reverse ++ rest) (hW : 2 * g.monitorRoom + (rest.map fun v => v.category).sum ≤ W9) (hdg : decode c.code g.pc = .ok (.invokestatic index, 3))
    (hpre : ∀ vm₁, s.WarmedH vm₁ → Pre ⟨T.setVm vm₁, locs, cells, slots⟩ argsL.toArray) :
    (∃ (v : Option Value) (vm₁ : Vm) (B : Pt), s.WarmedH vm₁ ∧ Stand p l e R s m args below meth c B.U B.locs B.cells B.slots ∧ Post ⟨T.setVm vm₁, locs, cells, slots⟩ argsL.toArray v B ∧
      ∀ target, Steps p.tables e below (B.U.setTop { g with pc := g.pc + 3, stack := v.toList ++ rest }) target → Steps p.tables e below (T.setTop g) target) ∨
    (∃ (q : Addr) (vm₁ : Vm) (B : Pt), s.WarmedH vm₁ ∧ Stand p l e R s m args below meth c B.U B.locs B.cells B.slots ∧ PostX ⟨T.setVm vm₁, locs, cells, slots⟩ argsL.toArray q B ∧
      Steps p.tables e below (T.setTop g) ((B.U.setTop { g with stack := rest }).pushFrame (.throwing q))) := by
  obtain ⟨mk, methM, cM, hnamed, hmethM, -, -, -, -, -, -, hsigM⟩ := Cond.codeWith_spec hcode
  have hstatic : methM.isStatic = true := Cond.static_spec hnamed hmethM hstat
  obtain ⟨kP, hkP, -⟩ := className_of_methodNamed hnamed
  have hinitP : kP.init = .initialized := Cond.initialized_spec (findClass_of_methodNamed hnamed) hkP hinit
  obtain ⟨vm₁, X₁, hstep₁⟩ := X.invokestatic hexec hown hlink hnamed hmethM hstatic hkP hinitP hy (g := g) hg (argsL := argsL) (rest := rest) (hlen _ hsigM) hstack hdg
  rcases hK m meth c ⟨T.setVm vm₁, locs, cells, slots⟩ { g with stack := rest } (.invokestatic index) mk argsL.toArray X₁ hg hsize hdg hW (X₁.named hnamed) (hpre vm₁ X₁.warmed) with ⟨v, B, X', hpost, hsteps⟩ | ⟨q, B, X', hpost, hsteps⟩
  · exact Or.inl ⟨v, vm₁, B, X₁.warmed, X', hpost, fun target h => hstep₁ _ fun acts => by rw [doInvoke_state]; exact hsteps.trans h⟩
  · exact Or.inr ⟨q, vm₁, B, X₁.warmed, X', hpost, hstep₁ _ fun acts => by rw [doInvoke_state]; exact hsteps⟩
theorem vx_callVW (X : Stand p l e R s m args below meth c T locs cells slots) (hexec : p.tables.exec = Jvm.exec) {own C : String} {index : Nat} {y : MethodName} {bytes : ByteArray} {maxL : Nat} {ret : Option FieldType} {hh : List (Nat × Nat × Nat × Nat)}
    (hown : s.vm.findClass own = some m.cls) (hlink : (Cond.methodLink own index y).before args s = true) (hinst : (Cond.instanceMethod y).before args s = true) (hsel : (Cond.selects C y y).before args s = true)
    (hcode : (Cond.codeWith y bytes maxL ret hh).before args s = true) (hy : y.cls ≠ "java/lang/invoke/MethodHandle" ∧ y.cls ≠ "java/lang/invoke/VarHandle")
    {W9 : Nat} {Pre : Pt → Array Value → Prop} {Post : Pt → Array Value → Option Value → Pt → Prop} (hK : Back l R p e below s args y 3 W9 Pre Post)
    {b : Addr} {cellB : Cell} (hcell : T.heap[b]? = some cellB) (hobj : cellB.vm.isStatics = false) (hcls : s.vm.findClass C = some cellB.cls)
    {g : JFrame} (hg : g.method = m) (hsize : g.locals.size = c.maxLocals) {argsL rest : List Value} (hlen : ∀ sig, parseMethodDescriptor y.desc = some sig → argsL.length = sig.parameters.length)
    (hstack : g.stack = argsL.reverse ++ .ref b :: rest) (hW : 2 * g.monitorRoom + (rest.map fun v => v.category).sum ≤ W9) (hdg : decode c.code g.pc = .ok (.invokevirtual index, 3))
    (hpre : ∀ vm₁, s.WarmedH vm₁ → Pre ⟨T.setVm vm₁, locs, cells, slots⟩ (Value.ref b :: argsL).toArray) :
    ∃ (v : Option Value) (vm₁ : Vm) (B : Pt), s.WarmedH vm₁ ∧ Stand p l e R s m args below meth c B.U B.locs B.cells B.slots ∧ Post ⟨T.setVm vm₁, locs, cells, slots⟩ (Value.ref b :: argsL).toArray v B ∧
      ∀ target, Steps p.tables e below (B.U.setTop { g with pc := g.pc + 3, stack := v.toList ++ rest }) target → Steps p.tables e below (T.setTop g) target := by
  obtain ⟨mk, methM, hnamed, hmethM, hstM, habM⟩ := Cond.instanceMethod_spec hinst
  obtain ⟨m8, methM', cM, hn8, hmethM', -, -, -, -, -, -, hsigM⟩ := Cond.codeWith_spec hcode
  cases Option.some.inj (hn8.symm.trans hnamed)
  cases hmethM.symm.trans hmethM'
  obtain ⟨c2, r2, m2, q1, q2, q3, q4, kP, hkP, hkPi⟩ := Cond.selects_spec hsel
  cases hcls.symm.trans q1
  cases (State.methodFound?_of_named hnamed hy).symm.trans q2
  cases hnamed.symm.trans q3
  have hselP : selectMethod e.platform s.vm cellB.cls mk = .method mk := by rw [Launch.admits_selectMethod X.admits]; exact q4
  obtain ⟨vm₁, X₁, hstep₁⟩ := X.invokevirtual hexec hown hlink hnamed hmethM hstM hkP hkPi hy (a := b) (cell := cellB) hcell
    (fun z h => by rw [h] at hobj; cases hobj) hselP hmethM habM hkP hkPi (g := g) hg (argsL := argsL) (rest := rest) (hlen _ hsigM) hstack hdg
  obtain ⟨v, B, X', hpost, hsteps⟩ := hK m meth c ⟨T.setVm vm₁, locs, cells, slots⟩ { g with stack := rest } (.invokevirtual index) mk (Value.ref b :: argsL).toArray X₁ hg hsize hdg hW (X₁.named hnamed) (hpre vm₁ X₁.warmed)
  exact ⟨v, vm₁, B, X₁.warmed, X', hpost, fun target h => hstep₁ _ fun acts => by rw [doInvoke_state]; exact hsteps.trans h⟩
abbrev vx_CVW (R : Room) (s : State) (args : Array Value) (own C : String) (index : Nat) (y : MethodName) (bytes : ByteArray) (maxL : Nat) (ret : Option FieldType) (hh : List (Nat × Nat × Nat × Nat)) (ws : List Cond) (rm : Room) (mc ms n : Nat) : Prop :=
  (rm.cells = mc ∧ rm.slots = ms ∧ rm.frames + 1 ≤ R.frames ∧ 8 + (maxL + 11) + rm.locals ≤ R.locals ∧ (∀ w ∈ ws, ∀ (a' : Array Value) (U : State), s.WarmedH U.vm → w.before a' U = true) ∧ Cond.codeWith y bytes maxL ret hh ∈ ws) ∧
  (Cond.codeWith y bytes maxL ret hh).before args s = true ∧ (Cond.initialized y.cls).before args s = true ∧ (y.cls ≠ "java/lang/invoke/MethodHandle" ∧ y.cls ≠ "java/lang/invoke/VarHandle") ∧
  (∀ sig, parseMethodDescriptor y.desc = some sig → n = sig.parameters.length) ∧ (Cond.methodLink own index y).before args s = true ∧ (Cond.instanceMethod y).before args s = true ∧ (Cond.selects C y y).before args s = true
theorem vx_cwVW {own C : String} {index maxL mc ms : Nat} {y : MethodName} {bytes : ByteArray} {ret : Option FieldType} {hh : List (Nat × Nat × Nat × Nat)} {Ts ws ws' : List Cond} {rm : Room} (n : Nat) (ht : ∀ w ∈ Ts, w.before args s = true) (hT : GoodIn Ts (wsV own index C y ws)) (hw : ws = Cond.codeWith y bytes maxL ret hh :: ws') (hrc : rm.cells = mc) (hrs : rm.slots = ms)
    (hd : y.cls = C ∧ y.cls ≠ "java/lang/invoke/MethodHandle" ∧ y.cls ≠ "java/lang/invoke/VarHandle" ∧ (parseMethodDescriptor y.desc).map (fun d => d.parameters.length) = some n) (hR : rm.frames + 1 ≤ R.frames ∧ 8 + (maxL + 11) + rm.locals ≤ R.locals) :
    vx_CVW R s args own C index y bytes maxL ret hh ws rm mc ms n := by
  obtain ⟨hC, hd⟩ := hd
  subst hC
  have ok : ∀ w ∈ wsV own index y.cls y ws, w.before args s = true := fun w h => ht w (hT w h).1
  have hG : GoodIn Ts ws := fun w h => hT w (by unfold wsV; exact List.mem_append_right _ h)
  have hc : Cond.codeWith y bytes maxL ret hh ∈ ws := by rw [hw]; exact List.mem_cons_self
  refine ⟨⟨hrc, hrs, hR.1, hR.2, pay_in ht hG, hc⟩, ht _ (hG _ hc).1, ok _ (by simp [wsV]), ⟨hd.1, hd.2.1⟩, fun sig h => ?_, ok _ (by simp [wsV]), ok _ (by simp [wsV]), ok _ (by simp [wsV])⟩
  have h2 := hd.2.2
  rw [h] at h2
  exact (Option.some.inj h2).symm
theorem vx_runVW {y : MethodName} {bytes cc : ByteArray} {maxL nL mc ms n index : Nat} {ret : Option FieldType} {hh : List (Nat × Nat × Nat × Nat)} {ws : List Cond} {rm : Room} {Pc : Array Value → State → Prop} {Qc : Array Value → State → Outcome → State → Prop} {free : Addr → Prop} {Ts : List Cond} {own C : String} {b : Addr} {As rest : List Value} {g : JFrame}
    (S : CallFix p m c cc nL s args Ts own) (hM : Met l y ws rm Pc Qc mc ms free) (cw : vx_CVW R s args own C index y bytes maxL ret hh ws rm mc ms n) (hp : PreV s H C b Pc As)
    (hg : g.method = m) (hn : As.length = n) (hsize : g.locals.size = nL) (hstack : g.stack = As.reverse ++ .ref b :: rest) (hW : 2 * g.monitorRoom + (rest.map fun v => v.category).sum ≤ 8) (hdg : decode cc g.pc = .ok (.invokevirtual index, 3)) (hf : cells + mc ≤ R.cells ∧ slots + ms ≤ R.slots) :
    va_Run p l e R s m args below meth c H locs cells slots mc ms g rest (Qc (Value.ref b :: As).toArray) free := by
  obtain ⟨⟨hrc, hrs, hfr, hlo, hws, hcw⟩, hcode, hini, hy, hlen, hl, hin, hse⟩ := cw
  have hK : Back l R p e below s args y 3 8 (PreOf R mc ms Pc) (PostOf Qc mc ms free) := va_backW (hh := hh) (bytes := bytes) (maxL := maxL) (ret := ret) hM hp.1 hrc hrs hfr hlo hws hcw (fun a' U hW => word_at hW (Or.inl (by first | rfl | simp [Cond.onTables, Cond.keeps, Cond.steady])) hini)
  obtain ⟨hx, hb, hml, ho, -⟩ := S
  obtain ⟨-, ⟨cellB, hcB, hoB, hclB⟩, hPc⟩ := hp
  intro T hT X
  obtain ⟨v, vm₁, ⟨U', l2, c2, s2⟩, hW₁, X', ⟨g', mk, t, L, e1, e2, hq, h1, hL, h2, h3⟩, st⟩ := vx_callVW X hx (C := C) (hh := hh) (bytes := bytes) (maxL := maxL) (ret := ret) ho hl hin hse hcode hy hK (by rw [hT]; exact hcB) hoB hclB hg (hsize.trans hml.symm) (argsL := As) (rest := rest) (fun sig h => hn.trans (hlen sig h)) hstack hW (by rw [hb]; exact hdg)
    (fun vm₁ hW₁ => ⟨hf.1, hf.2, hPc (T.setVm vm₁) hT hW₁⟩)
  dsimp only [Pt.U, Pt.locs, Pt.cells, Pt.slots] at X' e1 e2 h1 h2 h3 st
  subst h1; subst h2; subst h3
  exact ⟨v, (T.setVm vm₁).calling g' mk (Value.ref b :: As).toArray, t, U', L, hT, X', hL, e1, e2, hq, st⟩
section
variable {y : MethodName} {bytes cc : ByteArray} {maxL nL mc ms n index : Nat} {ret : Option FieldType} {ws : List Cond} {rm : Room} {Pc : Array Value → State → Prop} {Qc : Array Value → State → Outcome → State → Prop} {XC : String → State → State → Prop} {free : Addr → Prop} {Ts : List Cond} {own C : String} {b : Addr} {As rest : List Value} {g : JFrame}
theorem vx_runVX {hh : List (Nat × Nat × Nat × Nat)} (S : CallFix p m c cc nL s args Ts own) (hM : vx_Met l y ws rm Pc Qc XC mc ms free) (cw : vx_CVW R s args own C index y bytes maxL ret hh ws rm mc ms n) (hp : PreV s H C b Pc As)
    (hg : g.method = m) (hn : As.length = n) (hsize : g.locals.size = nL) (hstack : g.stack = As.reverse ++ .ref b :: rest) (hW : 2 * g.monitorRoom + (rest.map fun v => v.category).sum ≤ 8) (hdg : decode cc g.pc = .ok (.invokevirtual index, 3)) (hf : cells + mc ≤ R.cells ∧ slots + ms ≤ R.slots) :
    vx_Run p l e R s m args below meth c H locs cells slots mc ms g rest (Qc (Value.ref b :: As).toArray) XC free := by
  obtain ⟨⟨hrc, hrs, hfr, hlo, hws, hcw⟩, hcode, hini, hy, hlen, hl, hin, hse⟩ := cw
  have hK : vx_Back l R p e below s args y 3 8 (PreOf R mc ms Pc) (PostOf Qc mc ms free) (vx_Post XC mc ms free) := vx_backW (hh := hh) (bytes := bytes) (maxL := maxL) (ret := ret) hM hp.1 hrc hrs hfr hlo hws hcw (fun a' U hW => word_at hW (Or.inl (by first | rfl | simp [Cond.onTables, Cond.keeps, Cond.steady])) hini)
  obtain ⟨hx, hb, hml, ho, -⟩ := S
  obtain ⟨-, ⟨cellB, hcB, hoB, hclB⟩, hPc⟩ := hp
  intro T hT X
  rcases vx_callVX X hx (C := C) (hh := hh) (bytes := bytes) (maxL := maxL) (ret := ret) ho hl hin hse hcode hy hK (by rw [hT]; exact hcB) hoB hclB hg (hsize.trans hml.symm) (argsL := As) (rest := rest) (fun sig h => hn.trans (hlen sig h)) hstack hW (by rw [hb]; exact hdg)
    (fun vm₁ hW₁ => ⟨hf.1, hf.2, hPc (T.setVm vm₁) hT hW₁⟩) with ⟨v, vm₁, ⟨U', l2, c2, s2⟩, hW₁, X', ⟨g', mk, t, L, e1, e2, hq, h1, hL, h2, h3⟩, st⟩ | ⟨q, vm₁, ⟨U', l2, c2, s2⟩, hW₁, X', ⟨g', mk, t, L, E, ce, e1, e2, hq, hce, hcv, hcl, h1, hL, h2, h3⟩, st⟩
  · dsimp only [Pt.U, Pt.locs, Pt.cells, Pt.slots] at X' e1 e2 h1 h2 h3 st
    subst h1; subst h2; subst h3
    exact Or.inl ⟨v, (T.setVm vm₁).calling g' mk (Value.ref b :: As).toArray, t, U', L, hT, X', hL, e1, e2, hq, st⟩
  · dsimp only [Pt.U, Pt.locs, Pt.cells, Pt.slots] at X' e1 e2 h1 h2 h3 st hcl
    subst h1; subst h2; subst h3
    exact Or.inr ⟨q, (T.setVm vm₁).calling g' mk (Value.ref b :: As).toArray, t, U', L, E, ce, hT, X', hL, e1, e2, hq, hce, hcv, vx_cls hW₁ hcl, st⟩
theorem vx_runSX {hh : List (Nat × Nat × Nat × Nat)} (S : CallFix p m c cc nL s args Ts own) (hM : vx_Met l y ws rm Pc Qc XC mc ms free) (cw : vx_CSW R s args own index y bytes maxL ret hh ws rm mc ms n) (hp : PreS s H Pc As)
    (hg : g.method = m) (hn : As.length = n) (hsize : g.locals.size = nL) (hstack : g.stack = As.reverse ++ rest) (hW : 2 * g.monitorRoom + (rest.map fun v => v.category).sum ≤ 8) (hdg : decode cc g.pc = .ok (.invokestatic index, 3)) (hf : cells + mc ≤ R.cells ∧ slots + ms ≤ R.slots) :
    vx_Run p l e R s m args below meth c H locs cells slots mc ms g rest (Qc As.toArray) XC free := by
  obtain ⟨⟨hrc, hrs, hfr, hlo, hws, hcw⟩, hcode, hini, hy, hlen, hl, hstt⟩ := cw
  have hK : vx_Back l R p e below s args y 3 8 (PreOf R mc ms Pc) (PostOf Qc mc ms free) (vx_Post XC mc ms free) := vx_backW (hh := hh) (bytes := bytes) (maxL := maxL) (ret := ret) hM hp.1 hrc hrs hfr hlo hws hcw (fun a' U hW => word_at hW (Or.inl (by first | rfl | simp [Cond.onTables, Cond.keeps, Cond.steady])) hini)
  obtain ⟨hx, hb, hml, ho, -⟩ := S
  intro T hT X
  rcases vx_callSX X hx (hh := hh) (bytes := bytes) (maxL := maxL) (ret := ret) ho hl hstt hini hcode hy hK hg (hsize.trans hml.symm) (argsL := As) (rest := rest) (fun sig h => hn.trans (hlen sig h)) hstack hW (by rw [hb]; exact hdg)
    (fun vm₁ hW₁ => ⟨hf.1, hf.2, hp.2 (T.setVm vm₁) hT hW₁⟩) with ⟨v, vm₁, ⟨U', l2, c2, s2⟩, hW₁, X', ⟨g', mk, t, L, e1, e2, hq, h1, hL, h2, h3⟩, st⟩ | ⟨q, vm₁, ⟨U', l2, c2, s2⟩, hW₁, X', ⟨g', mk, t, L, E, ce, e1, e2, hq, hce, hcv, hcl, h1, hL, h2, h3⟩, st⟩
  · dsimp only [Pt.U, Pt.locs, Pt.cells, Pt.slots] at X' e1 e2 h1 h2 h3 st
    subst h1; subst h2; subst h3
    exact Or.inl ⟨v, (T.setVm vm₁).calling g' mk As.toArray, t, U', L, hT, X', hL, e1, e2, hq, st⟩
  · dsimp only [Pt.U, Pt.locs, Pt.cells, Pt.slots] at X' e1 e2 h1 h2 h3 st hcl
    subst h1; subst h2; subst h3
    exact Or.inr ⟨q, (T.setVm vm₁).calling g' mk As.toArray, t, U', L, E, ce, hT, X', hL, e1, e2, hq, hce, hcv, vx_cls hW₁ hcl, st⟩
end
end VXH
theorem vx_ofWH {l : Launch} {y : MethodName} {ws ws' : List Cond} {rm : Room} {Pc : Array Value → State → Prop} {Qc : Array Value → State → Outcome → State → Prop} {XC : String → State → State → Prop} {mc ms : Nat} {free : Addr → Prop} {cc : ByteArray} {maxL : Nat} {ret : Option FieldType} {hh : List (Nat × Nat × Nat × Nat)}
    (hy : plainName y.cls = true) (hw : ws = Cond.codeWith y cc maxL ret hh :: ws')
    (body : ∀ p e s m args below meth c s₁, BodyLoose p l y (headSpec ws rm) cc maxL ret e s m args below meth c s₁ → c.maxLocals = maxL → Pc args s →
      W p l e (headSpec ws rm).room s m args below meth c s.heap [] 0 0 (vx_MQ below Qc XC args s mc ms free) (entryFrame m args maxL)) : vx_Met l y ws rm Pc Qc XC mc ms free := by
  refine MetFree.of_bodyS (code := cc) (maxLocals := maxL) (ret := ret) hy ?_ ?_
  · intro args s m h hn
    obtain ⟨m9, meth, c, hn9, h1, h2, h3, h4, -, h5, h6, -⟩ := Cond.codeWith_spec (atoms_spec (ws := ws) h _ (by rw [hw]; exact List.mem_cons_self))
    cases hn.symm.trans hn9
    exact ⟨meth, c, h1, h2, h3, h4, h5, h6⟩
  · intro p e s m args below meth c s₁ B hml hP _
    have hh0 : s₁.heap = s.heap := by rw [B.state]; rfl
    obtain ⟨t, a1, o, b1, b2, b3⟩ := body p e s m args below meth c s₁ B hml hP s₁ hh0 (Stand.of_body B)
    exact ⟨t, o, a1, b1, b2, b3⟩
/-! ===== END ===== -/
end
section
/-! ===== BEGIN printed: names, fields, word lists, decode rows ===== -/
def RX0 : String := "CobblerCodes$Heap"
def TX0 : u_T := fun k => match k with
  | 0 => ("CobblerCodes$Heap", "weight", "[I", true)
  | 1 => ("CobblerCodes$Heap", "leaf", "[I", true)
  | 2 => ("CobblerCodes$Heap", "firstPart", "[I", true)
  | _ => ("CobblerCodes$Heap", "size", "I", false)
def tyX0 : Nat → FieldType := fun k => match k with
  | 0 => .array .int
  | 1 => .array .int
  | 2 => .array .int
  | _ => .int
abbrev wsX00 : List Cond := u_ws RX0 TX0 4
theorem nmX0 : ∀ a, a < 4 → ∀ b, b < 4 → a ≠ b → (TX0 a).2.1 ≠ (TX0 b).2.1 := by decide +kernel
theorem tyX0_ok : ∀ k, k < 4 → parseFieldDescriptor (TX0 k).2.2.1 = some (tyX0 k) := by decide +kernel
abbrev cX0_init : ByteArray := prog_2_method_1_code
def yX0_init : MethodName := ⟨RX0, "<init>", "()V"⟩
abbrev cX0_clear : ByteArray := prog_2_method_2_code
def yX0_clear : MethodName := ⟨RX0, "clear", "()V"⟩
abbrev cX0_add : ByteArray := prog_2_method_3_code
def yX0_add : MethodName := ⟨RX0, "add", "(III)V"⟩
abbrev cX0_lightest : ByteArray := prog_2_method_4_code
def yX0_lightest : MethodName := ⟨RX0, "lightest", "()I"⟩
abbrev cX0_drop : ByteArray := prog_2_method_5_code
def yX0_drop : MethodName := ⟨RX0, "drop", "(I)V"⟩
def RX1 : String := "CobblerCodes$Shop"
def TX1 : u_T := fun k => match k with
  | 0 => ("CobblerCodes$Shop", "tree", "LCobblerCodes$Tree;", true)
  | 1 => ("CobblerCodes$Shop", "limit", "I", false)
  | 2 => ("CobblerCodes$Shop", "uses", "I", false)
  | _ => ("CobblerCodes$Shop", "bits", "I", false)
def tyX1 : Nat → FieldType := fun k => match k with
  | 0 => .object "CobblerCodes$Tree"
  | 1 => .int
  | 2 => .int
  | _ => .int
abbrev wsX10 : List Cond := u_ws RX1 TX1 4
theorem nmX1 : ∀ a, a < 4 → ∀ b, b < 4 → a ≠ b → (TX1 a).2.1 ≠ (TX1 b).2.1 := by decide +kernel
theorem tyX1_ok : ∀ k, k < 4 → parseFieldDescriptor (TX1 k).2.2.1 = some (tyX1 k) := by decide +kernel
abbrev cX1_init : ByteArray := prog_3_method_1_code
def yX1_init : MethodName := ⟨RX1, "<init>", "()V"⟩
abbrev cX1_startLike : ByteArray := prog_3_method_2_code
def yX1_startLike : MethodName := ⟨RX1, "startLike", "(LCobblerCodes$Shop;)V"⟩
abbrev cX1_bitsFor : ByteArray := prog_3_method_3_code
def yX1_bitsFor : MethodName := ⟨RX1, "bitsFor", "(I)I"⟩
abbrev cX1_takeOne : ByteArray := prog_3_method_4_code
def yX1_takeOne : MethodName := ⟨RX1, "takeOne", "(I)I"⟩
abbrev cX1_takeRow : ByteArray := prog_3_method_5_code
def yX1_takeRow : MethodName := ⟨RX1, "takeRow", "(III)I"⟩
abbrev cX1_factOfShop : ByteArray := prog_3_method_6_code
def yX1_factOfShop : MethodName := ⟨RX1, "factOfShop", "(I)I"⟩
def RX2 : String := "CobblerCodes$Tree"
def TX2 : u_T := fun k => match k with
  | 0 => ("CobblerCodes$Tree", "weight", "[I", true)
  | 1 => ("CobblerCodes$Tree", "leaf", "[I", true)
  | 2 => ("CobblerCodes$Tree", "firstPart", "[I", true)
  | 3 => ("CobblerCodes$Tree", "above", "[I", true)
  | 4 => ("CobblerCodes$Tree", "placeOf", "[I", true)
  | 5 => ("CobblerCodes$Tree", "heap", "LCobblerCodes$Heap;", true)
  | 6 => ("CobblerCodes$Tree", "size", "I", false)
  | 7 => ("CobblerCodes$Tree", "exchanges", "I", false)
  | _ => ("CobblerCodes$Tree", "wears", "I", false)
def tyX2 : Nat → FieldType := fun k => match k with
  | 0 => .array .int
  | 1 => .array .int
  | 2 => .array .int
  | 3 => .array .int
  | 4 => .array .int
  | 5 => .object "CobblerCodes$Heap"
  | 6 => .int
  | 7 => .int
  | _ => .int
abbrev wsX20 : List Cond := u_ws RX2 TX2 9
theorem nmX2 : ∀ a, a < 9 → ∀ b, b < 9 → a ≠ b → (TX2 a).2.1 ≠ (TX2 b).2.1 := by decide +kernel
theorem tyX2_ok : ∀ k, k < 9 → parseFieldDescriptor (TX2 k).2.2.1 = some (tyX2 k) := by decide +kernel
abbrev cX2_init : ByteArray := prog_4_method_1_code
def yX2_init : MethodName := ⟨RX2, "<init>", "()V"⟩
abbrev cX2_becomeLike : ByteArray := prog_4_method_2_code
def yX2_becomeLike : MethodName := ⟨RX2, "becomeLike", "(LCobblerCodes$Tree;)V"⟩
abbrev cX2_knows : ByteArray := prog_4_method_3_code
def yX2_knows : MethodName := ⟨RX2, "knows", "(I)Z"⟩
abbrev cX2_knownLasts : ByteArray := prog_4_method_4_code
def yX2_knownLasts : MethodName := ⟨RX2, "knownLasts", "()I"⟩
abbrev cX2_weightOfRoot : ByteArray := prog_4_method_5_code
def yX2_weightOfRoot : MethodName := ⟨RX2, "weightOfRoot", "()I"⟩
abbrev cX2_factOfNode : ByteArray := prog_4_method_6_code
def yX2_factOfNode : MethodName := ⟨RX2, "factOfNode", "(II)I"⟩
abbrev cX2_factOfLeaf : ByteArray := prog_4_method_7_code
def yX2_factOfLeaf : MethodName := ⟨RX2, "factOfLeaf", "(II)I"⟩
abbrev cX2_lengthOf : ByteArray := prog_4_method_8_code
def yX2_lengthOf : MethodName := ⟨RX2, "lengthOf", "(I)I"⟩
abbrev cX2_codeOf : ByteArray := prog_4_method_9_code
def yX2_codeOf : MethodName := ⟨RX2, "codeOf", "(I)I"⟩
abbrev cX2_codeByLengths : ByteArray := prog_4_method_10_code
def yX2_codeByLengths : MethodName := ⟨RX2, "codeByLengths", "(I)I"⟩
abbrev cX2_firstWritten : ByteArray := prog_4_method_11_code
def yX2_firstWritten : MethodName := ⟨RX2, "firstWritten", "(II)I"⟩
abbrev cX2_putNode : ByteArray := prog_4_method_12_code
def yX2_putNode : MethodName := ⟨RX2, "putNode", "(IIII)V"⟩
abbrev cX2_learn : ByteArray := prog_4_method_13_code
def yX2_learn : MethodName := ⟨RX2, "learn", "(I)V"⟩
abbrev cX2_makeHeavier : ByteArray := prog_4_method_14_code
def yX2_makeHeavier : MethodName := ⟨RX2, "makeHeavier", "(I)V"⟩
abbrev cX2_firstAsHeavyAs : ByteArray := prog_4_method_15_code
def yX2_firstAsHeavyAs : MethodName := ⟨RX2, "firstAsHeavyAs", "(I)I"⟩
abbrev cX2_exchange : ByteArray := prog_4_method_16_code
def yX2_exchange : MethodName := ⟨RX2, "exchange", "(II)V"⟩
abbrev cX2_wearDown : ByteArray := prog_4_method_17_code
def yX2_wearDown : MethodName := ⟨RX2, "wearDown", "()I"⟩
abbrev cX2_fillHeap : ByteArray := prog_4_method_18_code
def yX2_fillHeap : MethodName := ⟨RX2, "fillHeap", "()I"⟩
abbrev cX2_takeLightest : ByteArray := prog_4_method_19_code
def yX2_takeLightest : MethodName := ⟨RX2, "takeLightest", "(I)I"⟩
def RX3 : String := "CobblerCodes"
def TX3 : u_T := fun k => match k with
  | 0 => ("CobblerCodes", "shop", "LCobblerCodes$Shop;", true)
  | _ => ("CobblerCodes", "trial", "LCobblerCodes$Shop;", true)
def tyX3 : Nat → FieldType := fun k => match k with
  | 0 => .object "CobblerCodes$Shop"
  | _ => .object "CobblerCodes$Shop"
abbrev wsX30 : List Cond := u_ws RX3 TX3 2
theorem nmX3 : ∀ a, a < 2 → ∀ b, b < 2 → a ≠ b → (TX3 a).2.1 ≠ (TX3 b).2.1 := by decide +kernel
theorem tyX3_ok : ∀ k, k < 2 → parseFieldDescriptor (TX3 k).2.2.1 = some (tyX3 k) := by decide +kernel
abbrev cX3_init : ByteArray := prog_1_method_1_code
def yX3_init : MethodName := ⟨RX3, "<init>", "()V"⟩
abbrev cX3_use : ByteArray := prog_1_method_2_code
def yX3_use : MethodName := ⟨RX3, "use", "(I)I"⟩
abbrev cX3_useAll : ByteArray := prog_1_method_3_code
def yX3_useAll : MethodName := ⟨RX3, "useAll", "(III)I"⟩
abbrev cX3_setLimit : ByteArray := prog_1_method_4_code
def yX3_setLimit : MethodName := ⟨RX3, "setLimit", "(I)I"⟩
abbrev cX3_wear : ByteArray := prog_1_method_5_code
def yX3_wear : MethodName := ⟨RX3, "wear", "()I"⟩
abbrev cX3_told : ByteArray := prog_1_method_6_code
def yX3_told : MethodName := ⟨RX3, "told", "(II)I"⟩
abbrev cX3_sole : ByteArray := prog_1_method_7_code
def yX3_sole : MethodName := ⟨RX3, "sole", "(I)I"⟩
abbrev cX3_node : ByteArray := prog_1_method_8_code
def yX3_node : MethodName := ⟨RX3, "node", "(II)I"⟩
abbrev cX3_count : ByteArray := prog_1_method_9_code
def yX3_count : MethodName := ⟨RX3, "count", "(I)I"⟩
abbrev cX3_read : ByteArray := prog_1_method_10_code
def yX3_read : MethodName := ⟨RX3, "read", "(II)I"⟩
abbrev cX3_cheapest : ByteArray := prog_1_method_11_code
def yX3_cheapest : MethodName := ⟨RX3, "cheapest", "()I"⟩
abbrev cX3_would : ByteArray := prog_1_method_12_code
def yX3_would : MethodName := ⟨RX3, "would", "(III)I"⟩
abbrev cX3_advise : ByteArray := prog_1_method_13_code
def yX3_advise : MethodName := ⟨RX3, "advise", "(III)I"⟩
abbrev cX3_saved : ByteArray := prog_1_method_14_code
def yX3_saved : MethodName := ⟨RX3, "saved", "()I"⟩
abbrev cX3_mean : ByteArray := prog_1_method_15_code
def yX3_mean : MethodName := ⟨RX3, "mean", "()D"⟩
abbrev cX3_digest : ByteArray := prog_1_method_16_code
def yX3_digest : MethodName := ⟨RX3, "digest", "()J"⟩
abbrev cX3_requireIndex : ByteArray := prog_1_method_17_code
def yX3_requireIndex : MethodName := ⟨RX3, "requireIndex", "(II)V"⟩
abbrev cX3_requireRow : ByteArray := prog_1_method_18_code
def yX3_requireRow : MethodName := ⟨RX3, "requireRow", "(III)V"⟩
abbrev cX3_at : ByteArray := prog_1_method_19_code
def yX3_at : MethodName := ⟨RX3, "at", "([II)I"⟩
abbrev cX3_put : ByteArray := prog_1_method_20_code
def yX3_put : MethodName := ⟨RX3, "put", "([III)V"⟩
def RX4 : String := "CobblerCodesModel"
def TX4 : u_T := fun k => match k with
  | 0 => ("CobblerCodesModel", "thrown", "I", false)
  | 1 => ("CobblerCodesModel", "weight", "[I", false)
  | 2 => ("CobblerCodesModel", "last", "[I", false)
  | 3 => ("CobblerCodesModel", "first", "[I", false)
  | 4 => ("CobblerCodesModel", "nodes", "I", false)
  | 5 => ("CobblerCodesModel", "uses", "I", false)
  | 6 => ("CobblerCodesModel", "bits", "I", false)
  | 7 => ("CobblerCodesModel", "changes", "I", false)
  | 8 => ("CobblerCodesModel", "worn", "I", false)
  | 9 => ("CobblerCodesModel", "limit", "I", false)
  | 10 => ("CobblerCodesModel", "heap", "[I", true)
  | _ => ("CobblerCodesModel", "heaped", "I", false)
def tyX4 : Nat → FieldType := fun k => match k with
  | 0 => .int
  | 1 => .array .int
  | 2 => .array .int
  | 3 => .array .int
  | 4 => .int
  | 5 => .int
  | 6 => .int
  | 7 => .int
  | 8 => .int
  | 9 => .int
  | 10 => .array .int
  | _ => .int
abbrev wsX40 : List Cond := u_ws RX4 TX4 12
theorem nmX4 : ∀ a, a < 12 → ∀ b, b < 12 → a ≠ b → (TX4 a).2.1 ≠ (TX4 b).2.1 := by decide +kernel
theorem tyX4_ok : ∀ k, k < 12 → parseFieldDescriptor (TX4 k).2.2.1 = some (tyX4 k) := by decide +kernel
abbrev cX4_init : ByteArray := prog_6_method_1_code
def yX4_init : MethodName := ⟨RX4, "<init>", "()V"⟩
abbrev cX4_thrown : ByteArray := prog_6_method_2_code
def yX4_thrown : MethodName := ⟨RX4, "thrown", "()I"⟩
abbrev cX4_no : ByteArray := prog_6_method_3_code
def yX4_no : MethodName := ⟨RX4, "no", "(I)I"⟩
abbrev cX4_isIn : ByteArray := prog_6_method_4_code
def yX4_isIn : MethodName := ⟨RX4, "isIn", "(III)Z"⟩
abbrev cX4_isLast : ByteArray := prog_6_method_5_code
def yX4_isLast : MethodName := ⟨RX4, "isLast", "(I)Z"⟩
abbrev cX4_set : ByteArray := prog_6_method_6_code
def yX4_set : MethodName := ⟨RX4, "set", "(IIII)V"⟩
abbrev cX4_placeOf : ByteArray := prog_6_method_7_code
def yX4_placeOf : MethodName := ⟨RX4, "placeOf", "(I)I"⟩
abbrev cX4_above : ByteArray := prog_6_method_8_code
def yX4_above : MethodName := ⟨RX4, "above", "(I)I"⟩
abbrev cX4_lengthAt : ByteArray := prog_6_method_9_code
def yX4_lengthAt : MethodName := ⟨RX4, "lengthAt", "(I)I"⟩
abbrev cX4_codeAt : ByteArray := prog_6_method_10_code
def yX4_codeAt : MethodName := ⟨RX4, "codeAt", "(I)I"⟩
abbrev cX4_bitsOf : ByteArray := prog_6_method_11_code
def yX4_bitsOf : MethodName := ⟨RX4, "bitsOf", "(I)I"⟩
abbrev cX4_change : ByteArray := prog_6_method_12_code
def yX4_change : MethodName := ⟨RX4, "change", "(II)V"⟩
abbrev cX4_asHeavy : ByteArray := prog_6_method_13_code
def yX4_asHeavy : MethodName := ⟨RX4, "asHeavy", "(I)I"⟩
abbrev cX4_add : ByteArray := prog_6_method_14_code
def yX4_add : MethodName := ⟨RX4, "add", "(I)V"⟩
abbrev cX4_useOne : ByteArray := prog_6_method_15_code
def yX4_useOne : MethodName := ⟨RX4, "useOne", "(I)I"⟩
abbrev cX4_push : ByteArray := prog_6_method_16_code
def yX4_push : MethodName := ⟨RX4, "push", "(III)V"⟩
abbrev cX4_pull : ByteArray := prog_6_method_17_code
def yX4_pull : MethodName := ⟨RX4, "pull", "(I)I"⟩
abbrev cX4_wearAll : ByteArray := prog_6_method_18_code
def yX4_wearAll : MethodName := ⟨RX4, "wearAll", "()I"⟩
abbrev cX4_known : ByteArray := prog_6_method_19_code
def yX4_known : MethodName := ⟨RX4, "known", "()I"⟩
abbrev cX4_lengthCode : ByteArray := prog_6_method_20_code
def yX4_lengthCode : MethodName := ⟨RX4, "lengthCode", "(I)I"⟩
abbrev cX4_nextLeaf : ByteArray := prog_6_method_21_code
def yX4_nextLeaf : MethodName := ⟨RX4, "nextLeaf", "(II)I"⟩
abbrev cX4_use : ByteArray := prog_6_method_22_code
def yX4_use : MethodName := ⟨RX4, "use", "(I)I"⟩
abbrev cX4_row : ByteArray := prog_6_method_23_code
def yX4_row : MethodName := ⟨RX4, "row", "(III)I"⟩
abbrev cX4_isRow : ByteArray := prog_6_method_24_code
def yX4_isRow : MethodName := ⟨RX4, "isRow", "(III)Z"⟩
abbrev cX4_useAll : ByteArray := prog_6_method_25_code
def yX4_useAll : MethodName := ⟨RX4, "useAll", "(III)I"⟩
abbrev cX4_setLimit : ByteArray := prog_6_method_26_code
def yX4_setLimit : MethodName := ⟨RX4, "setLimit", "(I)I"⟩
abbrev cX4_wear : ByteArray := prog_6_method_27_code
def yX4_wear : MethodName := ⟨RX4, "wear", "()I"⟩
abbrev cX4_leafTold : ByteArray := prog_6_method_28_code
def yX4_leafTold : MethodName := ⟨RX4, "leafTold", "(III)I"⟩
abbrev cX4_lastTold : ByteArray := prog_6_method_29_code
def yX4_lastTold : MethodName := ⟨RX4, "lastTold", "(II)I"⟩
abbrev cX4_told : ByteArray := prog_6_method_30_code
def yX4_told : MethodName := ⟨RX4, "told", "(II)I"⟩
abbrev cX4_sole : ByteArray := prog_6_method_31_code
def yX4_sole : MethodName := ⟨RX4, "sole", "(I)I"⟩
abbrev cX4_nodeTold : ByteArray := prog_6_method_32_code
def yX4_nodeTold : MethodName := ⟨RX4, "nodeTold", "(II)I"⟩
abbrev cX4_node : ByteArray := prog_6_method_33_code
def yX4_node : MethodName := ⟨RX4, "node", "(II)I"⟩
abbrev cX4_counted : ByteArray := prog_6_method_34_code
def yX4_counted : MethodName := ⟨RX4, "counted", "(I)I"⟩
abbrev cX4_count : ByteArray := prog_6_method_35_code
def yX4_count : MethodName := ⟨RX4, "count", "(I)I"⟩
abbrev cX4_readOne : ByteArray := prog_6_method_36_code
def yX4_readOne : MethodName := ⟨RX4, "readOne", "(II)I"⟩
abbrev cX4_read : ByteArray := prog_6_method_37_code
def yX4_read : MethodName := ⟨RX4, "read", "(II)I"⟩
abbrev cX4_cheapest : ByteArray := prog_6_method_38_code
def yX4_cheapest : MethodName := ⟨RX4, "cheapest", "()I"⟩
abbrev cX4_copy : ByteArray := prog_6_method_39_code
def yX4_copy : MethodName := ⟨RX4, "copy", "([I)[I"⟩
abbrev cX4_tried : ByteArray := prog_6_method_40_code
def yX4_tried : MethodName := ⟨RX4, "tried", "(IIII)I"⟩
abbrev cX4_would : ByteArray := prog_6_method_41_code
def yX4_would : MethodName := ⟨RX4, "would", "(III)I"⟩
abbrev cX4_bestLimit : ByteArray := prog_6_method_42_code
def yX4_bestLimit : MethodName := ⟨RX4, "bestLimit", "(III)I"⟩
abbrev cX4_advise : ByteArray := prog_6_method_43_code
def yX4_advise : MethodName := ⟨RX4, "advise", "(III)I"⟩
abbrev cX4_saved : ByteArray := prog_6_method_44_code
def yX4_saved : MethodName := ⟨RX4, "saved", "()I"⟩
abbrev cX4_mean : ByteArray := prog_6_method_45_code
def yX4_mean : MethodName := ⟨RX4, "mean", "()D"⟩
abbrev cX4_digest : ByteArray := prog_6_method_46_code
def yX4_digest : MethodName := ⟨RX4, "digest", "()J"⟩
def RJx145de : String := "java/io/Serializable"
def TJx145de : u_T := fun k => match k with
  | _ => ("", "", "", false)
def tyJx145de : Nat → FieldType := fun k => match k with
  | _ => .int
abbrev wsJx145de0 : List Cond := u_ws RJx145de TJx145de 0
theorem nmJx145de : ∀ a, a < 0 → ∀ b, b < 0 → a ≠ b → (TJx145de a).2.1 ≠ (TJx145de b).2.1 := by decide +kernel
theorem tyJx145de_ok : ∀ k, k < 0 → parseFieldDescriptor (TJx145de k).2.2.1 = some (tyJx145de k) := by decide +kernel
def RJ0 : String := "java/lang/String"
def TJ0 : u_T := fun k => match k with
  | _ => ("", "", "", false)
def tyJ0 : Nat → FieldType := fun k => match k with
  | _ => .int
abbrev wsJ00 : List Cond := u_ws RJ0 TJ0 0
theorem nmJ0 : ∀ a, a < 0 → ∀ b, b < 0 → a ≠ b → (TJ0 a).2.1 ≠ (TJ0 b).2.1 := by decide +kernel
theorem tyJ0_ok : ∀ k, k < 0 → parseFieldDescriptor (TJ0 k).2.2.1 = some (tyJ0 k) := by decide +kernel
def RJ10 : String := "java/lang/System"
def TJ10 : u_T := fun k => match k with
  | _ => ("", "", "", false)
def tyJ10 : Nat → FieldType := fun k => match k with
  | _ => .int
abbrev wsJ100 : List Cond := u_ws RJ10 TJ10 0
theorem nmJ10 : ∀ a, a < 0 → ∀ b, b < 0 → a ≠ b → (TJ10 a).2.1 ≠ (TJ10 b).2.1 := by decide +kernel
theorem tyJ10_ok : ∀ k, k < 0 → parseFieldDescriptor (TJ10 k).2.2.1 = some (tyJ10 k) := by decide +kernel
def RJ7 : String := "java/util/Arrays"
def TJ7 : u_T := fun k => match k with
  | _ => ("", "", "", false)
def tyJ7 : Nat → FieldType := fun k => match k with
  | _ => .int
abbrev wsJ70 : List Cond := u_ws RJ7 TJ7 0
theorem nmJ7 : ∀ a, a < 0 → ∀ b, b < 0 → a ≠ b → (TJ7 a).2.1 ≠ (TJ7 b).2.1 := by decide +kernel
theorem tyJ7_ok : ∀ k, k < 0 → parseFieldDescriptor (TJ7 k).2.2.1 = some (tyJ7 k) := by decide +kernel
abbrev cJ7_fill_53178 : ByteArray := prog_15_method_103_code
def yJ7_fill_53178 : MethodName := ⟨RJ7, "fill", "([II)V"⟩
def RL : String := "CobblerCodesLaw"
abbrev cL_use : ByteArray := method_3_code
def yL_use : MethodName := ⟨RL, "use", "(LCobblerCodes;I[J)I"⟩
abbrev cL_useAll : ByteArray := method_4_code
def yL_useAll : MethodName := ⟨RL, "useAll", "(LCobblerCodes;III[J)I"⟩
abbrev cL_setLimit : ByteArray := method_5_code
def yL_setLimit : MethodName := ⟨RL, "setLimit", "(LCobblerCodes;I[J)I"⟩
abbrev cL_wear : ByteArray := method_6_code
def yL_wear : MethodName := ⟨RL, "wear", "(LCobblerCodes;[J)I"⟩
abbrev cL_told : ByteArray := method_7_code
def yL_told : MethodName := ⟨RL, "told", "(LCobblerCodes;II[J)I"⟩
abbrev cL_sole : ByteArray := method_8_code
def yL_sole : MethodName := ⟨RL, "sole", "(LCobblerCodes;I[J)I"⟩
abbrev cL_node : ByteArray := method_9_code
def yL_node : MethodName := ⟨RL, "node", "(LCobblerCodes;II[J)I"⟩
abbrev cL_count : ByteArray := method_10_code
def yL_count : MethodName := ⟨RL, "count", "(LCobblerCodes;I[J)I"⟩
abbrev cL_read : ByteArray := method_11_code
def yL_read : MethodName := ⟨RL, "read", "(LCobblerCodes;II[J)I"⟩
abbrev cL_would : ByteArray := method_12_code
def yL_would : MethodName := ⟨RL, "would", "(LCobblerCodes;III[J)I"⟩
abbrev cL_advise : ByteArray := method_13_code
def yL_advise : MethodName := ⟨RL, "advise", "(LCobblerCodes;III[J)I"⟩
abbrev cL_law : ByteArray := code
def yL_law : MethodName := ⟨RL, "law", "([I)Z"⟩
def wsX0_init : List Cond := .code yX0_init cX0_init 1 none :: ([.methodLink RX0 3 objectInit, .instanceMethod objectInit, .code objectInit ⟨#[0xb1]⟩ 1 none, .arrayClass .int, .fieldLink RX0 9 "CobblerCodes$Heap" "weight" "[I", .fieldLink RX0 15 "CobblerCodes$Heap" "leaf" "[I", .fieldLink RX0 18 "CobblerCodes$Heap" "firstPart" "[I"] ++ wsX00)
def wsX0_clear : List Cond := .code yX0_clear cX0_clear 1 none :: ([.fieldLink RX0 21 "CobblerCodes$Heap" "size" "I"] ++ wsX00)
def wsX3_put : List Cond := .code yX3_put cX3_put 3 none :: ([])
def wsX0_add : List Cond := .code yX0_add cX0_add 4 none :: ([.fieldLink RX0 9 "CobblerCodes$Heap" "weight" "[I", .fieldLink RX0 21 "CobblerCodes$Heap" "size" "I", .fieldLink RX0 15 "CobblerCodes$Heap" "leaf" "[I", .fieldLink RX0 18 "CobblerCodes$Heap" "firstPart" "[I", .static yX3_put, .initialized RX3, .code yX3_put cX3_put 3 none] ++ wsX00)
def wsX3_at : List Cond := .code yX3_at cX3_at 2 (some .int) :: ([])
def wsX0_lightest : List Cond := .code yX0_lightest cX0_lightest 4 (some .int) :: ([.fieldLink RX0 21 "CobblerCodes$Heap" "size" "I", .fieldLink RX0 9 "CobblerCodes$Heap" "weight" "[I", .static yX3_at, .initialized RX3, .code yX3_at cX3_at 2 (some .int)] ++ wsX00)
def wsX0_drop : List Cond := .code yX0_drop cX0_drop 2 none :: ([.fieldLink RX0 9 "CobblerCodes$Heap" "weight" "[I", .static yX3_put, .initialized RX3, .code yX3_put cX3_put 3 none] ++ wsX00)
def wsJ7_fill_53178 : List Cond := .code yJ7_fill_53178 cJ7_fill_53178 4 none :: ([])
def wsX2_putNode : List Cond := .code yX2_putNode cX2_putNode 5 none :: ([.fieldLink RX2 9 "CobblerCodes$Tree" "weight" "[I", .fieldLink RX2 15 "CobblerCodes$Tree" "leaf" "[I", .fieldLink RX2 18 "CobblerCodes$Tree" "firstPart" "[I", .fieldLink RX2 24 "CobblerCodes$Tree" "placeOf" "[I", .fieldLink RX2 21 "CobblerCodes$Tree" "above" "[I", .static yX3_put, .initialized RX3, .code yX3_put cX3_put 3 none] ++ wsX20)
def wsX2_init_r1 : List Cond := [Cond.methodLink RX2 3 objectInit, Cond.instanceMethod objectInit, Cond.code objectInit ⟨#[0xb1]⟩ 1 none, Cond.arrayClass .int, Cond.fieldLink RX2 9 "CobblerCodes$Tree" "weight" "[I", Cond.fieldLink RX2 15 "CobblerCodes$Tree" "leaf" "[I", Cond.fieldLink RX2 18 "CobblerCodes$Tree" "firstPart" "[I", Cond.fieldLink RX2 21 "CobblerCodes$Tree" "above" "[I", Cond.fieldLink RX2 24 "CobblerCodes$Tree" "placeOf" "[I", Cond.classLink RX2 27 RX0, Cond.instantiable RX0 4, Cond.initialized RX0, Cond.fieldLink RX2 30 "CobblerCodes$Tree" "heap" "LCobblerCodes$Heap;", Cond.fieldLink RX2 40 "CobblerCodes$Tree" "size" "I", Cond.instanceMethod yX0_init, Cond.code yX0_init cX0_init 1 none, Cond.methodLink RX0 3 objectInit, Cond.fieldLink RX0 9 "CobblerCodes$Heap" "weight" "[I", Cond.fieldLink RX0 15 "CobblerCodes$Heap" "leaf" "[I", Cond.fieldLink RX0 18 "CobblerCodes$Heap" "firstPart" "[I", Cond.methodLink RX2 34 yJ7_fill_53178, Cond.static yJ7_fill_53178, Cond.initialized RJ7, Cond.code yJ7_fill_53178 cJ7_fill_53178 4 none]
def wsX2_init_r2 : List Cond := [Cond.methodLink RX2 44 yX2_putNode, Cond.instanceMethod yX2_putNode, Cond.selects RX2 yX2_putNode yX2_putNode, Cond.initialized RX2, Cond.code yX2_putNode cX2_putNode 5 none, Cond.static yX3_put, Cond.initialized RX3, Cond.code yX3_put cX3_put 3 none]
def wsX2_init : List Cond := .code yX2_init cX2_init 1 none :: ((wsX2_init_r1 ++ wsX2_init_r2) ++ wsX20 ++ wsX00)
def wsX1_init_r1 : List Cond := [Cond.methodLink RX1 3 objectInit, Cond.instanceMethod objectInit, Cond.code objectInit ⟨#[0xb1]⟩ 1 none, Cond.classLink RX1 9 RX2, Cond.instantiable RX2 9, Cond.initialized RX2, Cond.fieldLink RX1 12 "CobblerCodes$Shop" "tree" "LCobblerCodes$Tree;", Cond.fieldLink RX1 18 "CobblerCodes$Shop" "limit" "I", Cond.instanceMethod yX2_init, Cond.code yX2_init cX2_init 1 none, Cond.methodLink RX2 3 objectInit, Cond.arrayClass .int, Cond.fieldLink RX2 9 "CobblerCodes$Tree" "weight" "[I", Cond.fieldLink RX2 15 "CobblerCodes$Tree" "leaf" "[I", Cond.fieldLink RX2 18 "CobblerCodes$Tree" "firstPart" "[I", Cond.fieldLink RX2 21 "CobblerCodes$Tree" "above" "[I", Cond.fieldLink RX2 24 "CobblerCodes$Tree" "placeOf" "[I", Cond.classLink RX2 27 RX0, Cond.instantiable RX0 4, Cond.initialized RX0, Cond.fieldLink RX2 30 "CobblerCodes$Tree" "heap" "LCobblerCodes$Heap;", Cond.fieldLink RX2 40 "CobblerCodes$Tree" "size" "I", Cond.instanceMethod yX0_init, Cond.code yX0_init cX0_init 1 none]
def wsX1_init_r2 : List Cond := [Cond.methodLink RX0 3 objectInit, Cond.fieldLink RX0 9 "CobblerCodes$Heap" "weight" "[I", Cond.fieldLink RX0 15 "CobblerCodes$Heap" "leaf" "[I", Cond.fieldLink RX0 18 "CobblerCodes$Heap" "firstPart" "[I", Cond.methodLink RX2 34 yJ7_fill_53178, Cond.static yJ7_fill_53178, Cond.initialized RJ7, Cond.code yJ7_fill_53178 cJ7_fill_53178 4 none, Cond.methodLink RX2 44 yX2_putNode, Cond.instanceMethod yX2_putNode, Cond.selects RX2 yX2_putNode yX2_putNode, Cond.code yX2_putNode cX2_putNode 5 none, Cond.static yX3_put, Cond.initialized RX3, Cond.code yX3_put cX3_put 3 none]
def wsX1_init : List Cond := .code yX1_init cX1_init 1 none :: ((wsX1_init_r1 ++ wsX1_init_r2) ++ wsX20 ++ wsX10 ++ wsX00)
def wsX2_becomeLike : List Cond := .code yX2_becomeLike cX2_becomeLike 2 none :: ([.fieldLink RX2 9 "CobblerCodes$Tree" "weight" "[I", .methodLink RX2 48 arraycopyName, .native arraycopyName, .static arraycopyName, .initialized "java/lang/System", .fieldLink RX2 15 "CobblerCodes$Tree" "leaf" "[I", .fieldLink RX2 18 "CobblerCodes$Tree" "firstPart" "[I", .fieldLink RX2 21 "CobblerCodes$Tree" "above" "[I", .fieldLink RX2 24 "CobblerCodes$Tree" "placeOf" "[I", .fieldLink RX2 40 "CobblerCodes$Tree" "size" "I"] ++ wsX20)
def wsX1_startLike : List Cond := .code yX1_startLike cX1_startLike 2 none :: ([.fieldLink RX1 12 "CobblerCodes$Shop" "tree" "LCobblerCodes$Tree;", .fieldLink RX1 18 "CobblerCodes$Shop" "limit" "I", .instanceMethod yX2_becomeLike, .initialized RX2, .selects RX2 yX2_becomeLike yX2_becomeLike, .code yX2_becomeLike cX2_becomeLike 2 none, .fieldLink RX2 9 "CobblerCodes$Tree" "weight" "[I", .methodLink RX2 48 arraycopyName, .native arraycopyName, .static arraycopyName, .initialized "java/lang/System", .fieldLink RX2 15 "CobblerCodes$Tree" "leaf" "[I", .fieldLink RX2 18 "CobblerCodes$Tree" "firstPart" "[I", .fieldLink RX2 21 "CobblerCodes$Tree" "above" "[I", .fieldLink RX2 24 "CobblerCodes$Tree" "placeOf" "[I", .fieldLink RX2 40 "CobblerCodes$Tree" "size" "I"] ++ wsX10 ++ wsX20)
def wsX2_knows : List Cond := .code yX2_knows cX2_knows 2 (some .boolean) :: ([.fieldLink RX2 24 "CobblerCodes$Tree" "placeOf" "[I", .static yX3_at, .initialized RX3, .code yX3_at cX3_at 2 (some .int)] ++ wsX20)
def wsX2_lengthOf : List Cond := .code yX2_lengthOf cX2_lengthOf 4 (some .int) :: ([.fieldLink RX2 21 "CobblerCodes$Tree" "above" "[I", .fieldLink RX2 24 "CobblerCodes$Tree" "placeOf" "[I", .static yX3_at, .initialized RX3, .code yX3_at cX3_at 2 (some .int)] ++ wsX20)
def wsX1_bitsFor : List Cond := .code yX1_bitsFor cX1_bitsFor 2 (some .int) :: ([.fieldLink RX1 12 "CobblerCodes$Shop" "tree" "LCobblerCodes$Tree;", .instanceMethod yX2_knows, .initialized RX2, .selects RX2 yX2_knows yX2_knows, .code yX2_knows cX2_knows 2 (some .boolean), .fieldLink RX2 24 "CobblerCodes$Tree" "placeOf" "[I", .static yX3_at, .initialized RX3, .code yX3_at cX3_at 2 (some .int), .instanceMethod yX2_lengthOf, .selects RX2 yX2_lengthOf yX2_lengthOf, .code yX2_lengthOf cX2_lengthOf 4 (some .int), .fieldLink RX2 21 "CobblerCodes$Tree" "above" "[I"] ++ wsX10 ++ wsX20)
def wsX2_learn : List Cond := .code yX2_learn cX2_learn 4 none :: ([.fieldLink RX2 24 "CobblerCodes$Tree" "placeOf" "[I", .fieldLink RX2 40 "CobblerCodes$Tree" "size" "I", .static yX3_at, .initialized RX3, .code yX3_at cX3_at 2 (some .int), .methodLink RX2 44 yX2_putNode, .instanceMethod yX2_putNode, .selects RX2 yX2_putNode yX2_putNode, .initialized RX2, .code yX2_putNode cX2_putNode 5 none, .fieldLink RX2 9 "CobblerCodes$Tree" "weight" "[I", .fieldLink RX2 15 "CobblerCodes$Tree" "leaf" "[I", .fieldLink RX2 18 "CobblerCodes$Tree" "firstPart" "[I", .fieldLink RX2 21 "CobblerCodes$Tree" "above" "[I", .static yX3_put, .code yX3_put cX3_put 3 none] ++ wsX20)
def wsX2_firstAsHeavyAs : List Cond := .code yX2_firstAsHeavyAs cX2_firstAsHeavyAs 4 (some .int) :: ([.fieldLink RX2 9 "CobblerCodes$Tree" "weight" "[I", .static yX3_at, .initialized RX3, .code yX3_at cX3_at 2 (some .int)] ++ wsX20)
def wsX2_exchange : List Cond := .code yX2_exchange cX2_exchange 6 none :: ([.fieldLink RX2 9 "CobblerCodes$Tree" "weight" "[I", .fieldLink RX2 15 "CobblerCodes$Tree" "leaf" "[I", .fieldLink RX2 18 "CobblerCodes$Tree" "firstPart" "[I", .static yX3_at, .initialized RX3, .code yX3_at cX3_at 2 (some .int), .methodLink RX2 44 yX2_putNode, .instanceMethod yX2_putNode, .selects RX2 yX2_putNode yX2_putNode, .initialized RX2, .code yX2_putNode cX2_putNode 5 none, .fieldLink RX2 24 "CobblerCodes$Tree" "placeOf" "[I", .fieldLink RX2 21 "CobblerCodes$Tree" "above" "[I", .static yX3_put, .code yX3_put cX3_put 3 none] ++ wsX20)
def wsX2_makeHeavier : List Cond := .code yX2_makeHeavier cX2_makeHeavier 5 none :: ([.fieldLink RX2 24 "CobblerCodes$Tree" "placeOf" "[I", .fieldLink RX2 79 "CobblerCodes$Tree" "exchanges" "I", .fieldLink RX2 9 "CobblerCodes$Tree" "weight" "[I", .fieldLink RX2 21 "CobblerCodes$Tree" "above" "[I", .static yX3_at, .initialized RX3, .code yX3_at cX3_at 2 (some .int), .methodLink RX2 72 yX2_firstAsHeavyAs, .instanceMethod yX2_firstAsHeavyAs, .selects RX2 yX2_firstAsHeavyAs yX2_firstAsHeavyAs, .initialized RX2, .code yX2_firstAsHeavyAs cX2_firstAsHeavyAs 4 (some .int), .methodLink RX2 75 yX2_exchange, .instanceMethod yX2_exchange, .selects RX2 yX2_exchange yX2_exchange, .code yX2_exchange cX2_exchange 6 none, .fieldLink RX2 15 "CobblerCodes$Tree" "leaf" "[I", .fieldLink RX2 18 "CobblerCodes$Tree" "firstPart" "[I", .methodLink RX2 44 yX2_putNode, .instanceMethod yX2_putNode, .selects RX2 yX2_putNode yX2_putNode, .code yX2_putNode cX2_putNode 5 none, .static yX3_put, .code yX3_put cX3_put 3 none] ++ wsX20)
def wsX2_weightOfRoot : List Cond := .code yX2_weightOfRoot cX2_weightOfRoot 1 (some .int) :: ([.fieldLink RX2 9 "CobblerCodes$Tree" "weight" "[I", .static yX3_at, .initialized RX3, .code yX3_at cX3_at 2 (some .int)] ++ wsX20)
def wsX2_fillHeap : List Cond := .code yX2_fillHeap cX2_fillHeap 4 (some .int) :: ([.fieldLink RX2 30 "CobblerCodes$Tree" "heap" "LCobblerCodes$Heap;", .fieldLink RX2 9 "CobblerCodes$Tree" "weight" "[I", .fieldLink RX2 24 "CobblerCodes$Tree" "placeOf" "[I", .instanceMethod yX0_clear, .initialized RX0, .selects RX0 yX0_clear yX0_clear, .code yX0_clear cX0_clear 1 none, .fieldLink RX0 21 "CobblerCodes$Heap" "size" "I", .instanceMethod yX0_add, .selects RX0 yX0_add yX0_add, .code yX0_add cX0_add 4 none, .fieldLink RX0 9 "CobblerCodes$Heap" "weight" "[I", .fieldLink RX0 15 "CobblerCodes$Heap" "leaf" "[I", .fieldLink RX0 18 "CobblerCodes$Heap" "firstPart" "[I", .static yX3_put, .initialized RX3, .code yX3_put cX3_put 3 none, .methodLink RX2 99 yX2_knows, .instanceMethod yX2_knows, .selects RX2 yX2_knows yX2_knows, .initialized RX2, .code yX2_knows cX2_knows 2 (some .boolean), .static yX3_at, .code yX3_at cX3_at 2 (some .int)] ++ wsX20 ++ wsX00)
def wsX2_takeLightest_r1 : List Cond := [Cond.fieldLink RX2 30 "CobblerCodes$Tree" "heap" "LCobblerCodes$Heap;", Cond.instanceMethod yX0_lightest, Cond.initialized RX0, Cond.selects RX0 yX0_lightest yX0_lightest, Cond.code yX0_lightest cX0_lightest 4 (some .int), Cond.fieldLink RX0 21 "CobblerCodes$Heap" "size" "I", Cond.fieldLink RX0 9 "CobblerCodes$Heap" "weight" "[I", Cond.static yX3_at, Cond.initialized RX3, Cond.code yX3_at cX3_at 2 (some .int), Cond.methodLink RX2 44 yX2_putNode, Cond.instanceMethod yX2_putNode, Cond.selects RX2 yX2_putNode yX2_putNode, Cond.initialized RX2, Cond.code yX2_putNode cX2_putNode 5 none, Cond.fieldLink RX2 9 "CobblerCodes$Tree" "weight" "[I", Cond.fieldLink RX2 15 "CobblerCodes$Tree" "leaf" "[I", Cond.fieldLink RX2 18 "CobblerCodes$Tree" "firstPart" "[I", Cond.fieldLink RX2 24 "CobblerCodes$Tree" "placeOf" "[I", Cond.fieldLink RX2 21 "CobblerCodes$Tree" "above" "[I", Cond.static yX3_put, Cond.code yX3_put cX3_put 3 none, Cond.instanceMethod yX0_drop, Cond.selects RX0 yX0_drop yX0_drop]
def wsX2_takeLightest_r2 : List Cond := [Cond.code yX0_drop cX0_drop 2 none]
def wsX2_takeLightest : List Cond := .code yX2_takeLightest cX2_takeLightest 4 (some .int) :: ((wsX2_takeLightest_r1 ++ wsX2_takeLightest_r2) ++ wsX20 ++ wsX00)
def wsX2_wearDown_r1 : List Cond := [Cond.fieldLink RX2 40 "CobblerCodes$Tree" "size" "I", Cond.fieldLink RX2 30 "CobblerCodes$Tree" "heap" "LCobblerCodes$Heap;", Cond.fieldLink RX2 93 "CobblerCodes$Tree" "wears" "I", Cond.methodLink RX2 82 yX2_fillHeap, Cond.instanceMethod yX2_fillHeap, Cond.selects RX2 yX2_fillHeap yX2_fillHeap, Cond.initialized RX2, Cond.code yX2_fillHeap cX2_fillHeap 4 (some .int), Cond.fieldLink RX2 9 "CobblerCodes$Tree" "weight" "[I", Cond.fieldLink RX2 24 "CobblerCodes$Tree" "placeOf" "[I", Cond.instanceMethod yX0_clear, Cond.initialized RX0, Cond.selects RX0 yX0_clear yX0_clear, Cond.code yX0_clear cX0_clear 1 none, Cond.fieldLink RX0 21 "CobblerCodes$Heap" "size" "I", Cond.instanceMethod yX0_add, Cond.selects RX0 yX0_add yX0_add, Cond.code yX0_add cX0_add 4 none, Cond.fieldLink RX0 9 "CobblerCodes$Heap" "weight" "[I", Cond.fieldLink RX0 15 "CobblerCodes$Heap" "leaf" "[I", Cond.fieldLink RX0 18 "CobblerCodes$Heap" "firstPart" "[I", Cond.static yX3_put, Cond.initialized RX3, Cond.code yX3_put cX3_put 3 none]
def wsX2_wearDown_r2 : List Cond := [Cond.methodLink RX2 99 yX2_knows, Cond.instanceMethod yX2_knows, Cond.selects RX2 yX2_knows yX2_knows, Cond.code yX2_knows cX2_knows 2 (some .boolean), Cond.static yX3_at, Cond.code yX3_at cX3_at 2 (some .int), Cond.methodLink RX2 86 yX2_takeLightest, Cond.instanceMethod yX2_takeLightest, Cond.selects RX2 yX2_takeLightest yX2_takeLightest, Cond.code yX2_takeLightest cX2_takeLightest 4 (some .int), Cond.instanceMethod yX0_lightest, Cond.selects RX0 yX0_lightest yX0_lightest, Cond.code yX0_lightest cX0_lightest 4 (some .int), Cond.methodLink RX2 44 yX2_putNode, Cond.instanceMethod yX2_putNode, Cond.selects RX2 yX2_putNode yX2_putNode, Cond.code yX2_putNode cX2_putNode 5 none, Cond.fieldLink RX2 15 "CobblerCodes$Tree" "leaf" "[I", Cond.fieldLink RX2 18 "CobblerCodes$Tree" "firstPart" "[I", Cond.fieldLink RX2 21 "CobblerCodes$Tree" "above" "[I", Cond.instanceMethod yX0_drop, Cond.selects RX0 yX0_drop yX0_drop, Cond.code yX0_drop cX0_drop 2 none]
def wsX2_wearDown : List Cond := .code yX2_wearDown cX2_wearDown 5 (some .int) :: ((wsX2_wearDown_r1 ++ wsX2_wearDown_r2) ++ wsX20 ++ wsX00)
def wsX1_takeOne_r1 : List Cond := [Cond.fieldLink RX1 12 "CobblerCodes$Shop" "tree" "LCobblerCodes$Tree;", Cond.fieldLink RX1 44 "CobblerCodes$Shop" "uses" "I", Cond.fieldLink RX1 47 "CobblerCodes$Shop" "bits" "I", Cond.fieldLink RX1 18 "CobblerCodes$Shop" "limit" "I", Cond.methodLink RX1 34 yX1_bitsFor, Cond.instanceMethod yX1_bitsFor, Cond.selects RX1 yX1_bitsFor yX1_bitsFor, Cond.initialized RX1, Cond.code yX1_bitsFor cX1_bitsFor 2 (some .int), Cond.instanceMethod yX2_knows, Cond.initialized RX2, Cond.selects RX2 yX2_knows yX2_knows, Cond.code yX2_knows cX2_knows 2 (some .boolean), Cond.fieldLink RX2 24 "CobblerCodes$Tree" "placeOf" "[I", Cond.static yX3_at, Cond.initialized RX3, Cond.code yX3_at cX3_at 2 (some .int), Cond.instanceMethod yX2_lengthOf, Cond.selects RX2 yX2_lengthOf yX2_lengthOf, Cond.code yX2_lengthOf cX2_lengthOf 4 (some .int), Cond.fieldLink RX2 21 "CobblerCodes$Tree" "above" "[I", Cond.instanceMethod yX2_learn, Cond.selects RX2 yX2_learn yX2_learn, Cond.code yX2_learn cX2_learn 4 none]
def wsX1_takeOne_r2 : List Cond := [Cond.fieldLink RX2 40 "CobblerCodes$Tree" "size" "I", Cond.methodLink RX2 44 yX2_putNode, Cond.instanceMethod yX2_putNode, Cond.selects RX2 yX2_putNode yX2_putNode, Cond.code yX2_putNode cX2_putNode 5 none, Cond.fieldLink RX2 9 "CobblerCodes$Tree" "weight" "[I", Cond.fieldLink RX2 15 "CobblerCodes$Tree" "leaf" "[I", Cond.fieldLink RX2 18 "CobblerCodes$Tree" "firstPart" "[I", Cond.static yX3_put, Cond.code yX3_put cX3_put 3 none, Cond.instanceMethod yX2_makeHeavier, Cond.selects RX2 yX2_makeHeavier yX2_makeHeavier, Cond.code yX2_makeHeavier cX2_makeHeavier 5 none, Cond.fieldLink RX2 79 "CobblerCodes$Tree" "exchanges" "I", Cond.methodLink RX2 72 yX2_firstAsHeavyAs, Cond.instanceMethod yX2_firstAsHeavyAs, Cond.selects RX2 yX2_firstAsHeavyAs yX2_firstAsHeavyAs, Cond.code yX2_firstAsHeavyAs cX2_firstAsHeavyAs 4 (some .int), Cond.methodLink RX2 75 yX2_exchange, Cond.instanceMethod yX2_exchange, Cond.selects RX2 yX2_exchange yX2_exchange, Cond.code yX2_exchange cX2_exchange 6 none, Cond.instanceMethod yX2_weightOfRoot, Cond.selects RX2 yX2_weightOfRoot yX2_weightOfRoot]
def wsX1_takeOne_r3 : List Cond := [Cond.code yX2_weightOfRoot cX2_weightOfRoot 1 (some .int), Cond.instanceMethod yX2_wearDown, Cond.selects RX2 yX2_wearDown yX2_wearDown, Cond.code yX2_wearDown cX2_wearDown 5 (some .int), Cond.fieldLink RX2 30 "CobblerCodes$Tree" "heap" "LCobblerCodes$Heap;", Cond.fieldLink RX2 93 "CobblerCodes$Tree" "wears" "I", Cond.methodLink RX2 82 yX2_fillHeap, Cond.instanceMethod yX2_fillHeap, Cond.selects RX2 yX2_fillHeap yX2_fillHeap, Cond.code yX2_fillHeap cX2_fillHeap 4 (some .int), Cond.instanceMethod yX0_clear, Cond.initialized RX0, Cond.selects RX0 yX0_clear yX0_clear, Cond.code yX0_clear cX0_clear 1 none, Cond.fieldLink RX0 21 "CobblerCodes$Heap" "size" "I", Cond.instanceMethod yX0_add, Cond.selects RX0 yX0_add yX0_add, Cond.code yX0_add cX0_add 4 none, Cond.fieldLink RX0 9 "CobblerCodes$Heap" "weight" "[I", Cond.fieldLink RX0 15 "CobblerCodes$Heap" "leaf" "[I", Cond.fieldLink RX0 18 "CobblerCodes$Heap" "firstPart" "[I", Cond.methodLink RX2 99 yX2_knows, Cond.methodLink RX2 86 yX2_takeLightest, Cond.instanceMethod yX2_takeLightest]
def wsX1_takeOne_r4 : List Cond := [Cond.selects RX2 yX2_takeLightest yX2_takeLightest, Cond.code yX2_takeLightest cX2_takeLightest 4 (some .int), Cond.instanceMethod yX0_lightest, Cond.selects RX0 yX0_lightest yX0_lightest, Cond.code yX0_lightest cX0_lightest 4 (some .int), Cond.instanceMethod yX0_drop, Cond.selects RX0 yX0_drop yX0_drop, Cond.code yX0_drop cX0_drop 2 none]
def wsX1_takeOne : List Cond := .code yX1_takeOne cX1_takeOne 3 (some .int) :: ((wsX1_takeOne_r1 ++ (wsX1_takeOne_r2 ++ (wsX1_takeOne_r3 ++ wsX1_takeOne_r4))) ++ wsX10 ++ wsX20 ++ wsX00)
def wsX1_takeRow_r1 : List Cond := [Cond.methodLink RX1 57 yX1_takeOne, Cond.instanceMethod yX1_takeOne, Cond.selects RX1 yX1_takeOne yX1_takeOne, Cond.initialized RX1, Cond.code yX1_takeOne cX1_takeOne 3 (some .int), Cond.fieldLink RX1 12 "CobblerCodes$Shop" "tree" "LCobblerCodes$Tree;", Cond.fieldLink RX1 44 "CobblerCodes$Shop" "uses" "I", Cond.fieldLink RX1 47 "CobblerCodes$Shop" "bits" "I", Cond.fieldLink RX1 18 "CobblerCodes$Shop" "limit" "I", Cond.methodLink RX1 34 yX1_bitsFor, Cond.instanceMethod yX1_bitsFor, Cond.selects RX1 yX1_bitsFor yX1_bitsFor, Cond.code yX1_bitsFor cX1_bitsFor 2 (some .int), Cond.instanceMethod yX2_knows, Cond.initialized RX2, Cond.selects RX2 yX2_knows yX2_knows, Cond.code yX2_knows cX2_knows 2 (some .boolean), Cond.fieldLink RX2 24 "CobblerCodes$Tree" "placeOf" "[I", Cond.static yX3_at, Cond.initialized RX3, Cond.code yX3_at cX3_at 2 (some .int), Cond.instanceMethod yX2_lengthOf, Cond.selects RX2 yX2_lengthOf yX2_lengthOf, Cond.code yX2_lengthOf cX2_lengthOf 4 (some .int)]
def wsX1_takeRow_r2 : List Cond := [Cond.fieldLink RX2 21 "CobblerCodes$Tree" "above" "[I", Cond.instanceMethod yX2_learn, Cond.selects RX2 yX2_learn yX2_learn, Cond.code yX2_learn cX2_learn 4 none, Cond.fieldLink RX2 40 "CobblerCodes$Tree" "size" "I", Cond.methodLink RX2 44 yX2_putNode, Cond.instanceMethod yX2_putNode, Cond.selects RX2 yX2_putNode yX2_putNode, Cond.code yX2_putNode cX2_putNode 5 none, Cond.fieldLink RX2 9 "CobblerCodes$Tree" "weight" "[I", Cond.fieldLink RX2 15 "CobblerCodes$Tree" "leaf" "[I", Cond.fieldLink RX2 18 "CobblerCodes$Tree" "firstPart" "[I", Cond.static yX3_put, Cond.code yX3_put cX3_put 3 none, Cond.instanceMethod yX2_makeHeavier, Cond.selects RX2 yX2_makeHeavier yX2_makeHeavier, Cond.code yX2_makeHeavier cX2_makeHeavier 5 none, Cond.fieldLink RX2 79 "CobblerCodes$Tree" "exchanges" "I", Cond.methodLink RX2 72 yX2_firstAsHeavyAs, Cond.instanceMethod yX2_firstAsHeavyAs, Cond.selects RX2 yX2_firstAsHeavyAs yX2_firstAsHeavyAs, Cond.code yX2_firstAsHeavyAs cX2_firstAsHeavyAs 4 (some .int), Cond.methodLink RX2 75 yX2_exchange, Cond.instanceMethod yX2_exchange]
def wsX1_takeRow_r3 : List Cond := [Cond.selects RX2 yX2_exchange yX2_exchange, Cond.code yX2_exchange cX2_exchange 6 none, Cond.instanceMethod yX2_weightOfRoot, Cond.selects RX2 yX2_weightOfRoot yX2_weightOfRoot, Cond.code yX2_weightOfRoot cX2_weightOfRoot 1 (some .int), Cond.instanceMethod yX2_wearDown, Cond.selects RX2 yX2_wearDown yX2_wearDown, Cond.code yX2_wearDown cX2_wearDown 5 (some .int), Cond.fieldLink RX2 30 "CobblerCodes$Tree" "heap" "LCobblerCodes$Heap;", Cond.fieldLink RX2 93 "CobblerCodes$Tree" "wears" "I", Cond.methodLink RX2 82 yX2_fillHeap, Cond.instanceMethod yX2_fillHeap, Cond.selects RX2 yX2_fillHeap yX2_fillHeap, Cond.code yX2_fillHeap cX2_fillHeap 4 (some .int), Cond.instanceMethod yX0_clear, Cond.initialized RX0, Cond.selects RX0 yX0_clear yX0_clear, Cond.code yX0_clear cX0_clear 1 none, Cond.fieldLink RX0 21 "CobblerCodes$Heap" "size" "I", Cond.instanceMethod yX0_add, Cond.selects RX0 yX0_add yX0_add, Cond.code yX0_add cX0_add 4 none, Cond.fieldLink RX0 9 "CobblerCodes$Heap" "weight" "[I", Cond.fieldLink RX0 15 "CobblerCodes$Heap" "leaf" "[I"]
def wsX1_takeRow_r4 : List Cond := [Cond.fieldLink RX0 18 "CobblerCodes$Heap" "firstPart" "[I", Cond.methodLink RX2 99 yX2_knows, Cond.methodLink RX2 86 yX2_takeLightest, Cond.instanceMethod yX2_takeLightest, Cond.selects RX2 yX2_takeLightest yX2_takeLightest, Cond.code yX2_takeLightest cX2_takeLightest 4 (some .int), Cond.instanceMethod yX0_lightest, Cond.selects RX0 yX0_lightest yX0_lightest, Cond.code yX0_lightest cX0_lightest 4 (some .int), Cond.instanceMethod yX0_drop, Cond.selects RX0 yX0_drop yX0_drop, Cond.code yX0_drop cX0_drop 2 none]
def wsX1_takeRow : List Cond := .code yX1_takeRow cX1_takeRow 6 (some .int) :: ((wsX1_takeRow_r1 ++ (wsX1_takeRow_r2 ++ (wsX1_takeRow_r3 ++ wsX1_takeRow_r4))) ++ wsX10 ++ wsX20 ++ wsX00)
def wsX2_knownLasts : List Cond := .code yX2_knownLasts cX2_knownLasts 1 (some .int) :: ([.fieldLink RX2 40 "CobblerCodes$Tree" "size" "I"] ++ wsX20)
def wsX1_factOfShop : List Cond := .code yX1_factOfShop cX1_factOfShop 2 (some .int) :: ([.fieldLink RX1 12 "CobblerCodes$Shop" "tree" "LCobblerCodes$Tree;", .fieldLink RX1 44 "CobblerCodes$Shop" "uses" "I", .fieldLink RX1 47 "CobblerCodes$Shop" "bits" "I", .fieldLink RX1 18 "CobblerCodes$Shop" "limit" "I", .instanceMethod yX2_knownLasts, .initialized RX2, .selects RX2 yX2_knownLasts yX2_knownLasts, .code yX2_knownLasts cX2_knownLasts 1 (some .int), .fieldLink RX2 40 "CobblerCodes$Tree" "size" "I", .instanceMethod yX2_weightOfRoot, .selects RX2 yX2_weightOfRoot yX2_weightOfRoot, .code yX2_weightOfRoot cX2_weightOfRoot 1 (some .int), .fieldLink RX2 9 "CobblerCodes$Tree" "weight" "[I", .static yX3_at, .initialized RX3, .code yX3_at cX3_at 2 (some .int)] ++ wsX10 ++ wsX20)
def wsX2_factOfNode : List Cond := .code yX2_factOfNode cX2_factOfNode 3 (some .int) :: ([.fieldLink RX2 9 "CobblerCodes$Tree" "weight" "[I", .fieldLink RX2 15 "CobblerCodes$Tree" "leaf" "[I", .fieldLink RX2 21 "CobblerCodes$Tree" "above" "[I", .fieldLink RX2 18 "CobblerCodes$Tree" "firstPart" "[I", .static yX3_at, .initialized RX3, .code yX3_at cX3_at 2 (some .int)] ++ wsX20)
def wsX2_codeOf : List Cond := .code yX2_codeOf cX2_codeOf 6 (some .int) :: ([.fieldLink RX2 24 "CobblerCodes$Tree" "placeOf" "[I", .fieldLink RX2 21 "CobblerCodes$Tree" "above" "[I", .fieldLink RX2 18 "CobblerCodes$Tree" "firstPart" "[I", .static yX3_at, .initialized RX3, .code yX3_at cX3_at 2 (some .int)] ++ wsX20)
def wsX2_codeByLengths : List Cond := .code yX2_codeByLengths cX2_codeByLengths 6 (some .int) :: ([.fieldLink RX2 24 "CobblerCodes$Tree" "placeOf" "[I", .methodLink RX2 58 yX2_lengthOf, .instanceMethod yX2_lengthOf, .selects RX2 yX2_lengthOf yX2_lengthOf, .initialized RX2, .code yX2_lengthOf cX2_lengthOf 4 (some .int), .fieldLink RX2 21 "CobblerCodes$Tree" "above" "[I", .static yX3_at, .initialized RX3, .code yX3_at cX3_at 2 (some .int)] ++ wsX20)
def wsX2_factOfLeaf : List Cond := .code yX2_factOfLeaf cX2_factOfLeaf 4 (some .int) :: ([.fieldLink RX2 24 "CobblerCodes$Tree" "placeOf" "[I", .fieldLink RX2 9 "CobblerCodes$Tree" "weight" "[I", .static yX3_at, .initialized RX3, .code yX3_at cX3_at 2 (some .int), .methodLink RX2 58 yX2_lengthOf, .instanceMethod yX2_lengthOf, .selects RX2 yX2_lengthOf yX2_lengthOf, .initialized RX2, .code yX2_lengthOf cX2_lengthOf 4 (some .int), .fieldLink RX2 21 "CobblerCodes$Tree" "above" "[I", .methodLink RX2 62 yX2_codeOf, .instanceMethod yX2_codeOf, .selects RX2 yX2_codeOf yX2_codeOf, .code yX2_codeOf cX2_codeOf 6 (some .int), .fieldLink RX2 18 "CobblerCodes$Tree" "firstPart" "[I", .methodLink RX2 65 yX2_codeByLengths, .instanceMethod yX2_codeByLengths, .selects RX2 yX2_codeByLengths yX2_codeByLengths, .code yX2_codeByLengths cX2_codeByLengths 6 (some .int)] ++ wsX20)
def wsX2_firstWritten : List Cond := .code yX2_firstWritten cX2_firstWritten 6 (some .int) :: ([.fieldLink RX2 18 "CobblerCodes$Tree" "firstPart" "[I", .fieldLink RX2 15 "CobblerCodes$Tree" "leaf" "[I", .static yX3_at, .initialized RX3, .code yX3_at cX3_at 2 (some .int)] ++ wsX20)
def wsX3_init_r1 : List Cond := [Cond.methodLink RX3 3 objectInit, Cond.instanceMethod objectInit, Cond.code objectInit ⟨#[0xb1]⟩ 1 none, Cond.classLink RX3 9 RX1, Cond.instantiable RX1 4, Cond.initialized RX1, Cond.fieldLink RX3 12 "CobblerCodes" "shop" "LCobblerCodes$Shop;", Cond.fieldLink RX3 16 "CobblerCodes" "trial" "LCobblerCodes$Shop;", Cond.instanceMethod yX1_init, Cond.code yX1_init cX1_init 1 none, Cond.methodLink RX1 3 objectInit, Cond.classLink RX1 9 RX2, Cond.instantiable RX2 9, Cond.initialized RX2, Cond.fieldLink RX1 12 "CobblerCodes$Shop" "tree" "LCobblerCodes$Tree;", Cond.fieldLink RX1 18 "CobblerCodes$Shop" "limit" "I", Cond.instanceMethod yX2_init, Cond.code yX2_init cX2_init 1 none, Cond.methodLink RX2 3 objectInit, Cond.arrayClass .int, Cond.fieldLink RX2 9 "CobblerCodes$Tree" "weight" "[I", Cond.fieldLink RX2 15 "CobblerCodes$Tree" "leaf" "[I", Cond.fieldLink RX2 18 "CobblerCodes$Tree" "firstPart" "[I", Cond.fieldLink RX2 21 "CobblerCodes$Tree" "above" "[I"]
def wsX3_init_r2 : List Cond := [Cond.fieldLink RX2 24 "CobblerCodes$Tree" "placeOf" "[I", Cond.classLink RX2 27 RX0, Cond.instantiable RX0 4, Cond.initialized RX0, Cond.fieldLink RX2 30 "CobblerCodes$Tree" "heap" "LCobblerCodes$Heap;", Cond.fieldLink RX2 40 "CobblerCodes$Tree" "size" "I", Cond.instanceMethod yX0_init, Cond.code yX0_init cX0_init 1 none, Cond.methodLink RX0 3 objectInit, Cond.fieldLink RX0 9 "CobblerCodes$Heap" "weight" "[I", Cond.fieldLink RX0 15 "CobblerCodes$Heap" "leaf" "[I", Cond.fieldLink RX0 18 "CobblerCodes$Heap" "firstPart" "[I", Cond.methodLink RX2 34 yJ7_fill_53178, Cond.static yJ7_fill_53178, Cond.initialized RJ7, Cond.code yJ7_fill_53178 cJ7_fill_53178 4 none, Cond.methodLink RX2 44 yX2_putNode, Cond.instanceMethod yX2_putNode, Cond.selects RX2 yX2_putNode yX2_putNode, Cond.code yX2_putNode cX2_putNode 5 none, Cond.static yX3_put, Cond.initialized RX3, Cond.code yX3_put cX3_put 3 none]
def wsX3_init : List Cond := .code yX3_init cX3_init 1 none :: ((wsX3_init_r1 ++ wsX3_init_r2) ++ wsX10 ++ wsX30 ++ wsX20 ++ wsX00)
def wsX3_requireIndex : List Cond := .code yX3_requireIndex cX3_requireIndex 2 none :: ([.classLink RX3 109 "java/lang/IndexOutOfBoundsException", .initialized "java/lang/IndexOutOfBoundsException"] ++ (vx_atS RX3 113 "java/lang/IndexOutOfBoundsException" ["java/lang/RuntimeException", "java/lang/Exception"]).filter goodWord)
def wsX3_use_r1 : List Cond := [Cond.fieldLink RX3 12 "CobblerCodes" "shop" "LCobblerCodes$Shop;", Cond.methodLink RX3 19 yX3_requireIndex, Cond.static yX3_requireIndex, Cond.initialized RX3, Cond.code yX3_requireIndex cX3_requireIndex 2 none, Cond.classLink RX3 109 "java/lang/IndexOutOfBoundsException", Cond.initialized "java/lang/IndexOutOfBoundsException", Cond.instanceMethod yX1_takeOne, Cond.initialized RX1, Cond.selects RX1 yX1_takeOne yX1_takeOne, Cond.code yX1_takeOne cX1_takeOne 3 (some .int), Cond.fieldLink RX1 12 "CobblerCodes$Shop" "tree" "LCobblerCodes$Tree;", Cond.fieldLink RX1 44 "CobblerCodes$Shop" "uses" "I", Cond.fieldLink RX1 47 "CobblerCodes$Shop" "bits" "I", Cond.fieldLink RX1 18 "CobblerCodes$Shop" "limit" "I", Cond.methodLink RX1 34 yX1_bitsFor, Cond.instanceMethod yX1_bitsFor, Cond.selects RX1 yX1_bitsFor yX1_bitsFor, Cond.code yX1_bitsFor cX1_bitsFor 2 (some .int), Cond.instanceMethod yX2_knows, Cond.initialized RX2, Cond.selects RX2 yX2_knows yX2_knows, Cond.code yX2_knows cX2_knows 2 (some .boolean), Cond.fieldLink RX2 24 "CobblerCodes$Tree" "placeOf" "[I"]
def wsX3_use_r2 : List Cond := [Cond.static yX3_at, Cond.code yX3_at cX3_at 2 (some .int), Cond.instanceMethod yX2_lengthOf, Cond.selects RX2 yX2_lengthOf yX2_lengthOf, Cond.code yX2_lengthOf cX2_lengthOf 4 (some .int), Cond.fieldLink RX2 21 "CobblerCodes$Tree" "above" "[I", Cond.instanceMethod yX2_learn, Cond.selects RX2 yX2_learn yX2_learn, Cond.code yX2_learn cX2_learn 4 none, Cond.fieldLink RX2 40 "CobblerCodes$Tree" "size" "I", Cond.methodLink RX2 44 yX2_putNode, Cond.instanceMethod yX2_putNode, Cond.selects RX2 yX2_putNode yX2_putNode, Cond.code yX2_putNode cX2_putNode 5 none, Cond.fieldLink RX2 9 "CobblerCodes$Tree" "weight" "[I", Cond.fieldLink RX2 15 "CobblerCodes$Tree" "leaf" "[I", Cond.fieldLink RX2 18 "CobblerCodes$Tree" "firstPart" "[I", Cond.static yX3_put, Cond.code yX3_put cX3_put 3 none, Cond.instanceMethod yX2_makeHeavier, Cond.selects RX2 yX2_makeHeavier yX2_makeHeavier, Cond.code yX2_makeHeavier cX2_makeHeavier 5 none, Cond.fieldLink RX2 79 "CobblerCodes$Tree" "exchanges" "I", Cond.methodLink RX2 72 yX2_firstAsHeavyAs]
def wsX3_use_r3 : List Cond := [Cond.instanceMethod yX2_firstAsHeavyAs, Cond.selects RX2 yX2_firstAsHeavyAs yX2_firstAsHeavyAs, Cond.code yX2_firstAsHeavyAs cX2_firstAsHeavyAs 4 (some .int), Cond.methodLink RX2 75 yX2_exchange, Cond.instanceMethod yX2_exchange, Cond.selects RX2 yX2_exchange yX2_exchange, Cond.code yX2_exchange cX2_exchange 6 none, Cond.instanceMethod yX2_weightOfRoot, Cond.selects RX2 yX2_weightOfRoot yX2_weightOfRoot, Cond.code yX2_weightOfRoot cX2_weightOfRoot 1 (some .int), Cond.instanceMethod yX2_wearDown, Cond.selects RX2 yX2_wearDown yX2_wearDown, Cond.code yX2_wearDown cX2_wearDown 5 (some .int), Cond.fieldLink RX2 30 "CobblerCodes$Tree" "heap" "LCobblerCodes$Heap;", Cond.fieldLink RX2 93 "CobblerCodes$Tree" "wears" "I", Cond.methodLink RX2 82 yX2_fillHeap, Cond.instanceMethod yX2_fillHeap, Cond.selects RX2 yX2_fillHeap yX2_fillHeap, Cond.code yX2_fillHeap cX2_fillHeap 4 (some .int), Cond.instanceMethod yX0_clear, Cond.initialized RX0, Cond.selects RX0 yX0_clear yX0_clear, Cond.code yX0_clear cX0_clear 1 none, Cond.fieldLink RX0 21 "CobblerCodes$Heap" "size" "I"]
def wsX3_use_r4 : List Cond := [Cond.instanceMethod yX0_add, Cond.selects RX0 yX0_add yX0_add, Cond.code yX0_add cX0_add 4 none, Cond.fieldLink RX0 9 "CobblerCodes$Heap" "weight" "[I", Cond.fieldLink RX0 15 "CobblerCodes$Heap" "leaf" "[I", Cond.fieldLink RX0 18 "CobblerCodes$Heap" "firstPart" "[I", Cond.methodLink RX2 99 yX2_knows, Cond.methodLink RX2 86 yX2_takeLightest, Cond.instanceMethod yX2_takeLightest, Cond.selects RX2 yX2_takeLightest yX2_takeLightest, Cond.code yX2_takeLightest cX2_takeLightest 4 (some .int), Cond.instanceMethod yX0_lightest, Cond.selects RX0 yX0_lightest yX0_lightest, Cond.code yX0_lightest cX0_lightest 4 (some .int), Cond.instanceMethod yX0_drop, Cond.selects RX0 yX0_drop yX0_drop, Cond.code yX0_drop cX0_drop 2 none]
def wsX3_use : List Cond := .code yX3_use cX3_use 2 (some .int) :: ((wsX3_use_r1 ++ (wsX3_use_r2 ++ (wsX3_use_r3 ++ wsX3_use_r4))) ++ wsX30 ++ wsX10 ++ wsX20 ++ wsX00 ++ (vx_atS RX3 113 "java/lang/IndexOutOfBoundsException" ["java/lang/RuntimeException", "java/lang/Exception"]).filter goodWord)
def wsX3_requireRow : List Cond := .code yX3_requireRow cX3_requireRow 3 none :: ([.classLink RX3 35 "java/lang/IllegalArgumentException", .initialized "java/lang/IllegalArgumentException", .methodLink RX3 19 yX3_requireIndex, .static yX3_requireIndex, .initialized RX3, .code yX3_requireIndex cX3_requireIndex 2 none, .classLink RX3 109 "java/lang/IndexOutOfBoundsException", .initialized "java/lang/IndexOutOfBoundsException"] ++ (vx_atS RX3 39 "java/lang/IllegalArgumentException" ["java/lang/RuntimeException", "java/lang/Exception"]).filter goodWord ++ (vx_atS RX3 113 "java/lang/IndexOutOfBoundsException" ["java/lang/RuntimeException", "java/lang/Exception"]).filter goodWord)
def wsX3_useAll_r1 : List Cond := [Cond.fieldLink RX3 12 "CobblerCodes" "shop" "LCobblerCodes$Shop;", Cond.methodLink RX3 27 yX3_requireRow, Cond.static yX3_requireRow, Cond.initialized RX3, Cond.code yX3_requireRow cX3_requireRow 3 none, Cond.classLink RX3 35 "java/lang/IllegalArgumentException", Cond.initialized "java/lang/IllegalArgumentException", Cond.methodLink RX3 19 yX3_requireIndex, Cond.static yX3_requireIndex, Cond.code yX3_requireIndex cX3_requireIndex 2 none, Cond.classLink RX3 109 "java/lang/IndexOutOfBoundsException", Cond.initialized "java/lang/IndexOutOfBoundsException", Cond.instanceMethod yX1_takeRow, Cond.initialized RX1, Cond.selects RX1 yX1_takeRow yX1_takeRow, Cond.code yX1_takeRow cX1_takeRow 6 (some .int), Cond.methodLink RX1 57 yX1_takeOne, Cond.instanceMethod yX1_takeOne, Cond.selects RX1 yX1_takeOne yX1_takeOne, Cond.code yX1_takeOne cX1_takeOne 3 (some .int), Cond.fieldLink RX1 12 "CobblerCodes$Shop" "tree" "LCobblerCodes$Tree;", Cond.fieldLink RX1 44 "CobblerCodes$Shop" "uses" "I", Cond.fieldLink RX1 47 "CobblerCodes$Shop" "bits" "I", Cond.fieldLink RX1 18 "CobblerCodes$Shop" "limit" "I"]
def wsX3_useAll_r2 : List Cond := [Cond.methodLink RX1 34 yX1_bitsFor, Cond.instanceMethod yX1_bitsFor, Cond.selects RX1 yX1_bitsFor yX1_bitsFor, Cond.code yX1_bitsFor cX1_bitsFor 2 (some .int), Cond.instanceMethod yX2_knows, Cond.initialized RX2, Cond.selects RX2 yX2_knows yX2_knows, Cond.code yX2_knows cX2_knows 2 (some .boolean), Cond.fieldLink RX2 24 "CobblerCodes$Tree" "placeOf" "[I", Cond.static yX3_at, Cond.code yX3_at cX3_at 2 (some .int), Cond.instanceMethod yX2_lengthOf, Cond.selects RX2 yX2_lengthOf yX2_lengthOf, Cond.code yX2_lengthOf cX2_lengthOf 4 (some .int), Cond.fieldLink RX2 21 "CobblerCodes$Tree" "above" "[I", Cond.instanceMethod yX2_learn, Cond.selects RX2 yX2_learn yX2_learn, Cond.code yX2_learn cX2_learn 4 none, Cond.fieldLink RX2 40 "CobblerCodes$Tree" "size" "I", Cond.methodLink RX2 44 yX2_putNode, Cond.instanceMethod yX2_putNode, Cond.selects RX2 yX2_putNode yX2_putNode, Cond.code yX2_putNode cX2_putNode 5 none, Cond.fieldLink RX2 9 "CobblerCodes$Tree" "weight" "[I"]
def wsX3_useAll_r3 : List Cond := [Cond.fieldLink RX2 15 "CobblerCodes$Tree" "leaf" "[I", Cond.fieldLink RX2 18 "CobblerCodes$Tree" "firstPart" "[I", Cond.static yX3_put, Cond.code yX3_put cX3_put 3 none, Cond.instanceMethod yX2_makeHeavier, Cond.selects RX2 yX2_makeHeavier yX2_makeHeavier, Cond.code yX2_makeHeavier cX2_makeHeavier 5 none, Cond.fieldLink RX2 79 "CobblerCodes$Tree" "exchanges" "I", Cond.methodLink RX2 72 yX2_firstAsHeavyAs, Cond.instanceMethod yX2_firstAsHeavyAs, Cond.selects RX2 yX2_firstAsHeavyAs yX2_firstAsHeavyAs, Cond.code yX2_firstAsHeavyAs cX2_firstAsHeavyAs 4 (some .int), Cond.methodLink RX2 75 yX2_exchange, Cond.instanceMethod yX2_exchange, Cond.selects RX2 yX2_exchange yX2_exchange, Cond.code yX2_exchange cX2_exchange 6 none, Cond.instanceMethod yX2_weightOfRoot, Cond.selects RX2 yX2_weightOfRoot yX2_weightOfRoot, Cond.code yX2_weightOfRoot cX2_weightOfRoot 1 (some .int), Cond.instanceMethod yX2_wearDown, Cond.selects RX2 yX2_wearDown yX2_wearDown, Cond.code yX2_wearDown cX2_wearDown 5 (some .int), Cond.fieldLink RX2 30 "CobblerCodes$Tree" "heap" "LCobblerCodes$Heap;", Cond.fieldLink RX2 93 "CobblerCodes$Tree" "wears" "I"]
def wsX3_useAll_r4 : List Cond := [Cond.methodLink RX2 82 yX2_fillHeap, Cond.instanceMethod yX2_fillHeap, Cond.selects RX2 yX2_fillHeap yX2_fillHeap, Cond.code yX2_fillHeap cX2_fillHeap 4 (some .int), Cond.instanceMethod yX0_clear, Cond.initialized RX0, Cond.selects RX0 yX0_clear yX0_clear, Cond.code yX0_clear cX0_clear 1 none, Cond.fieldLink RX0 21 "CobblerCodes$Heap" "size" "I", Cond.instanceMethod yX0_add, Cond.selects RX0 yX0_add yX0_add, Cond.code yX0_add cX0_add 4 none, Cond.fieldLink RX0 9 "CobblerCodes$Heap" "weight" "[I", Cond.fieldLink RX0 15 "CobblerCodes$Heap" "leaf" "[I", Cond.fieldLink RX0 18 "CobblerCodes$Heap" "firstPart" "[I", Cond.methodLink RX2 99 yX2_knows, Cond.methodLink RX2 86 yX2_takeLightest, Cond.instanceMethod yX2_takeLightest, Cond.selects RX2 yX2_takeLightest yX2_takeLightest, Cond.code yX2_takeLightest cX2_takeLightest 4 (some .int), Cond.instanceMethod yX0_lightest, Cond.selects RX0 yX0_lightest yX0_lightest, Cond.code yX0_lightest cX0_lightest 4 (some .int), Cond.instanceMethod yX0_drop]
def wsX3_useAll_r5 : List Cond := [Cond.selects RX0 yX0_drop yX0_drop, Cond.code yX0_drop cX0_drop 2 none]
def wsX3_useAll : List Cond := .code yX3_useAll cX3_useAll 4 (some .int) :: ((wsX3_useAll_r1 ++ (wsX3_useAll_r2 ++ (wsX3_useAll_r3 ++ (wsX3_useAll_r4 ++ wsX3_useAll_r5)))) ++ wsX30 ++ wsX10 ++ wsX20 ++ wsX00 ++ (vx_atS RX3 39 "java/lang/IllegalArgumentException" ["java/lang/RuntimeException", "java/lang/Exception"]).filter goodWord ++ (vx_atS RX3 113 "java/lang/IndexOutOfBoundsException" ["java/lang/RuntimeException", "java/lang/Exception"]).filter goodWord)
def wsX3_setLimit : List Cond := .code yX3_setLimit cX3_setLimit 3 (some .int) :: ([.classLink RX3 35 "java/lang/IllegalArgumentException", .initialized "java/lang/IllegalArgumentException", .fieldLink RX3 12 "CobblerCodes" "shop" "LCobblerCodes$Shop;"] ++ wsX30 ++ wsX10 ++ (vx_atS RX3 39 "java/lang/IllegalArgumentException" ["java/lang/RuntimeException", "java/lang/Exception"]).filter goodWord)
def wsX3_wear_r1 : List Cond := [Cond.classLink RX3 56 "java/lang/IllegalStateException", Cond.initialized "java/lang/IllegalStateException", Cond.fieldLink RX3 12 "CobblerCodes" "shop" "LCobblerCodes$Shop;", Cond.instanceMethod yX2_knownLasts, Cond.initialized RX2, Cond.selects RX2 yX2_knownLasts yX2_knownLasts, Cond.code yX2_knownLasts cX2_knownLasts 1 (some .int), Cond.fieldLink RX2 40 "CobblerCodes$Tree" "size" "I", Cond.instanceMethod yX2_wearDown, Cond.selects RX2 yX2_wearDown yX2_wearDown, Cond.code yX2_wearDown cX2_wearDown 5 (some .int), Cond.fieldLink RX2 30 "CobblerCodes$Tree" "heap" "LCobblerCodes$Heap;", Cond.fieldLink RX2 93 "CobblerCodes$Tree" "wears" "I", Cond.methodLink RX2 82 yX2_fillHeap, Cond.instanceMethod yX2_fillHeap, Cond.selects RX2 yX2_fillHeap yX2_fillHeap, Cond.code yX2_fillHeap cX2_fillHeap 4 (some .int), Cond.fieldLink RX2 9 "CobblerCodes$Tree" "weight" "[I", Cond.fieldLink RX2 24 "CobblerCodes$Tree" "placeOf" "[I", Cond.instanceMethod yX0_clear, Cond.initialized RX0, Cond.selects RX0 yX0_clear yX0_clear, Cond.code yX0_clear cX0_clear 1 none, Cond.fieldLink RX0 21 "CobblerCodes$Heap" "size" "I"]
def wsX3_wear_r2 : List Cond := [Cond.instanceMethod yX0_add, Cond.selects RX0 yX0_add yX0_add, Cond.code yX0_add cX0_add 4 none, Cond.fieldLink RX0 9 "CobblerCodes$Heap" "weight" "[I", Cond.fieldLink RX0 15 "CobblerCodes$Heap" "leaf" "[I", Cond.fieldLink RX0 18 "CobblerCodes$Heap" "firstPart" "[I", Cond.static yX3_put, Cond.initialized RX3, Cond.code yX3_put cX3_put 3 none, Cond.methodLink RX2 99 yX2_knows, Cond.instanceMethod yX2_knows, Cond.selects RX2 yX2_knows yX2_knows, Cond.code yX2_knows cX2_knows 2 (some .boolean), Cond.static yX3_at, Cond.code yX3_at cX3_at 2 (some .int), Cond.methodLink RX2 86 yX2_takeLightest, Cond.instanceMethod yX2_takeLightest, Cond.selects RX2 yX2_takeLightest yX2_takeLightest, Cond.code yX2_takeLightest cX2_takeLightest 4 (some .int), Cond.instanceMethod yX0_lightest, Cond.selects RX0 yX0_lightest yX0_lightest, Cond.code yX0_lightest cX0_lightest 4 (some .int), Cond.methodLink RX2 44 yX2_putNode, Cond.instanceMethod yX2_putNode]
def wsX3_wear_r3 : List Cond := [Cond.selects RX2 yX2_putNode yX2_putNode, Cond.code yX2_putNode cX2_putNode 5 none, Cond.fieldLink RX2 15 "CobblerCodes$Tree" "leaf" "[I", Cond.fieldLink RX2 18 "CobblerCodes$Tree" "firstPart" "[I", Cond.fieldLink RX2 21 "CobblerCodes$Tree" "above" "[I", Cond.instanceMethod yX0_drop, Cond.selects RX0 yX0_drop yX0_drop, Cond.code yX0_drop cX0_drop 2 none]
def wsX3_wear : List Cond := .code yX3_wear cX3_wear 1 (some .int) :: ((wsX3_wear_r1 ++ (wsX3_wear_r2 ++ wsX3_wear_r3)) ++ wsX30 ++ wsX10 ++ wsX20 ++ wsX00 ++ (vx_atS RX3 60 "java/lang/IllegalStateException" ["java/lang/RuntimeException", "java/lang/Exception"]).filter goodWord)
def wsX3_told_r1 : List Cond := [Cond.fieldLink RX3 12 "CobblerCodes" "shop" "LCobblerCodes$Shop;", Cond.methodLink RX3 19 yX3_requireIndex, Cond.static yX3_requireIndex, Cond.initialized RX3, Cond.code yX3_requireIndex cX3_requireIndex 2 none, Cond.classLink RX3 109 "java/lang/IndexOutOfBoundsException", Cond.initialized "java/lang/IndexOutOfBoundsException", Cond.instanceMethod yX1_bitsFor, Cond.initialized RX1, Cond.selects RX1 yX1_bitsFor yX1_bitsFor, Cond.code yX1_bitsFor cX1_bitsFor 2 (some .int), Cond.fieldLink RX1 12 "CobblerCodes$Shop" "tree" "LCobblerCodes$Tree;", Cond.instanceMethod yX2_knows, Cond.initialized RX2, Cond.selects RX2 yX2_knows yX2_knows, Cond.code yX2_knows cX2_knows 2 (some .boolean), Cond.fieldLink RX2 24 "CobblerCodes$Tree" "placeOf" "[I", Cond.static yX3_at, Cond.code yX3_at cX3_at 2 (some .int), Cond.instanceMethod yX2_lengthOf, Cond.selects RX2 yX2_lengthOf yX2_lengthOf, Cond.code yX2_lengthOf cX2_lengthOf 4 (some .int), Cond.fieldLink RX2 21 "CobblerCodes$Tree" "above" "[I", Cond.instanceMethod yX2_factOfLeaf]
def wsX3_told_r2 : List Cond := [Cond.selects RX2 yX2_factOfLeaf yX2_factOfLeaf, Cond.code yX2_factOfLeaf cX2_factOfLeaf 4 (some .int), Cond.fieldLink RX2 9 "CobblerCodes$Tree" "weight" "[I", Cond.methodLink RX2 58 yX2_lengthOf, Cond.methodLink RX2 62 yX2_codeOf, Cond.instanceMethod yX2_codeOf, Cond.selects RX2 yX2_codeOf yX2_codeOf, Cond.code yX2_codeOf cX2_codeOf 6 (some .int), Cond.fieldLink RX2 18 "CobblerCodes$Tree" "firstPart" "[I", Cond.methodLink RX2 65 yX2_codeByLengths, Cond.instanceMethod yX2_codeByLengths, Cond.selects RX2 yX2_codeByLengths yX2_codeByLengths, Cond.code yX2_codeByLengths cX2_codeByLengths 6 (some .int)]
def wsX3_told : List Cond := .code yX3_told cX3_told 3 (some .int) :: ((wsX3_told_r1 ++ wsX3_told_r2) ++ wsX30 ++ wsX10 ++ wsX20 ++ (vx_atS RX3 113 "java/lang/IndexOutOfBoundsException" ["java/lang/RuntimeException", "java/lang/Exception"]).filter goodWord)
def wsX3_sole_r1 : List Cond := [Cond.fieldLink RX3 12 "CobblerCodes" "shop" "LCobblerCodes$Shop;", Cond.methodLink RX3 19 yX3_requireIndex, Cond.static yX3_requireIndex, Cond.initialized RX3, Cond.code yX3_requireIndex cX3_requireIndex 2 none, Cond.classLink RX3 109 "java/lang/IndexOutOfBoundsException", Cond.initialized "java/lang/IndexOutOfBoundsException", Cond.instanceMethod yX2_factOfLeaf, Cond.initialized RX2, Cond.selects RX2 yX2_factOfLeaf yX2_factOfLeaf, Cond.code yX2_factOfLeaf cX2_factOfLeaf 4 (some .int), Cond.fieldLink RX2 24 "CobblerCodes$Tree" "placeOf" "[I", Cond.fieldLink RX2 9 "CobblerCodes$Tree" "weight" "[I", Cond.static yX3_at, Cond.code yX3_at cX3_at 2 (some .int), Cond.methodLink RX2 58 yX2_lengthOf, Cond.instanceMethod yX2_lengthOf, Cond.selects RX2 yX2_lengthOf yX2_lengthOf, Cond.code yX2_lengthOf cX2_lengthOf 4 (some .int), Cond.fieldLink RX2 21 "CobblerCodes$Tree" "above" "[I", Cond.methodLink RX2 62 yX2_codeOf, Cond.instanceMethod yX2_codeOf, Cond.selects RX2 yX2_codeOf yX2_codeOf, Cond.code yX2_codeOf cX2_codeOf 6 (some .int)]
def wsX3_sole_r2 : List Cond := [Cond.fieldLink RX2 18 "CobblerCodes$Tree" "firstPart" "[I", Cond.methodLink RX2 65 yX2_codeByLengths, Cond.instanceMethod yX2_codeByLengths, Cond.selects RX2 yX2_codeByLengths yX2_codeByLengths, Cond.code yX2_codeByLengths cX2_codeByLengths 6 (some .int)]
def wsX3_sole : List Cond := .code yX3_sole cX3_sole 2 (some .int) :: ((wsX3_sole_r1 ++ wsX3_sole_r2) ++ wsX30 ++ wsX10 ++ wsX20 ++ (vx_atS RX3 113 "java/lang/IndexOutOfBoundsException" ["java/lang/RuntimeException", "java/lang/Exception"]).filter goodWord)
def wsX3_node : List Cond := .code yX3_node cX3_node 3 (some .int) :: ([.fieldLink RX3 12 "CobblerCodes" "shop" "LCobblerCodes$Shop;", .methodLink RX3 19 yX3_requireIndex, .static yX3_requireIndex, .initialized RX3, .code yX3_requireIndex cX3_requireIndex 2 none, .classLink RX3 109 "java/lang/IndexOutOfBoundsException", .initialized "java/lang/IndexOutOfBoundsException", .instanceMethod yX2_factOfNode, .initialized RX2, .selects RX2 yX2_factOfNode yX2_factOfNode, .code yX2_factOfNode cX2_factOfNode 3 (some .int), .fieldLink RX2 9 "CobblerCodes$Tree" "weight" "[I", .fieldLink RX2 15 "CobblerCodes$Tree" "leaf" "[I", .fieldLink RX2 21 "CobblerCodes$Tree" "above" "[I", .fieldLink RX2 18 "CobblerCodes$Tree" "firstPart" "[I", .static yX3_at, .code yX3_at cX3_at 2 (some .int)] ++ wsX30 ++ wsX10 ++ wsX20 ++ (vx_atS RX3 113 "java/lang/IndexOutOfBoundsException" ["java/lang/RuntimeException", "java/lang/Exception"]).filter goodWord)
def wsX3_count_r1 : List Cond := [Cond.fieldLink RX3 12 "CobblerCodes" "shop" "LCobblerCodes$Shop;", Cond.methodLink RX3 19 yX3_requireIndex, Cond.static yX3_requireIndex, Cond.initialized RX3, Cond.code yX3_requireIndex cX3_requireIndex 2 none, Cond.classLink RX3 109 "java/lang/IndexOutOfBoundsException", Cond.initialized "java/lang/IndexOutOfBoundsException", Cond.instanceMethod yX1_factOfShop, Cond.initialized RX1, Cond.selects RX1 yX1_factOfShop yX1_factOfShop, Cond.code yX1_factOfShop cX1_factOfShop 2 (some .int), Cond.fieldLink RX1 12 "CobblerCodes$Shop" "tree" "LCobblerCodes$Tree;", Cond.fieldLink RX1 44 "CobblerCodes$Shop" "uses" "I", Cond.fieldLink RX1 47 "CobblerCodes$Shop" "bits" "I", Cond.fieldLink RX1 18 "CobblerCodes$Shop" "limit" "I", Cond.instanceMethod yX2_knownLasts, Cond.initialized RX2, Cond.selects RX2 yX2_knownLasts yX2_knownLasts, Cond.code yX2_knownLasts cX2_knownLasts 1 (some .int), Cond.fieldLink RX2 40 "CobblerCodes$Tree" "size" "I", Cond.instanceMethod yX2_weightOfRoot, Cond.selects RX2 yX2_weightOfRoot yX2_weightOfRoot, Cond.code yX2_weightOfRoot cX2_weightOfRoot 1 (some .int), Cond.fieldLink RX2 9 "CobblerCodes$Tree" "weight" "[I"]
def wsX3_count_r2 : List Cond := [Cond.static yX3_at, Cond.code yX3_at cX3_at 2 (some .int)]
def wsX3_count : List Cond := .code yX3_count cX3_count 2 (some .int) :: ((wsX3_count_r1 ++ wsX3_count_r2) ++ wsX30 ++ wsX10 ++ wsX20 ++ (vx_atS RX3 113 "java/lang/IndexOutOfBoundsException" ["java/lang/RuntimeException", "java/lang/Exception"]).filter goodWord)
def wsX3_read : List Cond := .code yX3_read cX3_read 3 (some .int) :: ([.classLink RX3 35 "java/lang/IllegalArgumentException", .initialized "java/lang/IllegalArgumentException", .fieldLink RX3 12 "CobblerCodes" "shop" "LCobblerCodes$Shop;", .instanceMethod yX2_firstWritten, .initialized RX2, .selects RX2 yX2_firstWritten yX2_firstWritten, .code yX2_firstWritten cX2_firstWritten 6 (some .int), .fieldLink RX2 18 "CobblerCodes$Tree" "firstPart" "[I", .fieldLink RX2 15 "CobblerCodes$Tree" "leaf" "[I", .static yX3_at, .initialized RX3, .code yX3_at cX3_at 2 (some .int)] ++ wsX30 ++ wsX10 ++ wsX20 ++ (vx_atS RX3 39 "java/lang/IllegalArgumentException" ["java/lang/RuntimeException", "java/lang/Exception"]).filter goodWord)
def wsX3_cheapest : List Cond := .code yX3_cheapest cX3_cheapest 3 (some .int) :: ([.fieldLink RX3 12 "CobblerCodes" "shop" "LCobblerCodes$Shop;", .instanceMethod yX2_knows, .initialized RX2, .selects RX2 yX2_knows yX2_knows, .code yX2_knows cX2_knows 2 (some .boolean), .fieldLink RX2 24 "CobblerCodes$Tree" "placeOf" "[I", .static yX3_at, .initialized RX3, .code yX3_at cX3_at 2 (some .int), .instanceMethod yX1_bitsFor, .initialized RX1, .selects RX1 yX1_bitsFor yX1_bitsFor, .code yX1_bitsFor cX1_bitsFor 2 (some .int), .fieldLink RX1 12 "CobblerCodes$Shop" "tree" "LCobblerCodes$Tree;", .instanceMethod yX2_lengthOf, .selects RX2 yX2_lengthOf yX2_lengthOf, .code yX2_lengthOf cX2_lengthOf 4 (some .int), .fieldLink RX2 21 "CobblerCodes$Tree" "above" "[I"] ++ wsX30 ++ wsX10 ++ wsX20)
def wsX3_would_r1 : List Cond := [Cond.fieldLink RX3 16 "CobblerCodes" "trial" "LCobblerCodes$Shop;", Cond.fieldLink RX3 12 "CobblerCodes" "shop" "LCobblerCodes$Shop;", Cond.methodLink RX3 27 yX3_requireRow, Cond.static yX3_requireRow, Cond.initialized RX3, Cond.code yX3_requireRow cX3_requireRow 3 none, Cond.classLink RX3 35 "java/lang/IllegalArgumentException", Cond.initialized "java/lang/IllegalArgumentException", Cond.methodLink RX3 19 yX3_requireIndex, Cond.static yX3_requireIndex, Cond.code yX3_requireIndex cX3_requireIndex 2 none, Cond.classLink RX3 109 "java/lang/IndexOutOfBoundsException", Cond.initialized "java/lang/IndexOutOfBoundsException", Cond.instanceMethod yX1_startLike, Cond.initialized RX1, Cond.selects RX1 yX1_startLike yX1_startLike, Cond.code yX1_startLike cX1_startLike 2 none, Cond.fieldLink RX1 12 "CobblerCodes$Shop" "tree" "LCobblerCodes$Tree;", Cond.fieldLink RX1 18 "CobblerCodes$Shop" "limit" "I", Cond.instanceMethod yX2_becomeLike, Cond.initialized RX2, Cond.selects RX2 yX2_becomeLike yX2_becomeLike, Cond.code yX2_becomeLike cX2_becomeLike 2 none, Cond.fieldLink RX2 9 "CobblerCodes$Tree" "weight" "[I"]
def wsX3_would_r2 : List Cond := [Cond.methodLink RX2 48 arraycopyName, Cond.native arraycopyName, Cond.static arraycopyName, Cond.initialized "java/lang/System", Cond.fieldLink RX2 15 "CobblerCodes$Tree" "leaf" "[I", Cond.fieldLink RX2 18 "CobblerCodes$Tree" "firstPart" "[I", Cond.fieldLink RX2 21 "CobblerCodes$Tree" "above" "[I", Cond.fieldLink RX2 24 "CobblerCodes$Tree" "placeOf" "[I", Cond.fieldLink RX2 40 "CobblerCodes$Tree" "size" "I", Cond.instanceMethod yX1_takeRow, Cond.selects RX1 yX1_takeRow yX1_takeRow, Cond.code yX1_takeRow cX1_takeRow 6 (some .int), Cond.methodLink RX1 57 yX1_takeOne, Cond.instanceMethod yX1_takeOne, Cond.selects RX1 yX1_takeOne yX1_takeOne, Cond.code yX1_takeOne cX1_takeOne 3 (some .int), Cond.fieldLink RX1 44 "CobblerCodes$Shop" "uses" "I", Cond.fieldLink RX1 47 "CobblerCodes$Shop" "bits" "I", Cond.methodLink RX1 34 yX1_bitsFor, Cond.instanceMethod yX1_bitsFor, Cond.selects RX1 yX1_bitsFor yX1_bitsFor, Cond.code yX1_bitsFor cX1_bitsFor 2 (some .int), Cond.instanceMethod yX2_knows, Cond.selects RX2 yX2_knows yX2_knows]
def wsX3_would_r3 : List Cond := [Cond.code yX2_knows cX2_knows 2 (some .boolean), Cond.static yX3_at, Cond.code yX3_at cX3_at 2 (some .int), Cond.instanceMethod yX2_lengthOf, Cond.selects RX2 yX2_lengthOf yX2_lengthOf, Cond.code yX2_lengthOf cX2_lengthOf 4 (some .int), Cond.instanceMethod yX2_learn, Cond.selects RX2 yX2_learn yX2_learn, Cond.code yX2_learn cX2_learn 4 none, Cond.methodLink RX2 44 yX2_putNode, Cond.instanceMethod yX2_putNode, Cond.selects RX2 yX2_putNode yX2_putNode, Cond.code yX2_putNode cX2_putNode 5 none, Cond.static yX3_put, Cond.code yX3_put cX3_put 3 none, Cond.instanceMethod yX2_makeHeavier, Cond.selects RX2 yX2_makeHeavier yX2_makeHeavier, Cond.code yX2_makeHeavier cX2_makeHeavier 5 none, Cond.fieldLink RX2 79 "CobblerCodes$Tree" "exchanges" "I", Cond.methodLink RX2 72 yX2_firstAsHeavyAs, Cond.instanceMethod yX2_firstAsHeavyAs, Cond.selects RX2 yX2_firstAsHeavyAs yX2_firstAsHeavyAs, Cond.code yX2_firstAsHeavyAs cX2_firstAsHeavyAs 4 (some .int), Cond.methodLink RX2 75 yX2_exchange]
def wsX3_would_r4 : List Cond := [Cond.instanceMethod yX2_exchange, Cond.selects RX2 yX2_exchange yX2_exchange, Cond.code yX2_exchange cX2_exchange 6 none, Cond.instanceMethod yX2_weightOfRoot, Cond.selects RX2 yX2_weightOfRoot yX2_weightOfRoot, Cond.code yX2_weightOfRoot cX2_weightOfRoot 1 (some .int), Cond.instanceMethod yX2_wearDown, Cond.selects RX2 yX2_wearDown yX2_wearDown, Cond.code yX2_wearDown cX2_wearDown 5 (some .int), Cond.fieldLink RX2 30 "CobblerCodes$Tree" "heap" "LCobblerCodes$Heap;", Cond.fieldLink RX2 93 "CobblerCodes$Tree" "wears" "I", Cond.methodLink RX2 82 yX2_fillHeap, Cond.instanceMethod yX2_fillHeap, Cond.selects RX2 yX2_fillHeap yX2_fillHeap, Cond.code yX2_fillHeap cX2_fillHeap 4 (some .int), Cond.instanceMethod yX0_clear, Cond.initialized RX0, Cond.selects RX0 yX0_clear yX0_clear, Cond.code yX0_clear cX0_clear 1 none, Cond.fieldLink RX0 21 "CobblerCodes$Heap" "size" "I", Cond.instanceMethod yX0_add, Cond.selects RX0 yX0_add yX0_add, Cond.code yX0_add cX0_add 4 none, Cond.fieldLink RX0 9 "CobblerCodes$Heap" "weight" "[I"]
def wsX3_would_r5 : List Cond := [Cond.fieldLink RX0 15 "CobblerCodes$Heap" "leaf" "[I", Cond.fieldLink RX0 18 "CobblerCodes$Heap" "firstPart" "[I", Cond.methodLink RX2 99 yX2_knows, Cond.methodLink RX2 86 yX2_takeLightest, Cond.instanceMethod yX2_takeLightest, Cond.selects RX2 yX2_takeLightest yX2_takeLightest, Cond.code yX2_takeLightest cX2_takeLightest 4 (some .int), Cond.instanceMethod yX0_lightest, Cond.selects RX0 yX0_lightest yX0_lightest, Cond.code yX0_lightest cX0_lightest 4 (some .int), Cond.instanceMethod yX0_drop, Cond.selects RX0 yX0_drop yX0_drop, Cond.code yX0_drop cX0_drop 2 none]
def wsX3_would : List Cond := .code yX3_would cX3_would 4 (some .int) :: ((wsX3_would_r1 ++ (wsX3_would_r2 ++ (wsX3_would_r3 ++ (wsX3_would_r4 ++ wsX3_would_r5)))) ++ wsX30 ++ wsX10 ++ wsX20 ++ wsX00 ++ (vx_atS RX3 39 "java/lang/IllegalArgumentException" ["java/lang/RuntimeException", "java/lang/Exception"]).filter goodWord ++ (vx_atS RX3 113 "java/lang/IndexOutOfBoundsException" ["java/lang/RuntimeException", "java/lang/Exception"]).filter goodWord)
def wsX3_advise_r1 : List Cond := [Cond.fieldLink RX3 95 "CobblerCodes" "ADVISED_LIMITS" "[I", Cond.fieldLink RX3 16 "CobblerCodes" "trial" "LCobblerCodes$Shop;", Cond.fieldLink RX3 12 "CobblerCodes" "shop" "LCobblerCodes$Shop;", Cond.methodLink RX3 27 yX3_requireRow, Cond.static yX3_requireRow, Cond.initialized RX3, Cond.code yX3_requireRow cX3_requireRow 3 none, Cond.classLink RX3 35 "java/lang/IllegalArgumentException", Cond.initialized "java/lang/IllegalArgumentException", Cond.methodLink RX3 19 yX3_requireIndex, Cond.static yX3_requireIndex, Cond.code yX3_requireIndex cX3_requireIndex 2 none, Cond.classLink RX3 109 "java/lang/IndexOutOfBoundsException", Cond.initialized "java/lang/IndexOutOfBoundsException", Cond.instanceMethod yX1_startLike, Cond.initialized RX1, Cond.selects RX1 yX1_startLike yX1_startLike, Cond.code yX1_startLike cX1_startLike 2 none, Cond.fieldLink RX1 12 "CobblerCodes$Shop" "tree" "LCobblerCodes$Tree;", Cond.fieldLink RX1 18 "CobblerCodes$Shop" "limit" "I", Cond.instanceMethod yX2_becomeLike, Cond.initialized RX2, Cond.selects RX2 yX2_becomeLike yX2_becomeLike, Cond.code yX2_becomeLike cX2_becomeLike 2 none]
def wsX3_advise_r2 : List Cond := [Cond.fieldLink RX2 9 "CobblerCodes$Tree" "weight" "[I", Cond.methodLink RX2 48 arraycopyName, Cond.native arraycopyName, Cond.static arraycopyName, Cond.initialized "java/lang/System", Cond.fieldLink RX2 15 "CobblerCodes$Tree" "leaf" "[I", Cond.fieldLink RX2 18 "CobblerCodes$Tree" "firstPart" "[I", Cond.fieldLink RX2 21 "CobblerCodes$Tree" "above" "[I", Cond.fieldLink RX2 24 "CobblerCodes$Tree" "placeOf" "[I", Cond.fieldLink RX2 40 "CobblerCodes$Tree" "size" "I", Cond.instanceMethod yX1_takeRow, Cond.selects RX1 yX1_takeRow yX1_takeRow, Cond.code yX1_takeRow cX1_takeRow 6 (some .int), Cond.methodLink RX1 57 yX1_takeOne, Cond.instanceMethod yX1_takeOne, Cond.selects RX1 yX1_takeOne yX1_takeOne, Cond.code yX1_takeOne cX1_takeOne 3 (some .int), Cond.fieldLink RX1 44 "CobblerCodes$Shop" "uses" "I", Cond.fieldLink RX1 47 "CobblerCodes$Shop" "bits" "I", Cond.methodLink RX1 34 yX1_bitsFor, Cond.instanceMethod yX1_bitsFor, Cond.selects RX1 yX1_bitsFor yX1_bitsFor, Cond.code yX1_bitsFor cX1_bitsFor 2 (some .int), Cond.instanceMethod yX2_knows]
def wsX3_advise_r3 : List Cond := [Cond.selects RX2 yX2_knows yX2_knows, Cond.code yX2_knows cX2_knows 2 (some .boolean), Cond.static yX3_at, Cond.code yX3_at cX3_at 2 (some .int), Cond.instanceMethod yX2_lengthOf, Cond.selects RX2 yX2_lengthOf yX2_lengthOf, Cond.code yX2_lengthOf cX2_lengthOf 4 (some .int), Cond.instanceMethod yX2_learn, Cond.selects RX2 yX2_learn yX2_learn, Cond.code yX2_learn cX2_learn 4 none, Cond.methodLink RX2 44 yX2_putNode, Cond.instanceMethod yX2_putNode, Cond.selects RX2 yX2_putNode yX2_putNode, Cond.code yX2_putNode cX2_putNode 5 none, Cond.static yX3_put, Cond.code yX3_put cX3_put 3 none, Cond.instanceMethod yX2_makeHeavier, Cond.selects RX2 yX2_makeHeavier yX2_makeHeavier, Cond.code yX2_makeHeavier cX2_makeHeavier 5 none, Cond.fieldLink RX2 79 "CobblerCodes$Tree" "exchanges" "I", Cond.methodLink RX2 72 yX2_firstAsHeavyAs, Cond.instanceMethod yX2_firstAsHeavyAs, Cond.selects RX2 yX2_firstAsHeavyAs yX2_firstAsHeavyAs, Cond.code yX2_firstAsHeavyAs cX2_firstAsHeavyAs 4 (some .int)]
def wsX3_advise_r4 : List Cond := [Cond.methodLink RX2 75 yX2_exchange, Cond.instanceMethod yX2_exchange, Cond.selects RX2 yX2_exchange yX2_exchange, Cond.code yX2_exchange cX2_exchange 6 none, Cond.instanceMethod yX2_weightOfRoot, Cond.selects RX2 yX2_weightOfRoot yX2_weightOfRoot, Cond.code yX2_weightOfRoot cX2_weightOfRoot 1 (some .int), Cond.instanceMethod yX2_wearDown, Cond.selects RX2 yX2_wearDown yX2_wearDown, Cond.code yX2_wearDown cX2_wearDown 5 (some .int), Cond.fieldLink RX2 30 "CobblerCodes$Tree" "heap" "LCobblerCodes$Heap;", Cond.fieldLink RX2 93 "CobblerCodes$Tree" "wears" "I", Cond.methodLink RX2 82 yX2_fillHeap, Cond.instanceMethod yX2_fillHeap, Cond.selects RX2 yX2_fillHeap yX2_fillHeap, Cond.code yX2_fillHeap cX2_fillHeap 4 (some .int), Cond.instanceMethod yX0_clear, Cond.initialized RX0, Cond.selects RX0 yX0_clear yX0_clear, Cond.code yX0_clear cX0_clear 1 none, Cond.fieldLink RX0 21 "CobblerCodes$Heap" "size" "I", Cond.instanceMethod yX0_add, Cond.selects RX0 yX0_add yX0_add, Cond.code yX0_add cX0_add 4 none]
def wsX3_advise_r5 : List Cond := [Cond.fieldLink RX0 9 "CobblerCodes$Heap" "weight" "[I", Cond.fieldLink RX0 15 "CobblerCodes$Heap" "leaf" "[I", Cond.fieldLink RX0 18 "CobblerCodes$Heap" "firstPart" "[I", Cond.methodLink RX2 99 yX2_knows, Cond.methodLink RX2 86 yX2_takeLightest, Cond.instanceMethod yX2_takeLightest, Cond.selects RX2 yX2_takeLightest yX2_takeLightest, Cond.code yX2_takeLightest cX2_takeLightest 4 (some .int), Cond.instanceMethod yX0_lightest, Cond.selects RX0 yX0_lightest yX0_lightest, Cond.code yX0_lightest cX0_lightest 4 (some .int), Cond.instanceMethod yX0_drop, Cond.selects RX0 yX0_drop yX0_drop, Cond.code yX0_drop cX0_drop 2 none]
def wsX3_advise : List Cond := .code yX3_advise cX3_advise 11 (some .int) :: ((wsX3_advise_r1 ++ (wsX3_advise_r2 ++ (wsX3_advise_r3 ++ (wsX3_advise_r4 ++ wsX3_advise_r5)))) ++ wsX30 ++ wsX10 ++ wsX20 ++ wsX00 ++ (vx_atS RX3 39 "java/lang/IllegalArgumentException" ["java/lang/RuntimeException", "java/lang/Exception"]).filter goodWord ++ (vx_atS RX3 113 "java/lang/IndexOutOfBoundsException" ["java/lang/RuntimeException", "java/lang/Exception"]).filter goodWord)
def wsX3_saved : List Cond := .code yX3_saved cX3_saved 1 (some .int) :: ([.fieldLink RX3 12 "CobblerCodes" "shop" "LCobblerCodes$Shop;"] ++ wsX30 ++ wsX10)
def wsX3_mean : List Cond := .code yX3_mean cX3_mean 1 (some .double) :: ([.fieldLink RX3 12 "CobblerCodes" "shop" "LCobblerCodes$Shop;"] ++ wsX30 ++ wsX10)
def wsX3_digest_r1 : List Cond := [Cond.constantLong RX3 105 (1669), Cond.constantLong RX3 107 (31), Cond.fieldLink RX3 12 "CobblerCodes" "shop" "LCobblerCodes$Shop;", Cond.instanceMethod yX1_factOfShop, Cond.initialized RX1, Cond.selects RX1 yX1_factOfShop yX1_factOfShop, Cond.code yX1_factOfShop cX1_factOfShop 2 (some .int), Cond.fieldLink RX1 12 "CobblerCodes$Shop" "tree" "LCobblerCodes$Tree;", Cond.fieldLink RX1 44 "CobblerCodes$Shop" "uses" "I", Cond.fieldLink RX1 47 "CobblerCodes$Shop" "bits" "I", Cond.fieldLink RX1 18 "CobblerCodes$Shop" "limit" "I", Cond.instanceMethod yX2_knownLasts, Cond.initialized RX2, Cond.selects RX2 yX2_knownLasts yX2_knownLasts, Cond.code yX2_knownLasts cX2_knownLasts 1 (some .int), Cond.fieldLink RX2 40 "CobblerCodes$Tree" "size" "I", Cond.instanceMethod yX2_weightOfRoot, Cond.selects RX2 yX2_weightOfRoot yX2_weightOfRoot, Cond.code yX2_weightOfRoot cX2_weightOfRoot 1 (some .int), Cond.fieldLink RX2 9 "CobblerCodes$Tree" "weight" "[I", Cond.static yX3_at, Cond.initialized RX3, Cond.code yX3_at cX3_at 2 (some .int), Cond.instanceMethod yX2_factOfNode]
def wsX3_digest_r2 : List Cond := [Cond.selects RX2 yX2_factOfNode yX2_factOfNode, Cond.code yX2_factOfNode cX2_factOfNode 3 (some .int), Cond.fieldLink RX2 15 "CobblerCodes$Tree" "leaf" "[I", Cond.fieldLink RX2 21 "CobblerCodes$Tree" "above" "[I", Cond.fieldLink RX2 18 "CobblerCodes$Tree" "firstPart" "[I", Cond.instanceMethod yX1_bitsFor, Cond.selects RX1 yX1_bitsFor yX1_bitsFor, Cond.code yX1_bitsFor cX1_bitsFor 2 (some .int), Cond.instanceMethod yX2_knows, Cond.selects RX2 yX2_knows yX2_knows, Cond.code yX2_knows cX2_knows 2 (some .boolean), Cond.fieldLink RX2 24 "CobblerCodes$Tree" "placeOf" "[I", Cond.instanceMethod yX2_lengthOf, Cond.selects RX2 yX2_lengthOf yX2_lengthOf, Cond.code yX2_lengthOf cX2_lengthOf 4 (some .int)]
def wsX3_digest : List Cond := .code yX3_digest cX3_digest 6 (some .long) :: ((wsX3_digest_r1 ++ wsX3_digest_r2) ++ wsX30 ++ wsX10 ++ wsX20)
def wsX4_set : List Cond := .code yX4_set cX4_set 5 none :: ([.fieldLink RX4 9 "CobblerCodesModel" "weight" "[I", .fieldLink RX4 13 "CobblerCodesModel" "last" "[I", .fieldLink RX4 16 "CobblerCodesModel" "first" "[I"] ++ wsX40)
def wsX4_init : List Cond := .code yX4_init cX4_init 1 none :: ([.methodLink RX4 1 objectInit, .instanceMethod objectInit, .code objectInit ⟨#[0xb1]⟩ 1 none, .arrayClass .int, .fieldLink RX4 9 "CobblerCodesModel" "weight" "[I", .fieldLink RX4 13 "CobblerCodesModel" "last" "[I", .fieldLink RX4 16 "CobblerCodesModel" "first" "[I", .fieldLink RX4 19 "CobblerCodesModel" "nodes" "I", .fieldLink RX4 23 "CobblerCodesModel" "limit" "I", .fieldLink RX4 26 "CobblerCodesModel" "heap" "[I", .methodLink RX4 29 yX4_set, .instanceMethod yX4_set, .selects RX4 yX4_set yX4_set, .initialized RX4, .code yX4_set cX4_set 5 none] ++ wsX40)
def wsX4_thrown : List Cond := .code yX4_thrown cX4_thrown 1 (some .int) :: ([.fieldLink RX4 33 "CobblerCodesModel" "thrown" "I"] ++ wsX40)
def wsX4_no : List Cond := .code yX4_no cX4_no 2 (some .int) :: ([.fieldLink RX4 33 "CobblerCodesModel" "thrown" "I"] ++ wsX40)
def wsX4_isIn : List Cond := .code yX4_isIn cX4_isIn 3 (some .boolean) :: ([])
def wsX4_isLast : List Cond := .code yX4_isLast cX4_isLast 1 (some .boolean) :: ([.methodLink RX4 36 yX4_isIn, .static yX4_isIn, .initialized RX4, .code yX4_isIn cX4_isIn 3 (some .boolean)])
def wsX4_placeOf : List Cond := .code yX4_placeOf cX4_placeOf 3 (some .int) :: ([.fieldLink RX4 19 "CobblerCodesModel" "nodes" "I", .fieldLink RX4 13 "CobblerCodesModel" "last" "[I"] ++ wsX40)
def wsX4_above : List Cond := .code yX4_above cX4_above 3 (some .int) :: ([.fieldLink RX4 19 "CobblerCodesModel" "nodes" "I", .fieldLink RX4 16 "CobblerCodesModel" "first" "[I"] ++ wsX40)
def wsX4_lengthAt : List Cond := .code yX4_lengthAt cX4_lengthAt 4 (some .int) :: ([.methodLink RX4 40 yX4_above, .instanceMethod yX4_above, .selects RX4 yX4_above yX4_above, .initialized RX4, .code yX4_above cX4_above 3 (some .int), .fieldLink RX4 19 "CobblerCodesModel" "nodes" "I", .fieldLink RX4 16 "CobblerCodesModel" "first" "[I"] ++ wsX40)
def wsX4_codeAt : List Cond := .code yX4_codeAt cX4_codeAt 6 (some .int) :: ([.fieldLink RX4 16 "CobblerCodesModel" "first" "[I", .methodLink RX4 40 yX4_above, .instanceMethod yX4_above, .selects RX4 yX4_above yX4_above, .initialized RX4, .code yX4_above cX4_above 3 (some .int), .fieldLink RX4 19 "CobblerCodesModel" "nodes" "I"] ++ wsX40)
def wsX4_bitsOf : List Cond := .code yX4_bitsOf cX4_bitsOf 3 (some .int) :: ([.methodLink RX4 44 yX4_placeOf, .instanceMethod yX4_placeOf, .selects RX4 yX4_placeOf yX4_placeOf, .initialized RX4, .code yX4_placeOf cX4_placeOf 3 (some .int), .fieldLink RX4 19 "CobblerCodesModel" "nodes" "I", .fieldLink RX4 13 "CobblerCodesModel" "last" "[I", .methodLink RX4 47 yX4_lengthAt, .instanceMethod yX4_lengthAt, .selects RX4 yX4_lengthAt yX4_lengthAt, .code yX4_lengthAt cX4_lengthAt 4 (some .int), .methodLink RX4 40 yX4_above, .instanceMethod yX4_above, .selects RX4 yX4_above yX4_above, .code yX4_above cX4_above 3 (some .int), .fieldLink RX4 16 "CobblerCodesModel" "first" "[I"] ++ wsX40)
def wsX4_change : List Cond := .code yX4_change cX4_change 6 none :: ([.fieldLink RX4 9 "CobblerCodesModel" "weight" "[I", .fieldLink RX4 13 "CobblerCodesModel" "last" "[I", .fieldLink RX4 16 "CobblerCodesModel" "first" "[I", .fieldLink RX4 50 "CobblerCodesModel" "changes" "I", .methodLink RX4 29 yX4_set, .instanceMethod yX4_set, .selects RX4 yX4_set yX4_set, .initialized RX4, .code yX4_set cX4_set 5 none] ++ wsX40)
def wsX4_asHeavy : List Cond := .code yX4_asHeavy cX4_asHeavy 3 (some .int) :: ([.fieldLink RX4 9 "CobblerCodesModel" "weight" "[I"] ++ wsX40)
def wsX4_add : List Cond := .code yX4_add cX4_add 3 none :: ([.fieldLink RX4 19 "CobblerCodesModel" "nodes" "I", .methodLink RX4 44 yX4_placeOf, .instanceMethod yX4_placeOf, .selects RX4 yX4_placeOf yX4_placeOf, .initialized RX4, .code yX4_placeOf cX4_placeOf 3 (some .int), .fieldLink RX4 13 "CobblerCodesModel" "last" "[I", .methodLink RX4 29 yX4_set, .instanceMethod yX4_set, .selects RX4 yX4_set yX4_set, .code yX4_set cX4_set 5 none, .fieldLink RX4 9 "CobblerCodesModel" "weight" "[I", .fieldLink RX4 16 "CobblerCodesModel" "first" "[I"] ++ wsX40)
def wsX4_known : List Cond := .code yX4_known cX4_known 1 (some .int) :: ([.fieldLink RX4 19 "CobblerCodesModel" "nodes" "I"] ++ wsX40)
def wsX4_push : List Cond := .code yX4_push cX4_push 4 none :: ([.fieldLink RX4 26 "CobblerCodesModel" "heap" "[I", .fieldLink RX4 77 "CobblerCodesModel" "heaped" "I"] ++ wsX40)
def wsX4_pull : List Cond := .code yX4_pull cX4_pull 4 (some .int) :: ([.fieldLink RX4 77 "CobblerCodesModel" "heaped" "I", .fieldLink RX4 26 "CobblerCodesModel" "heap" "[I", .methodLink RX4 80 arraycopyName, .native arraycopyName, .static arraycopyName, .initialized "java/lang/System", .fieldLink RX4 9 "CobblerCodesModel" "weight" "[I", .methodLink RX4 29 yX4_set, .instanceMethod yX4_set, .selects RX4 yX4_set yX4_set, .initialized RX4, .code yX4_set cX4_set 5 none, .fieldLink RX4 13 "CobblerCodesModel" "last" "[I", .fieldLink RX4 16 "CobblerCodesModel" "first" "[I"] ++ wsX40)
def wsX4_wearAll_r1 : List Cond := [Cond.arrayClass .int, Cond.fieldLink RX4 19 "CobblerCodesModel" "nodes" "I", Cond.fieldLink RX4 13 "CobblerCodesModel" "last" "[I", Cond.fieldLink RX4 9 "CobblerCodesModel" "weight" "[I", Cond.fieldLink RX4 77 "CobblerCodesModel" "heaped" "I", Cond.fieldLink RX4 100 "CobblerCodesModel" "worn" "I", Cond.methodLink RX4 86 yX4_known, Cond.instanceMethod yX4_known, Cond.selects RX4 yX4_known yX4_known, Cond.initialized RX4, Cond.code yX4_known cX4_known 1 (some .int), Cond.methodLink RX4 89 yX4_isLast, Cond.static yX4_isLast, Cond.code yX4_isLast cX4_isLast 1 (some .boolean), Cond.methodLink RX4 36 yX4_isIn, Cond.static yX4_isIn, Cond.code yX4_isIn cX4_isIn 3 (some .boolean), Cond.methodLink RX4 93 yX4_push, Cond.instanceMethod yX4_push, Cond.selects RX4 yX4_push yX4_push, Cond.code yX4_push cX4_push 4 none, Cond.fieldLink RX4 26 "CobblerCodesModel" "heap" "[I", Cond.methodLink RX4 97 yX4_pull, Cond.instanceMethod yX4_pull]
def wsX4_wearAll_r2 : List Cond := [Cond.selects RX4 yX4_pull yX4_pull, Cond.code yX4_pull cX4_pull 4 (some .int), Cond.methodLink RX4 80 arraycopyName, Cond.native arraycopyName, Cond.static arraycopyName, Cond.initialized "java/lang/System", Cond.methodLink RX4 29 yX4_set, Cond.instanceMethod yX4_set, Cond.selects RX4 yX4_set yX4_set, Cond.code yX4_set cX4_set 5 none, Cond.fieldLink RX4 16 "CobblerCodesModel" "first" "[I"]
def wsX4_wearAll : List Cond := .code yX4_wearAll cX4_wearAll 6 (some .int) :: ((wsX4_wearAll_r1 ++ wsX4_wearAll_r2) ++ wsX40)
def wsX4_useOne_r1 : List Cond := [Cond.fieldLink RX4 9 "CobblerCodesModel" "weight" "[I", Cond.fieldLink RX4 67 "CobblerCodesModel" "uses" "I", Cond.fieldLink RX4 70 "CobblerCodesModel" "bits" "I", Cond.fieldLink RX4 23 "CobblerCodesModel" "limit" "I", Cond.methodLink RX4 53 yX4_bitsOf, Cond.instanceMethod yX4_bitsOf, Cond.selects RX4 yX4_bitsOf yX4_bitsOf, Cond.initialized RX4, Cond.code yX4_bitsOf cX4_bitsOf 3 (some .int), Cond.methodLink RX4 44 yX4_placeOf, Cond.instanceMethod yX4_placeOf, Cond.selects RX4 yX4_placeOf yX4_placeOf, Cond.code yX4_placeOf cX4_placeOf 3 (some .int), Cond.fieldLink RX4 19 "CobblerCodesModel" "nodes" "I", Cond.fieldLink RX4 13 "CobblerCodesModel" "last" "[I", Cond.methodLink RX4 47 yX4_lengthAt, Cond.instanceMethod yX4_lengthAt, Cond.selects RX4 yX4_lengthAt yX4_lengthAt, Cond.code yX4_lengthAt cX4_lengthAt 4 (some .int), Cond.methodLink RX4 40 yX4_above, Cond.instanceMethod yX4_above, Cond.selects RX4 yX4_above yX4_above, Cond.code yX4_above cX4_above 3 (some .int), Cond.fieldLink RX4 16 "CobblerCodesModel" "first" "[I"]
def wsX4_useOne_r2 : List Cond := [Cond.methodLink RX4 56 yX4_add, Cond.instanceMethod yX4_add, Cond.selects RX4 yX4_add yX4_add, Cond.code yX4_add cX4_add 3 none, Cond.methodLink RX4 29 yX4_set, Cond.instanceMethod yX4_set, Cond.selects RX4 yX4_set yX4_set, Cond.code yX4_set cX4_set 5 none, Cond.methodLink RX4 60 yX4_asHeavy, Cond.instanceMethod yX4_asHeavy, Cond.selects RX4 yX4_asHeavy yX4_asHeavy, Cond.code yX4_asHeavy cX4_asHeavy 3 (some .int), Cond.methodLink RX4 63 yX4_change, Cond.instanceMethod yX4_change, Cond.selects RX4 yX4_change yX4_change, Cond.code yX4_change cX4_change 6 none, Cond.fieldLink RX4 50 "CobblerCodesModel" "changes" "I", Cond.methodLink RX4 73 yX4_wearAll, Cond.instanceMethod yX4_wearAll, Cond.selects RX4 yX4_wearAll yX4_wearAll, Cond.code yX4_wearAll cX4_wearAll 6 (some .int), Cond.arrayClass .int, Cond.fieldLink RX4 77 "CobblerCodesModel" "heaped" "I", Cond.fieldLink RX4 100 "CobblerCodesModel" "worn" "I"]
def wsX4_useOne_r3 : List Cond := [Cond.methodLink RX4 86 yX4_known, Cond.instanceMethod yX4_known, Cond.selects RX4 yX4_known yX4_known, Cond.code yX4_known cX4_known 1 (some .int), Cond.methodLink RX4 89 yX4_isLast, Cond.static yX4_isLast, Cond.code yX4_isLast cX4_isLast 1 (some .boolean), Cond.methodLink RX4 36 yX4_isIn, Cond.static yX4_isIn, Cond.code yX4_isIn cX4_isIn 3 (some .boolean), Cond.methodLink RX4 93 yX4_push, Cond.instanceMethod yX4_push, Cond.selects RX4 yX4_push yX4_push, Cond.code yX4_push cX4_push 4 none, Cond.fieldLink RX4 26 "CobblerCodesModel" "heap" "[I", Cond.methodLink RX4 97 yX4_pull, Cond.instanceMethod yX4_pull, Cond.selects RX4 yX4_pull yX4_pull, Cond.code yX4_pull cX4_pull 4 (some .int), Cond.methodLink RX4 80 arraycopyName, Cond.native arraycopyName, Cond.static arraycopyName, Cond.initialized "java/lang/System"]
def wsX4_useOne : List Cond := .code yX4_useOne cX4_useOne 5 (some .int) :: ((wsX4_useOne_r1 ++ (wsX4_useOne_r2 ++ wsX4_useOne_r3)) ++ wsX40)
def wsX4_nextLeaf : List Cond := .code yX4_nextLeaf cX4_nextLeaf 9 (some .int) :: ([.methodLink RX4 44 yX4_placeOf, .instanceMethod yX4_placeOf, .selects RX4 yX4_placeOf yX4_placeOf, .initialized RX4, .code yX4_placeOf cX4_placeOf 3 (some .int), .fieldLink RX4 19 "CobblerCodesModel" "nodes" "I", .fieldLink RX4 13 "CobblerCodesModel" "last" "[I", .methodLink RX4 47 yX4_lengthAt, .instanceMethod yX4_lengthAt, .selects RX4 yX4_lengthAt yX4_lengthAt, .code yX4_lengthAt cX4_lengthAt 4 (some .int), .methodLink RX4 40 yX4_above, .instanceMethod yX4_above, .selects RX4 yX4_above yX4_above, .code yX4_above cX4_above 3 (some .int), .fieldLink RX4 16 "CobblerCodesModel" "first" "[I"] ++ wsX40)
def wsX4_lengthCode : List Cond := .code yX4_lengthCode cX4_lengthCode 6 (some .int) :: ([.methodLink RX4 103 yX4_nextLeaf, .instanceMethod yX4_nextLeaf, .selects RX4 yX4_nextLeaf yX4_nextLeaf, .initialized RX4, .code yX4_nextLeaf cX4_nextLeaf 9 (some .int), .methodLink RX4 44 yX4_placeOf, .instanceMethod yX4_placeOf, .selects RX4 yX4_placeOf yX4_placeOf, .code yX4_placeOf cX4_placeOf 3 (some .int), .fieldLink RX4 19 "CobblerCodesModel" "nodes" "I", .fieldLink RX4 13 "CobblerCodesModel" "last" "[I", .methodLink RX4 47 yX4_lengthAt, .instanceMethod yX4_lengthAt, .selects RX4 yX4_lengthAt yX4_lengthAt, .code yX4_lengthAt cX4_lengthAt 4 (some .int), .methodLink RX4 40 yX4_above, .instanceMethod yX4_above, .selects RX4 yX4_above yX4_above, .code yX4_above cX4_above 3 (some .int), .fieldLink RX4 16 "CobblerCodesModel" "first" "[I"] ++ wsX40)
def wsX4_use_r1 : List Cond := [Cond.fieldLink RX4 33 "CobblerCodesModel" "thrown" "I", Cond.methodLink RX4 89 yX4_isLast, Cond.static yX4_isLast, Cond.initialized RX4, Cond.code yX4_isLast cX4_isLast 1 (some .boolean), Cond.methodLink RX4 36 yX4_isIn, Cond.static yX4_isIn, Cond.code yX4_isIn cX4_isIn 3 (some .boolean), Cond.methodLink RX4 107 yX4_useOne, Cond.instanceMethod yX4_useOne, Cond.selects RX4 yX4_useOne yX4_useOne, Cond.code yX4_useOne cX4_useOne 5 (some .int), Cond.fieldLink RX4 9 "CobblerCodesModel" "weight" "[I", Cond.fieldLink RX4 67 "CobblerCodesModel" "uses" "I", Cond.fieldLink RX4 70 "CobblerCodesModel" "bits" "I", Cond.fieldLink RX4 23 "CobblerCodesModel" "limit" "I", Cond.methodLink RX4 53 yX4_bitsOf, Cond.instanceMethod yX4_bitsOf, Cond.selects RX4 yX4_bitsOf yX4_bitsOf, Cond.code yX4_bitsOf cX4_bitsOf 3 (some .int), Cond.methodLink RX4 44 yX4_placeOf, Cond.instanceMethod yX4_placeOf, Cond.selects RX4 yX4_placeOf yX4_placeOf, Cond.code yX4_placeOf cX4_placeOf 3 (some .int)]
def wsX4_use_r2 : List Cond := [Cond.fieldLink RX4 19 "CobblerCodesModel" "nodes" "I", Cond.fieldLink RX4 13 "CobblerCodesModel" "last" "[I", Cond.methodLink RX4 47 yX4_lengthAt, Cond.instanceMethod yX4_lengthAt, Cond.selects RX4 yX4_lengthAt yX4_lengthAt, Cond.code yX4_lengthAt cX4_lengthAt 4 (some .int), Cond.methodLink RX4 40 yX4_above, Cond.instanceMethod yX4_above, Cond.selects RX4 yX4_above yX4_above, Cond.code yX4_above cX4_above 3 (some .int), Cond.fieldLink RX4 16 "CobblerCodesModel" "first" "[I", Cond.methodLink RX4 56 yX4_add, Cond.instanceMethod yX4_add, Cond.selects RX4 yX4_add yX4_add, Cond.code yX4_add cX4_add 3 none, Cond.methodLink RX4 29 yX4_set, Cond.instanceMethod yX4_set, Cond.selects RX4 yX4_set yX4_set, Cond.code yX4_set cX4_set 5 none, Cond.methodLink RX4 60 yX4_asHeavy, Cond.instanceMethod yX4_asHeavy, Cond.selects RX4 yX4_asHeavy yX4_asHeavy, Cond.code yX4_asHeavy cX4_asHeavy 3 (some .int), Cond.methodLink RX4 63 yX4_change]
def wsX4_use_r3 : List Cond := [Cond.instanceMethod yX4_change, Cond.selects RX4 yX4_change yX4_change, Cond.code yX4_change cX4_change 6 none, Cond.fieldLink RX4 50 "CobblerCodesModel" "changes" "I", Cond.methodLink RX4 73 yX4_wearAll, Cond.instanceMethod yX4_wearAll, Cond.selects RX4 yX4_wearAll yX4_wearAll, Cond.code yX4_wearAll cX4_wearAll 6 (some .int), Cond.arrayClass .int, Cond.fieldLink RX4 77 "CobblerCodesModel" "heaped" "I", Cond.fieldLink RX4 100 "CobblerCodesModel" "worn" "I", Cond.methodLink RX4 86 yX4_known, Cond.instanceMethod yX4_known, Cond.selects RX4 yX4_known yX4_known, Cond.code yX4_known cX4_known 1 (some .int), Cond.methodLink RX4 93 yX4_push, Cond.instanceMethod yX4_push, Cond.selects RX4 yX4_push yX4_push, Cond.code yX4_push cX4_push 4 none, Cond.fieldLink RX4 26 "CobblerCodesModel" "heap" "[I", Cond.methodLink RX4 97 yX4_pull, Cond.instanceMethod yX4_pull, Cond.selects RX4 yX4_pull yX4_pull, Cond.code yX4_pull cX4_pull 4 (some .int)]
def wsX4_use_r4 : List Cond := [Cond.methodLink RX4 80 arraycopyName, Cond.native arraycopyName, Cond.static arraycopyName, Cond.initialized "java/lang/System", Cond.methodLink RX4 110 yX4_no, Cond.instanceMethod yX4_no, Cond.selects RX4 yX4_no yX4_no, Cond.code yX4_no cX4_no 2 (some .int)]
def wsX4_use : List Cond := .code yX4_use cX4_use 2 (some .int) :: ((wsX4_use_r1 ++ (wsX4_use_r2 ++ (wsX4_use_r3 ++ wsX4_use_r4))) ++ wsX40)
def wsX4_row_r1 : List Cond := [Cond.methodLink RX4 107 yX4_useOne, Cond.instanceMethod yX4_useOne, Cond.selects RX4 yX4_useOne yX4_useOne, Cond.initialized RX4, Cond.code yX4_useOne cX4_useOne 5 (some .int), Cond.fieldLink RX4 9 "CobblerCodesModel" "weight" "[I", Cond.fieldLink RX4 67 "CobblerCodesModel" "uses" "I", Cond.fieldLink RX4 70 "CobblerCodesModel" "bits" "I", Cond.fieldLink RX4 23 "CobblerCodesModel" "limit" "I", Cond.methodLink RX4 53 yX4_bitsOf, Cond.instanceMethod yX4_bitsOf, Cond.selects RX4 yX4_bitsOf yX4_bitsOf, Cond.code yX4_bitsOf cX4_bitsOf 3 (some .int), Cond.methodLink RX4 44 yX4_placeOf, Cond.instanceMethod yX4_placeOf, Cond.selects RX4 yX4_placeOf yX4_placeOf, Cond.code yX4_placeOf cX4_placeOf 3 (some .int), Cond.fieldLink RX4 19 "CobblerCodesModel" "nodes" "I", Cond.fieldLink RX4 13 "CobblerCodesModel" "last" "[I", Cond.methodLink RX4 47 yX4_lengthAt, Cond.instanceMethod yX4_lengthAt, Cond.selects RX4 yX4_lengthAt yX4_lengthAt, Cond.code yX4_lengthAt cX4_lengthAt 4 (some .int), Cond.methodLink RX4 40 yX4_above]
def wsX4_row_r2 : List Cond := [Cond.instanceMethod yX4_above, Cond.selects RX4 yX4_above yX4_above, Cond.code yX4_above cX4_above 3 (some .int), Cond.fieldLink RX4 16 "CobblerCodesModel" "first" "[I", Cond.methodLink RX4 56 yX4_add, Cond.instanceMethod yX4_add, Cond.selects RX4 yX4_add yX4_add, Cond.code yX4_add cX4_add 3 none, Cond.methodLink RX4 29 yX4_set, Cond.instanceMethod yX4_set, Cond.selects RX4 yX4_set yX4_set, Cond.code yX4_set cX4_set 5 none, Cond.methodLink RX4 60 yX4_asHeavy, Cond.instanceMethod yX4_asHeavy, Cond.selects RX4 yX4_asHeavy yX4_asHeavy, Cond.code yX4_asHeavy cX4_asHeavy 3 (some .int), Cond.methodLink RX4 63 yX4_change, Cond.instanceMethod yX4_change, Cond.selects RX4 yX4_change yX4_change, Cond.code yX4_change cX4_change 6 none, Cond.fieldLink RX4 50 "CobblerCodesModel" "changes" "I", Cond.methodLink RX4 73 yX4_wearAll, Cond.instanceMethod yX4_wearAll, Cond.selects RX4 yX4_wearAll yX4_wearAll]
def wsX4_row_r3 : List Cond := [Cond.code yX4_wearAll cX4_wearAll 6 (some .int), Cond.arrayClass .int, Cond.fieldLink RX4 77 "CobblerCodesModel" "heaped" "I", Cond.fieldLink RX4 100 "CobblerCodesModel" "worn" "I", Cond.methodLink RX4 86 yX4_known, Cond.instanceMethod yX4_known, Cond.selects RX4 yX4_known yX4_known, Cond.code yX4_known cX4_known 1 (some .int), Cond.methodLink RX4 89 yX4_isLast, Cond.static yX4_isLast, Cond.code yX4_isLast cX4_isLast 1 (some .boolean), Cond.methodLink RX4 36 yX4_isIn, Cond.static yX4_isIn, Cond.code yX4_isIn cX4_isIn 3 (some .boolean), Cond.methodLink RX4 93 yX4_push, Cond.instanceMethod yX4_push, Cond.selects RX4 yX4_push yX4_push, Cond.code yX4_push cX4_push 4 none, Cond.fieldLink RX4 26 "CobblerCodesModel" "heap" "[I", Cond.methodLink RX4 97 yX4_pull, Cond.instanceMethod yX4_pull, Cond.selects RX4 yX4_pull yX4_pull, Cond.code yX4_pull cX4_pull 4 (some .int), Cond.methodLink RX4 80 arraycopyName]
def wsX4_row_r4 : List Cond := [Cond.native arraycopyName, Cond.static arraycopyName, Cond.initialized "java/lang/System"]
def wsX4_row : List Cond := .code yX4_row cX4_row 6 (some .int) :: ((wsX4_row_r1 ++ (wsX4_row_r2 ++ (wsX4_row_r3 ++ wsX4_row_r4))) ++ wsX40)
def wsX4_isRow : List Cond := .code yX4_isRow cX4_isRow 4 (some .boolean) :: ([.fieldLink RX4 33 "CobblerCodesModel" "thrown" "I", .methodLink RX4 89 yX4_isLast, .static yX4_isLast, .initialized RX4, .code yX4_isLast cX4_isLast 1 (some .boolean), .methodLink RX4 36 yX4_isIn, .static yX4_isIn, .code yX4_isIn cX4_isIn 3 (some .boolean)] ++ wsX40)
def wsX4_useAll_r1 : List Cond := [Cond.methodLink RX4 113 yX4_isRow, Cond.instanceMethod yX4_isRow, Cond.selects RX4 yX4_isRow yX4_isRow, Cond.initialized RX4, Cond.code yX4_isRow cX4_isRow 4 (some .boolean), Cond.fieldLink RX4 33 "CobblerCodesModel" "thrown" "I", Cond.methodLink RX4 89 yX4_isLast, Cond.static yX4_isLast, Cond.code yX4_isLast cX4_isLast 1 (some .boolean), Cond.methodLink RX4 36 yX4_isIn, Cond.static yX4_isIn, Cond.code yX4_isIn cX4_isIn 3 (some .boolean), Cond.methodLink RX4 116 yX4_row, Cond.instanceMethod yX4_row, Cond.selects RX4 yX4_row yX4_row, Cond.code yX4_row cX4_row 6 (some .int), Cond.methodLink RX4 107 yX4_useOne, Cond.instanceMethod yX4_useOne, Cond.selects RX4 yX4_useOne yX4_useOne, Cond.code yX4_useOne cX4_useOne 5 (some .int), Cond.fieldLink RX4 9 "CobblerCodesModel" "weight" "[I", Cond.fieldLink RX4 67 "CobblerCodesModel" "uses" "I", Cond.fieldLink RX4 70 "CobblerCodesModel" "bits" "I", Cond.fieldLink RX4 23 "CobblerCodesModel" "limit" "I"]
def wsX4_useAll_r2 : List Cond := [Cond.methodLink RX4 53 yX4_bitsOf, Cond.instanceMethod yX4_bitsOf, Cond.selects RX4 yX4_bitsOf yX4_bitsOf, Cond.code yX4_bitsOf cX4_bitsOf 3 (some .int), Cond.methodLink RX4 44 yX4_placeOf, Cond.instanceMethod yX4_placeOf, Cond.selects RX4 yX4_placeOf yX4_placeOf, Cond.code yX4_placeOf cX4_placeOf 3 (some .int), Cond.fieldLink RX4 19 "CobblerCodesModel" "nodes" "I", Cond.fieldLink RX4 13 "CobblerCodesModel" "last" "[I", Cond.methodLink RX4 47 yX4_lengthAt, Cond.instanceMethod yX4_lengthAt, Cond.selects RX4 yX4_lengthAt yX4_lengthAt, Cond.code yX4_lengthAt cX4_lengthAt 4 (some .int), Cond.methodLink RX4 40 yX4_above, Cond.instanceMethod yX4_above, Cond.selects RX4 yX4_above yX4_above, Cond.code yX4_above cX4_above 3 (some .int), Cond.fieldLink RX4 16 "CobblerCodesModel" "first" "[I", Cond.methodLink RX4 56 yX4_add, Cond.instanceMethod yX4_add, Cond.selects RX4 yX4_add yX4_add, Cond.code yX4_add cX4_add 3 none, Cond.methodLink RX4 29 yX4_set]
def wsX4_useAll_r3 : List Cond := [Cond.instanceMethod yX4_set, Cond.selects RX4 yX4_set yX4_set, Cond.code yX4_set cX4_set 5 none, Cond.methodLink RX4 60 yX4_asHeavy, Cond.instanceMethod yX4_asHeavy, Cond.selects RX4 yX4_asHeavy yX4_asHeavy, Cond.code yX4_asHeavy cX4_asHeavy 3 (some .int), Cond.methodLink RX4 63 yX4_change, Cond.instanceMethod yX4_change, Cond.selects RX4 yX4_change yX4_change, Cond.code yX4_change cX4_change 6 none, Cond.fieldLink RX4 50 "CobblerCodesModel" "changes" "I", Cond.methodLink RX4 73 yX4_wearAll, Cond.instanceMethod yX4_wearAll, Cond.selects RX4 yX4_wearAll yX4_wearAll, Cond.code yX4_wearAll cX4_wearAll 6 (some .int), Cond.arrayClass .int, Cond.fieldLink RX4 77 "CobblerCodesModel" "heaped" "I", Cond.fieldLink RX4 100 "CobblerCodesModel" "worn" "I", Cond.methodLink RX4 86 yX4_known, Cond.instanceMethod yX4_known, Cond.selects RX4 yX4_known yX4_known, Cond.code yX4_known cX4_known 1 (some .int), Cond.methodLink RX4 93 yX4_push]
def wsX4_useAll_r4 : List Cond := [Cond.instanceMethod yX4_push, Cond.selects RX4 yX4_push yX4_push, Cond.code yX4_push cX4_push 4 none, Cond.fieldLink RX4 26 "CobblerCodesModel" "heap" "[I", Cond.methodLink RX4 97 yX4_pull, Cond.instanceMethod yX4_pull, Cond.selects RX4 yX4_pull yX4_pull, Cond.code yX4_pull cX4_pull 4 (some .int), Cond.methodLink RX4 80 arraycopyName, Cond.native arraycopyName, Cond.static arraycopyName, Cond.initialized "java/lang/System"]
def wsX4_useAll : List Cond := .code yX4_useAll cX4_useAll 4 (some .int) :: ((wsX4_useAll_r1 ++ (wsX4_useAll_r2 ++ (wsX4_useAll_r3 ++ wsX4_useAll_r4))) ++ wsX40)
def wsX4_setLimit : List Cond := .code yX4_setLimit cX4_setLimit 3 (some .int) :: ([.fieldLink RX4 33 "CobblerCodesModel" "thrown" "I", .fieldLink RX4 23 "CobblerCodesModel" "limit" "I", .methodLink RX4 36 yX4_isIn, .static yX4_isIn, .initialized RX4, .code yX4_isIn cX4_isIn 3 (some .boolean), .methodLink RX4 110 yX4_no, .instanceMethod yX4_no, .selects RX4 yX4_no yX4_no, .code yX4_no cX4_no 2 (some .int)] ++ wsX40)
def wsX4_wear_r1 : List Cond := [Cond.fieldLink RX4 33 "CobblerCodesModel" "thrown" "I", Cond.methodLink RX4 86 yX4_known, Cond.instanceMethod yX4_known, Cond.selects RX4 yX4_known yX4_known, Cond.initialized RX4, Cond.code yX4_known cX4_known 1 (some .int), Cond.fieldLink RX4 19 "CobblerCodesModel" "nodes" "I", Cond.methodLink RX4 110 yX4_no, Cond.instanceMethod yX4_no, Cond.selects RX4 yX4_no yX4_no, Cond.code yX4_no cX4_no 2 (some .int), Cond.methodLink RX4 73 yX4_wearAll, Cond.instanceMethod yX4_wearAll, Cond.selects RX4 yX4_wearAll yX4_wearAll, Cond.code yX4_wearAll cX4_wearAll 6 (some .int), Cond.arrayClass .int, Cond.fieldLink RX4 13 "CobblerCodesModel" "last" "[I", Cond.fieldLink RX4 9 "CobblerCodesModel" "weight" "[I", Cond.fieldLink RX4 77 "CobblerCodesModel" "heaped" "I", Cond.fieldLink RX4 100 "CobblerCodesModel" "worn" "I", Cond.methodLink RX4 89 yX4_isLast, Cond.static yX4_isLast, Cond.code yX4_isLast cX4_isLast 1 (some .boolean), Cond.methodLink RX4 36 yX4_isIn]
def wsX4_wear_r2 : List Cond := [Cond.static yX4_isIn, Cond.code yX4_isIn cX4_isIn 3 (some .boolean), Cond.methodLink RX4 93 yX4_push, Cond.instanceMethod yX4_push, Cond.selects RX4 yX4_push yX4_push, Cond.code yX4_push cX4_push 4 none, Cond.fieldLink RX4 26 "CobblerCodesModel" "heap" "[I", Cond.methodLink RX4 97 yX4_pull, Cond.instanceMethod yX4_pull, Cond.selects RX4 yX4_pull yX4_pull, Cond.code yX4_pull cX4_pull 4 (some .int), Cond.methodLink RX4 80 arraycopyName, Cond.native arraycopyName, Cond.static arraycopyName, Cond.initialized "java/lang/System", Cond.methodLink RX4 29 yX4_set, Cond.instanceMethod yX4_set, Cond.selects RX4 yX4_set yX4_set, Cond.code yX4_set cX4_set 5 none, Cond.fieldLink RX4 16 "CobblerCodesModel" "first" "[I"]
def wsX4_wear : List Cond := .code yX4_wear cX4_wear 1 (some .int) :: ((wsX4_wear_r1 ++ wsX4_wear_r2) ++ wsX40)
def wsX4_leafTold_r1 : List Cond := [Cond.fieldLink RX4 9 "CobblerCodesModel" "weight" "[I", Cond.methodLink RX4 47 yX4_lengthAt, Cond.instanceMethod yX4_lengthAt, Cond.selects RX4 yX4_lengthAt yX4_lengthAt, Cond.initialized RX4, Cond.code yX4_lengthAt cX4_lengthAt 4 (some .int), Cond.methodLink RX4 40 yX4_above, Cond.instanceMethod yX4_above, Cond.selects RX4 yX4_above yX4_above, Cond.code yX4_above cX4_above 3 (some .int), Cond.fieldLink RX4 19 "CobblerCodesModel" "nodes" "I", Cond.fieldLink RX4 16 "CobblerCodesModel" "first" "[I", Cond.methodLink RX4 120 yX4_codeAt, Cond.instanceMethod yX4_codeAt, Cond.selects RX4 yX4_codeAt yX4_codeAt, Cond.code yX4_codeAt cX4_codeAt 6 (some .int), Cond.methodLink RX4 123 yX4_lengthCode, Cond.instanceMethod yX4_lengthCode, Cond.selects RX4 yX4_lengthCode yX4_lengthCode, Cond.code yX4_lengthCode cX4_lengthCode 6 (some .int), Cond.methodLink RX4 103 yX4_nextLeaf, Cond.instanceMethod yX4_nextLeaf, Cond.selects RX4 yX4_nextLeaf yX4_nextLeaf, Cond.code yX4_nextLeaf cX4_nextLeaf 9 (some .int)]
def wsX4_leafTold_r2 : List Cond := [Cond.methodLink RX4 44 yX4_placeOf, Cond.instanceMethod yX4_placeOf, Cond.selects RX4 yX4_placeOf yX4_placeOf, Cond.code yX4_placeOf cX4_placeOf 3 (some .int), Cond.fieldLink RX4 13 "CobblerCodesModel" "last" "[I"]
def wsX4_leafTold : List Cond := .code yX4_leafTold cX4_leafTold 4 (some .int) :: ((wsX4_leafTold_r1 ++ wsX4_leafTold_r2) ++ wsX40)
def wsX4_lastTold_r1 : List Cond := [Cond.methodLink RX4 53 yX4_bitsOf, Cond.instanceMethod yX4_bitsOf, Cond.selects RX4 yX4_bitsOf yX4_bitsOf, Cond.initialized RX4, Cond.code yX4_bitsOf cX4_bitsOf 3 (some .int), Cond.methodLink RX4 44 yX4_placeOf, Cond.instanceMethod yX4_placeOf, Cond.selects RX4 yX4_placeOf yX4_placeOf, Cond.code yX4_placeOf cX4_placeOf 3 (some .int), Cond.fieldLink RX4 19 "CobblerCodesModel" "nodes" "I", Cond.fieldLink RX4 13 "CobblerCodesModel" "last" "[I", Cond.methodLink RX4 47 yX4_lengthAt, Cond.instanceMethod yX4_lengthAt, Cond.selects RX4 yX4_lengthAt yX4_lengthAt, Cond.code yX4_lengthAt cX4_lengthAt 4 (some .int), Cond.methodLink RX4 40 yX4_above, Cond.instanceMethod yX4_above, Cond.selects RX4 yX4_above yX4_above, Cond.code yX4_above cX4_above 3 (some .int), Cond.fieldLink RX4 16 "CobblerCodesModel" "first" "[I", Cond.methodLink RX4 126 yX4_leafTold, Cond.instanceMethod yX4_leafTold, Cond.selects RX4 yX4_leafTold yX4_leafTold, Cond.code yX4_leafTold cX4_leafTold 4 (some .int)]
def wsX4_lastTold_r2 : List Cond := [Cond.fieldLink RX4 9 "CobblerCodesModel" "weight" "[I", Cond.methodLink RX4 120 yX4_codeAt, Cond.instanceMethod yX4_codeAt, Cond.selects RX4 yX4_codeAt yX4_codeAt, Cond.code yX4_codeAt cX4_codeAt 6 (some .int), Cond.methodLink RX4 123 yX4_lengthCode, Cond.instanceMethod yX4_lengthCode, Cond.selects RX4 yX4_lengthCode yX4_lengthCode, Cond.code yX4_lengthCode cX4_lengthCode 6 (some .int), Cond.methodLink RX4 103 yX4_nextLeaf, Cond.instanceMethod yX4_nextLeaf, Cond.selects RX4 yX4_nextLeaf yX4_nextLeaf, Cond.code yX4_nextLeaf cX4_nextLeaf 9 (some .int)]
def wsX4_lastTold : List Cond := .code yX4_lastTold cX4_lastTold 4 (some .int) :: ((wsX4_lastTold_r1 ++ wsX4_lastTold_r2) ++ wsX40)
def wsX4_told_r1 : List Cond := [Cond.fieldLink RX4 33 "CobblerCodesModel" "thrown" "I", Cond.methodLink RX4 89 yX4_isLast, Cond.static yX4_isLast, Cond.initialized RX4, Cond.code yX4_isLast cX4_isLast 1 (some .boolean), Cond.methodLink RX4 36 yX4_isIn, Cond.static yX4_isIn, Cond.code yX4_isIn cX4_isIn 3 (some .boolean), Cond.methodLink RX4 129 yX4_lastTold, Cond.instanceMethod yX4_lastTold, Cond.selects RX4 yX4_lastTold yX4_lastTold, Cond.code yX4_lastTold cX4_lastTold 4 (some .int), Cond.methodLink RX4 53 yX4_bitsOf, Cond.instanceMethod yX4_bitsOf, Cond.selects RX4 yX4_bitsOf yX4_bitsOf, Cond.code yX4_bitsOf cX4_bitsOf 3 (some .int), Cond.methodLink RX4 44 yX4_placeOf, Cond.instanceMethod yX4_placeOf, Cond.selects RX4 yX4_placeOf yX4_placeOf, Cond.code yX4_placeOf cX4_placeOf 3 (some .int), Cond.fieldLink RX4 19 "CobblerCodesModel" "nodes" "I", Cond.fieldLink RX4 13 "CobblerCodesModel" "last" "[I", Cond.methodLink RX4 47 yX4_lengthAt, Cond.instanceMethod yX4_lengthAt]
def wsX4_told_r2 : List Cond := [Cond.selects RX4 yX4_lengthAt yX4_lengthAt, Cond.code yX4_lengthAt cX4_lengthAt 4 (some .int), Cond.methodLink RX4 40 yX4_above, Cond.instanceMethod yX4_above, Cond.selects RX4 yX4_above yX4_above, Cond.code yX4_above cX4_above 3 (some .int), Cond.fieldLink RX4 16 "CobblerCodesModel" "first" "[I", Cond.methodLink RX4 126 yX4_leafTold, Cond.instanceMethod yX4_leafTold, Cond.selects RX4 yX4_leafTold yX4_leafTold, Cond.code yX4_leafTold cX4_leafTold 4 (some .int), Cond.fieldLink RX4 9 "CobblerCodesModel" "weight" "[I", Cond.methodLink RX4 120 yX4_codeAt, Cond.instanceMethod yX4_codeAt, Cond.selects RX4 yX4_codeAt yX4_codeAt, Cond.code yX4_codeAt cX4_codeAt 6 (some .int), Cond.methodLink RX4 123 yX4_lengthCode, Cond.instanceMethod yX4_lengthCode, Cond.selects RX4 yX4_lengthCode yX4_lengthCode, Cond.code yX4_lengthCode cX4_lengthCode 6 (some .int), Cond.methodLink RX4 103 yX4_nextLeaf, Cond.instanceMethod yX4_nextLeaf, Cond.selects RX4 yX4_nextLeaf yX4_nextLeaf, Cond.code yX4_nextLeaf cX4_nextLeaf 9 (some .int)]
def wsX4_told_r3 : List Cond := [Cond.methodLink RX4 110 yX4_no, Cond.instanceMethod yX4_no, Cond.selects RX4 yX4_no yX4_no, Cond.code yX4_no cX4_no 2 (some .int)]
def wsX4_told : List Cond := .code yX4_told cX4_told 3 (some .int) :: ((wsX4_told_r1 ++ (wsX4_told_r2 ++ wsX4_told_r3)) ++ wsX40)
def wsX4_sole_r1 : List Cond := [Cond.fieldLink RX4 33 "CobblerCodesModel" "thrown" "I", Cond.methodLink RX4 36 yX4_isIn, Cond.static yX4_isIn, Cond.initialized RX4, Cond.code yX4_isIn cX4_isIn 3 (some .boolean), Cond.methodLink RX4 129 yX4_lastTold, Cond.instanceMethod yX4_lastTold, Cond.selects RX4 yX4_lastTold yX4_lastTold, Cond.code yX4_lastTold cX4_lastTold 4 (some .int), Cond.methodLink RX4 53 yX4_bitsOf, Cond.instanceMethod yX4_bitsOf, Cond.selects RX4 yX4_bitsOf yX4_bitsOf, Cond.code yX4_bitsOf cX4_bitsOf 3 (some .int), Cond.methodLink RX4 44 yX4_placeOf, Cond.instanceMethod yX4_placeOf, Cond.selects RX4 yX4_placeOf yX4_placeOf, Cond.code yX4_placeOf cX4_placeOf 3 (some .int), Cond.fieldLink RX4 19 "CobblerCodesModel" "nodes" "I", Cond.fieldLink RX4 13 "CobblerCodesModel" "last" "[I", Cond.methodLink RX4 47 yX4_lengthAt, Cond.instanceMethod yX4_lengthAt, Cond.selects RX4 yX4_lengthAt yX4_lengthAt, Cond.code yX4_lengthAt cX4_lengthAt 4 (some .int), Cond.methodLink RX4 40 yX4_above]
def wsX4_sole_r2 : List Cond := [Cond.instanceMethod yX4_above, Cond.selects RX4 yX4_above yX4_above, Cond.code yX4_above cX4_above 3 (some .int), Cond.fieldLink RX4 16 "CobblerCodesModel" "first" "[I", Cond.methodLink RX4 126 yX4_leafTold, Cond.instanceMethod yX4_leafTold, Cond.selects RX4 yX4_leafTold yX4_leafTold, Cond.code yX4_leafTold cX4_leafTold 4 (some .int), Cond.fieldLink RX4 9 "CobblerCodesModel" "weight" "[I", Cond.methodLink RX4 120 yX4_codeAt, Cond.instanceMethod yX4_codeAt, Cond.selects RX4 yX4_codeAt yX4_codeAt, Cond.code yX4_codeAt cX4_codeAt 6 (some .int), Cond.methodLink RX4 123 yX4_lengthCode, Cond.instanceMethod yX4_lengthCode, Cond.selects RX4 yX4_lengthCode yX4_lengthCode, Cond.code yX4_lengthCode cX4_lengthCode 6 (some .int), Cond.methodLink RX4 103 yX4_nextLeaf, Cond.instanceMethod yX4_nextLeaf, Cond.selects RX4 yX4_nextLeaf yX4_nextLeaf, Cond.code yX4_nextLeaf cX4_nextLeaf 9 (some .int), Cond.methodLink RX4 110 yX4_no, Cond.instanceMethod yX4_no, Cond.selects RX4 yX4_no yX4_no]
def wsX4_sole_r3 : List Cond := [Cond.code yX4_no cX4_no 2 (some .int)]
def wsX4_sole : List Cond := .code yX4_sole cX4_sole 2 (some .int) :: ((wsX4_sole_r1 ++ (wsX4_sole_r2 ++ wsX4_sole_r3)) ++ wsX40)
def wsX4_nodeTold : List Cond := .code yX4_nodeTold cX4_nodeTold 3 (some .int) :: ([.fieldLink RX4 9 "CobblerCodesModel" "weight" "[I", .fieldLink RX4 13 "CobblerCodesModel" "last" "[I", .fieldLink RX4 16 "CobblerCodesModel" "first" "[I", .methodLink RX4 40 yX4_above, .instanceMethod yX4_above, .selects RX4 yX4_above yX4_above, .initialized RX4, .code yX4_above cX4_above 3 (some .int), .fieldLink RX4 19 "CobblerCodesModel" "nodes" "I"] ++ wsX40)
def wsX4_node : List Cond := .code yX4_node cX4_node 3 (some .int) :: ([.fieldLink RX4 33 "CobblerCodesModel" "thrown" "I", .fieldLink RX4 19 "CobblerCodesModel" "nodes" "I", .methodLink RX4 36 yX4_isIn, .static yX4_isIn, .initialized RX4, .code yX4_isIn cX4_isIn 3 (some .boolean), .methodLink RX4 132 yX4_nodeTold, .instanceMethod yX4_nodeTold, .selects RX4 yX4_nodeTold yX4_nodeTold, .code yX4_nodeTold cX4_nodeTold 3 (some .int), .fieldLink RX4 9 "CobblerCodesModel" "weight" "[I", .fieldLink RX4 13 "CobblerCodesModel" "last" "[I", .fieldLink RX4 16 "CobblerCodesModel" "first" "[I", .methodLink RX4 40 yX4_above, .instanceMethod yX4_above, .selects RX4 yX4_above yX4_above, .code yX4_above cX4_above 3 (some .int), .methodLink RX4 110 yX4_no, .instanceMethod yX4_no, .selects RX4 yX4_no yX4_no, .code yX4_no cX4_no 2 (some .int)] ++ wsX40)
def wsX4_counted : List Cond := .code yX4_counted cX4_counted 3 (some .int) :: ([.arrayClass .int, .fieldLink RX4 19 "CobblerCodesModel" "nodes" "I", .fieldLink RX4 9 "CobblerCodesModel" "weight" "[I", .fieldLink RX4 67 "CobblerCodesModel" "uses" "I", .fieldLink RX4 70 "CobblerCodesModel" "bits" "I", .fieldLink RX4 50 "CobblerCodesModel" "changes" "I", .fieldLink RX4 100 "CobblerCodesModel" "worn" "I", .fieldLink RX4 23 "CobblerCodesModel" "limit" "I", .methodLink RX4 86 yX4_known, .instanceMethod yX4_known, .selects RX4 yX4_known yX4_known, .initialized RX4, .code yX4_known cX4_known 1 (some .int)] ++ wsX40)
def wsX4_count_r1 : List Cond := [Cond.fieldLink RX4 33 "CobblerCodesModel" "thrown" "I", Cond.methodLink RX4 36 yX4_isIn, Cond.static yX4_isIn, Cond.initialized RX4, Cond.code yX4_isIn cX4_isIn 3 (some .boolean), Cond.methodLink RX4 135 yX4_counted, Cond.instanceMethod yX4_counted, Cond.selects RX4 yX4_counted yX4_counted, Cond.code yX4_counted cX4_counted 3 (some .int), Cond.arrayClass .int, Cond.fieldLink RX4 19 "CobblerCodesModel" "nodes" "I", Cond.fieldLink RX4 9 "CobblerCodesModel" "weight" "[I", Cond.fieldLink RX4 67 "CobblerCodesModel" "uses" "I", Cond.fieldLink RX4 70 "CobblerCodesModel" "bits" "I", Cond.fieldLink RX4 50 "CobblerCodesModel" "changes" "I", Cond.fieldLink RX4 100 "CobblerCodesModel" "worn" "I", Cond.fieldLink RX4 23 "CobblerCodesModel" "limit" "I", Cond.methodLink RX4 86 yX4_known, Cond.instanceMethod yX4_known, Cond.selects RX4 yX4_known yX4_known, Cond.code yX4_known cX4_known 1 (some .int), Cond.methodLink RX4 110 yX4_no, Cond.instanceMethod yX4_no, Cond.selects RX4 yX4_no yX4_no]
def wsX4_count_r2 : List Cond := [Cond.code yX4_no cX4_no 2 (some .int)]
def wsX4_count : List Cond := .code yX4_count cX4_count 2 (some .int) :: ((wsX4_count_r1 ++ wsX4_count_r2) ++ wsX40)
def wsX4_readOne : List Cond := .code yX4_readOne cX4_readOne 5 (some .int) :: ([.fieldLink RX4 16 "CobblerCodesModel" "first" "[I", .fieldLink RX4 13 "CobblerCodesModel" "last" "[I"] ++ wsX40)
def wsX4_read : List Cond := .code yX4_read cX4_read 3 (some .int) :: ([.fieldLink RX4 33 "CobblerCodesModel" "thrown" "I", .methodLink RX4 36 yX4_isIn, .static yX4_isIn, .initialized RX4, .code yX4_isIn cX4_isIn 3 (some .boolean), .methodLink RX4 138 yX4_readOne, .instanceMethod yX4_readOne, .selects RX4 yX4_readOne yX4_readOne, .code yX4_readOne cX4_readOne 5 (some .int), .fieldLink RX4 16 "CobblerCodesModel" "first" "[I", .fieldLink RX4 13 "CobblerCodesModel" "last" "[I", .methodLink RX4 110 yX4_no, .instanceMethod yX4_no, .selects RX4 yX4_no yX4_no, .code yX4_no cX4_no 2 (some .int)] ++ wsX40)
def wsX4_cheapest : List Cond := .code yX4_cheapest cX4_cheapest 3 (some .int) :: ([.fieldLink RX4 33 "CobblerCodesModel" "thrown" "I", .methodLink RX4 44 yX4_placeOf, .instanceMethod yX4_placeOf, .selects RX4 yX4_placeOf yX4_placeOf, .initialized RX4, .code yX4_placeOf cX4_placeOf 3 (some .int), .fieldLink RX4 19 "CobblerCodesModel" "nodes" "I", .fieldLink RX4 13 "CobblerCodesModel" "last" "[I", .methodLink RX4 53 yX4_bitsOf, .instanceMethod yX4_bitsOf, .selects RX4 yX4_bitsOf yX4_bitsOf, .code yX4_bitsOf cX4_bitsOf 3 (some .int), .methodLink RX4 47 yX4_lengthAt, .instanceMethod yX4_lengthAt, .selects RX4 yX4_lengthAt yX4_lengthAt, .code yX4_lengthAt cX4_lengthAt 4 (some .int), .methodLink RX4 40 yX4_above, .instanceMethod yX4_above, .selects RX4 yX4_above yX4_above, .code yX4_above cX4_above 3 (some .int), .fieldLink RX4 16 "CobblerCodesModel" "first" "[I"] ++ wsX40)
def wsX4_copy : List Cond := .code yX4_copy cX4_copy 2 (some (.array .int)) :: ([.arrayClass .int, .methodLink RX4 80 arraycopyName, .native arraycopyName, .static arraycopyName, .initialized "java/lang/System"])
def wsX4_tried_r1 : List Cond := [Cond.classLink RX4 141 "[I", Cond.fieldLink RX4 9 "CobblerCodesModel" "weight" "[I", Cond.fieldLink RX4 13 "CobblerCodesModel" "last" "[I", Cond.fieldLink RX4 16 "CobblerCodesModel" "first" "[I", Cond.arrayClass .int, Cond.fieldLink RX4 19 "CobblerCodesModel" "nodes" "I", Cond.fieldLink RX4 67 "CobblerCodesModel" "uses" "I", Cond.fieldLink RX4 70 "CobblerCodesModel" "bits" "I", Cond.fieldLink RX4 50 "CobblerCodesModel" "changes" "I", Cond.fieldLink RX4 100 "CobblerCodesModel" "worn" "I", Cond.fieldLink RX4 23 "CobblerCodesModel" "limit" "I", Cond.methodLink RX4 142 yX4_copy, Cond.static yX4_copy, Cond.initialized RX4, Cond.code yX4_copy cX4_copy 2 (some (.array .int)), Cond.methodLink RX4 80 arraycopyName, Cond.native arraycopyName, Cond.static arraycopyName, Cond.initialized "java/lang/System", Cond.methodLink RX4 116 yX4_row, Cond.instanceMethod yX4_row, Cond.selects RX4 yX4_row yX4_row, Cond.code yX4_row cX4_row 6 (some .int), Cond.methodLink RX4 107 yX4_useOne]
def wsX4_tried_r2 : List Cond := [Cond.instanceMethod yX4_useOne, Cond.selects RX4 yX4_useOne yX4_useOne, Cond.code yX4_useOne cX4_useOne 5 (some .int), Cond.methodLink RX4 53 yX4_bitsOf, Cond.instanceMethod yX4_bitsOf, Cond.selects RX4 yX4_bitsOf yX4_bitsOf, Cond.code yX4_bitsOf cX4_bitsOf 3 (some .int), Cond.methodLink RX4 44 yX4_placeOf, Cond.instanceMethod yX4_placeOf, Cond.selects RX4 yX4_placeOf yX4_placeOf, Cond.code yX4_placeOf cX4_placeOf 3 (some .int), Cond.methodLink RX4 47 yX4_lengthAt, Cond.instanceMethod yX4_lengthAt, Cond.selects RX4 yX4_lengthAt yX4_lengthAt, Cond.code yX4_lengthAt cX4_lengthAt 4 (some .int), Cond.methodLink RX4 40 yX4_above, Cond.instanceMethod yX4_above, Cond.selects RX4 yX4_above yX4_above, Cond.code yX4_above cX4_above 3 (some .int), Cond.methodLink RX4 56 yX4_add, Cond.instanceMethod yX4_add, Cond.selects RX4 yX4_add yX4_add, Cond.code yX4_add cX4_add 3 none, Cond.methodLink RX4 29 yX4_set]
def wsX4_tried_r3 : List Cond := [Cond.instanceMethod yX4_set, Cond.selects RX4 yX4_set yX4_set, Cond.code yX4_set cX4_set 5 none, Cond.methodLink RX4 60 yX4_asHeavy, Cond.instanceMethod yX4_asHeavy, Cond.selects RX4 yX4_asHeavy yX4_asHeavy, Cond.code yX4_asHeavy cX4_asHeavy 3 (some .int), Cond.methodLink RX4 63 yX4_change, Cond.instanceMethod yX4_change, Cond.selects RX4 yX4_change yX4_change, Cond.code yX4_change cX4_change 6 none, Cond.methodLink RX4 73 yX4_wearAll, Cond.instanceMethod yX4_wearAll, Cond.selects RX4 yX4_wearAll yX4_wearAll, Cond.code yX4_wearAll cX4_wearAll 6 (some .int), Cond.fieldLink RX4 77 "CobblerCodesModel" "heaped" "I", Cond.methodLink RX4 86 yX4_known, Cond.instanceMethod yX4_known, Cond.selects RX4 yX4_known yX4_known, Cond.code yX4_known cX4_known 1 (some .int), Cond.methodLink RX4 89 yX4_isLast, Cond.static yX4_isLast, Cond.code yX4_isLast cX4_isLast 1 (some .boolean), Cond.methodLink RX4 36 yX4_isIn]
def wsX4_tried_r4 : List Cond := [Cond.static yX4_isIn, Cond.code yX4_isIn cX4_isIn 3 (some .boolean), Cond.methodLink RX4 93 yX4_push, Cond.instanceMethod yX4_push, Cond.selects RX4 yX4_push yX4_push, Cond.code yX4_push cX4_push 4 none, Cond.fieldLink RX4 26 "CobblerCodesModel" "heap" "[I", Cond.methodLink RX4 97 yX4_pull, Cond.instanceMethod yX4_pull, Cond.selects RX4 yX4_pull yX4_pull, Cond.code yX4_pull cX4_pull 4 (some .int)]
def wsX4_tried : List Cond := .code yX4_tried cX4_tried 8 (some .int) :: ((wsX4_tried_r1 ++ (wsX4_tried_r2 ++ (wsX4_tried_r3 ++ wsX4_tried_r4))) ++ wsX40)
def wsX4_would_r1 : List Cond := [Cond.fieldLink RX4 23 "CobblerCodesModel" "limit" "I", Cond.methodLink RX4 113 yX4_isRow, Cond.instanceMethod yX4_isRow, Cond.selects RX4 yX4_isRow yX4_isRow, Cond.initialized RX4, Cond.code yX4_isRow cX4_isRow 4 (some .boolean), Cond.fieldLink RX4 33 "CobblerCodesModel" "thrown" "I", Cond.methodLink RX4 89 yX4_isLast, Cond.static yX4_isLast, Cond.code yX4_isLast cX4_isLast 1 (some .boolean), Cond.methodLink RX4 36 yX4_isIn, Cond.static yX4_isIn, Cond.code yX4_isIn cX4_isIn 3 (some .boolean), Cond.methodLink RX4 146 yX4_tried, Cond.instanceMethod yX4_tried, Cond.selects RX4 yX4_tried yX4_tried, Cond.code yX4_tried cX4_tried 8 (some .int), Cond.classLink RX4 141 "[I", Cond.fieldLink RX4 9 "CobblerCodesModel" "weight" "[I", Cond.fieldLink RX4 13 "CobblerCodesModel" "last" "[I", Cond.fieldLink RX4 16 "CobblerCodesModel" "first" "[I", Cond.arrayClass .int, Cond.fieldLink RX4 19 "CobblerCodesModel" "nodes" "I", Cond.fieldLink RX4 67 "CobblerCodesModel" "uses" "I"]
def wsX4_would_r2 : List Cond := [Cond.fieldLink RX4 70 "CobblerCodesModel" "bits" "I", Cond.fieldLink RX4 50 "CobblerCodesModel" "changes" "I", Cond.fieldLink RX4 100 "CobblerCodesModel" "worn" "I", Cond.methodLink RX4 142 yX4_copy, Cond.static yX4_copy, Cond.code yX4_copy cX4_copy 2 (some (.array .int)), Cond.methodLink RX4 80 arraycopyName, Cond.native arraycopyName, Cond.static arraycopyName, Cond.initialized "java/lang/System", Cond.methodLink RX4 116 yX4_row, Cond.instanceMethod yX4_row, Cond.selects RX4 yX4_row yX4_row, Cond.code yX4_row cX4_row 6 (some .int), Cond.methodLink RX4 107 yX4_useOne, Cond.instanceMethod yX4_useOne, Cond.selects RX4 yX4_useOne yX4_useOne, Cond.code yX4_useOne cX4_useOne 5 (some .int), Cond.methodLink RX4 53 yX4_bitsOf, Cond.instanceMethod yX4_bitsOf, Cond.selects RX4 yX4_bitsOf yX4_bitsOf, Cond.code yX4_bitsOf cX4_bitsOf 3 (some .int), Cond.methodLink RX4 44 yX4_placeOf, Cond.instanceMethod yX4_placeOf]
def wsX4_would_r3 : List Cond := [Cond.selects RX4 yX4_placeOf yX4_placeOf, Cond.code yX4_placeOf cX4_placeOf 3 (some .int), Cond.methodLink RX4 47 yX4_lengthAt, Cond.instanceMethod yX4_lengthAt, Cond.selects RX4 yX4_lengthAt yX4_lengthAt, Cond.code yX4_lengthAt cX4_lengthAt 4 (some .int), Cond.methodLink RX4 40 yX4_above, Cond.instanceMethod yX4_above, Cond.selects RX4 yX4_above yX4_above, Cond.code yX4_above cX4_above 3 (some .int), Cond.methodLink RX4 56 yX4_add, Cond.instanceMethod yX4_add, Cond.selects RX4 yX4_add yX4_add, Cond.code yX4_add cX4_add 3 none, Cond.methodLink RX4 29 yX4_set, Cond.instanceMethod yX4_set, Cond.selects RX4 yX4_set yX4_set, Cond.code yX4_set cX4_set 5 none, Cond.methodLink RX4 60 yX4_asHeavy, Cond.instanceMethod yX4_asHeavy, Cond.selects RX4 yX4_asHeavy yX4_asHeavy, Cond.code yX4_asHeavy cX4_asHeavy 3 (some .int), Cond.methodLink RX4 63 yX4_change, Cond.instanceMethod yX4_change]
def wsX4_would_r4 : List Cond := [Cond.selects RX4 yX4_change yX4_change, Cond.code yX4_change cX4_change 6 none, Cond.methodLink RX4 73 yX4_wearAll, Cond.instanceMethod yX4_wearAll, Cond.selects RX4 yX4_wearAll yX4_wearAll, Cond.code yX4_wearAll cX4_wearAll 6 (some .int), Cond.fieldLink RX4 77 "CobblerCodesModel" "heaped" "I", Cond.methodLink RX4 86 yX4_known, Cond.instanceMethod yX4_known, Cond.selects RX4 yX4_known yX4_known, Cond.code yX4_known cX4_known 1 (some .int), Cond.methodLink RX4 93 yX4_push, Cond.instanceMethod yX4_push, Cond.selects RX4 yX4_push yX4_push, Cond.code yX4_push cX4_push 4 none, Cond.fieldLink RX4 26 "CobblerCodesModel" "heap" "[I", Cond.methodLink RX4 97 yX4_pull, Cond.instanceMethod yX4_pull, Cond.selects RX4 yX4_pull yX4_pull, Cond.code yX4_pull cX4_pull 4 (some .int)]
def wsX4_would : List Cond := .code yX4_would cX4_would 4 (some .int) :: ((wsX4_would_r1 ++ (wsX4_would_r2 ++ (wsX4_would_r3 ++ wsX4_would_r4))) ++ wsX40)
def wsX4_bestLimit_r1 : List Cond := [Cond.methodLink RX4 146 yX4_tried, Cond.instanceMethod yX4_tried, Cond.selects RX4 yX4_tried yX4_tried, Cond.initialized RX4, Cond.code yX4_tried cX4_tried 8 (some .int), Cond.classLink RX4 141 "[I", Cond.fieldLink RX4 9 "CobblerCodesModel" "weight" "[I", Cond.fieldLink RX4 13 "CobblerCodesModel" "last" "[I", Cond.fieldLink RX4 16 "CobblerCodesModel" "first" "[I", Cond.arrayClass .int, Cond.fieldLink RX4 19 "CobblerCodesModel" "nodes" "I", Cond.fieldLink RX4 67 "CobblerCodesModel" "uses" "I", Cond.fieldLink RX4 70 "CobblerCodesModel" "bits" "I", Cond.fieldLink RX4 50 "CobblerCodesModel" "changes" "I", Cond.fieldLink RX4 100 "CobblerCodesModel" "worn" "I", Cond.fieldLink RX4 23 "CobblerCodesModel" "limit" "I", Cond.methodLink RX4 142 yX4_copy, Cond.static yX4_copy, Cond.code yX4_copy cX4_copy 2 (some (.array .int)), Cond.methodLink RX4 80 arraycopyName, Cond.native arraycopyName, Cond.static arraycopyName, Cond.initialized "java/lang/System", Cond.methodLink RX4 116 yX4_row]
def wsX4_bestLimit_r2 : List Cond := [Cond.instanceMethod yX4_row, Cond.selects RX4 yX4_row yX4_row, Cond.code yX4_row cX4_row 6 (some .int), Cond.methodLink RX4 107 yX4_useOne, Cond.instanceMethod yX4_useOne, Cond.selects RX4 yX4_useOne yX4_useOne, Cond.code yX4_useOne cX4_useOne 5 (some .int), Cond.methodLink RX4 53 yX4_bitsOf, Cond.instanceMethod yX4_bitsOf, Cond.selects RX4 yX4_bitsOf yX4_bitsOf, Cond.code yX4_bitsOf cX4_bitsOf 3 (some .int), Cond.methodLink RX4 44 yX4_placeOf, Cond.instanceMethod yX4_placeOf, Cond.selects RX4 yX4_placeOf yX4_placeOf, Cond.code yX4_placeOf cX4_placeOf 3 (some .int), Cond.methodLink RX4 47 yX4_lengthAt, Cond.instanceMethod yX4_lengthAt, Cond.selects RX4 yX4_lengthAt yX4_lengthAt, Cond.code yX4_lengthAt cX4_lengthAt 4 (some .int), Cond.methodLink RX4 40 yX4_above, Cond.instanceMethod yX4_above, Cond.selects RX4 yX4_above yX4_above, Cond.code yX4_above cX4_above 3 (some .int), Cond.methodLink RX4 56 yX4_add]
def wsX4_bestLimit_r3 : List Cond := [Cond.instanceMethod yX4_add, Cond.selects RX4 yX4_add yX4_add, Cond.code yX4_add cX4_add 3 none, Cond.methodLink RX4 29 yX4_set, Cond.instanceMethod yX4_set, Cond.selects RX4 yX4_set yX4_set, Cond.code yX4_set cX4_set 5 none, Cond.methodLink RX4 60 yX4_asHeavy, Cond.instanceMethod yX4_asHeavy, Cond.selects RX4 yX4_asHeavy yX4_asHeavy, Cond.code yX4_asHeavy cX4_asHeavy 3 (some .int), Cond.methodLink RX4 63 yX4_change, Cond.instanceMethod yX4_change, Cond.selects RX4 yX4_change yX4_change, Cond.code yX4_change cX4_change 6 none, Cond.methodLink RX4 73 yX4_wearAll, Cond.instanceMethod yX4_wearAll, Cond.selects RX4 yX4_wearAll yX4_wearAll, Cond.code yX4_wearAll cX4_wearAll 6 (some .int), Cond.fieldLink RX4 77 "CobblerCodesModel" "heaped" "I", Cond.methodLink RX4 86 yX4_known, Cond.instanceMethod yX4_known, Cond.selects RX4 yX4_known yX4_known, Cond.code yX4_known cX4_known 1 (some .int)]
def wsX4_bestLimit_r4 : List Cond := [Cond.methodLink RX4 89 yX4_isLast, Cond.static yX4_isLast, Cond.code yX4_isLast cX4_isLast 1 (some .boolean), Cond.methodLink RX4 36 yX4_isIn, Cond.static yX4_isIn, Cond.code yX4_isIn cX4_isIn 3 (some .boolean), Cond.methodLink RX4 93 yX4_push, Cond.instanceMethod yX4_push, Cond.selects RX4 yX4_push yX4_push, Cond.code yX4_push cX4_push 4 none, Cond.fieldLink RX4 26 "CobblerCodesModel" "heap" "[I", Cond.methodLink RX4 97 yX4_pull, Cond.instanceMethod yX4_pull, Cond.selects RX4 yX4_pull yX4_pull, Cond.code yX4_pull cX4_pull 4 (some .int)]
def wsX4_bestLimit : List Cond := .code yX4_bestLimit cX4_bestLimit 8 (some .int) :: ((wsX4_bestLimit_r1 ++ (wsX4_bestLimit_r2 ++ (wsX4_bestLimit_r3 ++ wsX4_bestLimit_r4))) ++ wsX40)
def wsX4_advise_r1 : List Cond := [Cond.methodLink RX4 113 yX4_isRow, Cond.instanceMethod yX4_isRow, Cond.selects RX4 yX4_isRow yX4_isRow, Cond.initialized RX4, Cond.code yX4_isRow cX4_isRow 4 (some .boolean), Cond.fieldLink RX4 33 "CobblerCodesModel" "thrown" "I", Cond.methodLink RX4 89 yX4_isLast, Cond.static yX4_isLast, Cond.code yX4_isLast cX4_isLast 1 (some .boolean), Cond.methodLink RX4 36 yX4_isIn, Cond.static yX4_isIn, Cond.code yX4_isIn cX4_isIn 3 (some .boolean), Cond.methodLink RX4 150 yX4_bestLimit, Cond.instanceMethod yX4_bestLimit, Cond.selects RX4 yX4_bestLimit yX4_bestLimit, Cond.code yX4_bestLimit cX4_bestLimit 8 (some .int), Cond.methodLink RX4 146 yX4_tried, Cond.instanceMethod yX4_tried, Cond.selects RX4 yX4_tried yX4_tried, Cond.code yX4_tried cX4_tried 8 (some .int), Cond.classLink RX4 141 "[I", Cond.fieldLink RX4 9 "CobblerCodesModel" "weight" "[I", Cond.fieldLink RX4 13 "CobblerCodesModel" "last" "[I", Cond.fieldLink RX4 16 "CobblerCodesModel" "first" "[I"]
def wsX4_advise_r2 : List Cond := [Cond.arrayClass .int, Cond.fieldLink RX4 19 "CobblerCodesModel" "nodes" "I", Cond.fieldLink RX4 67 "CobblerCodesModel" "uses" "I", Cond.fieldLink RX4 70 "CobblerCodesModel" "bits" "I", Cond.fieldLink RX4 50 "CobblerCodesModel" "changes" "I", Cond.fieldLink RX4 100 "CobblerCodesModel" "worn" "I", Cond.fieldLink RX4 23 "CobblerCodesModel" "limit" "I", Cond.methodLink RX4 142 yX4_copy, Cond.static yX4_copy, Cond.code yX4_copy cX4_copy 2 (some (.array .int)), Cond.methodLink RX4 80 arraycopyName, Cond.native arraycopyName, Cond.static arraycopyName, Cond.initialized "java/lang/System", Cond.methodLink RX4 116 yX4_row, Cond.instanceMethod yX4_row, Cond.selects RX4 yX4_row yX4_row, Cond.code yX4_row cX4_row 6 (some .int), Cond.methodLink RX4 107 yX4_useOne, Cond.instanceMethod yX4_useOne, Cond.selects RX4 yX4_useOne yX4_useOne, Cond.code yX4_useOne cX4_useOne 5 (some .int), Cond.methodLink RX4 53 yX4_bitsOf, Cond.instanceMethod yX4_bitsOf]
def wsX4_advise_r3 : List Cond := [Cond.selects RX4 yX4_bitsOf yX4_bitsOf, Cond.code yX4_bitsOf cX4_bitsOf 3 (some .int), Cond.methodLink RX4 44 yX4_placeOf, Cond.instanceMethod yX4_placeOf, Cond.selects RX4 yX4_placeOf yX4_placeOf, Cond.code yX4_placeOf cX4_placeOf 3 (some .int), Cond.methodLink RX4 47 yX4_lengthAt, Cond.instanceMethod yX4_lengthAt, Cond.selects RX4 yX4_lengthAt yX4_lengthAt, Cond.code yX4_lengthAt cX4_lengthAt 4 (some .int), Cond.methodLink RX4 40 yX4_above, Cond.instanceMethod yX4_above, Cond.selects RX4 yX4_above yX4_above, Cond.code yX4_above cX4_above 3 (some .int), Cond.methodLink RX4 56 yX4_add, Cond.instanceMethod yX4_add, Cond.selects RX4 yX4_add yX4_add, Cond.code yX4_add cX4_add 3 none, Cond.methodLink RX4 29 yX4_set, Cond.instanceMethod yX4_set, Cond.selects RX4 yX4_set yX4_set, Cond.code yX4_set cX4_set 5 none, Cond.methodLink RX4 60 yX4_asHeavy, Cond.instanceMethod yX4_asHeavy]
def wsX4_advise_r4 : List Cond := [Cond.selects RX4 yX4_asHeavy yX4_asHeavy, Cond.code yX4_asHeavy cX4_asHeavy 3 (some .int), Cond.methodLink RX4 63 yX4_change, Cond.instanceMethod yX4_change, Cond.selects RX4 yX4_change yX4_change, Cond.code yX4_change cX4_change 6 none, Cond.methodLink RX4 73 yX4_wearAll, Cond.instanceMethod yX4_wearAll, Cond.selects RX4 yX4_wearAll yX4_wearAll, Cond.code yX4_wearAll cX4_wearAll 6 (some .int), Cond.fieldLink RX4 77 "CobblerCodesModel" "heaped" "I", Cond.methodLink RX4 86 yX4_known, Cond.instanceMethod yX4_known, Cond.selects RX4 yX4_known yX4_known, Cond.code yX4_known cX4_known 1 (some .int), Cond.methodLink RX4 93 yX4_push, Cond.instanceMethod yX4_push, Cond.selects RX4 yX4_push yX4_push, Cond.code yX4_push cX4_push 4 none, Cond.fieldLink RX4 26 "CobblerCodesModel" "heap" "[I", Cond.methodLink RX4 97 yX4_pull, Cond.instanceMethod yX4_pull, Cond.selects RX4 yX4_pull yX4_pull, Cond.code yX4_pull cX4_pull 4 (some .int)]
def wsX4_advise : List Cond := .code yX4_advise cX4_advise 4 (some .int) :: ((wsX4_advise_r1 ++ (wsX4_advise_r2 ++ (wsX4_advise_r3 ++ wsX4_advise_r4))) ++ wsX40)
def wsX4_saved : List Cond := .code yX4_saved cX4_saved 1 (some .int) :: ([.fieldLink RX4 33 "CobblerCodesModel" "thrown" "I", .fieldLink RX4 67 "CobblerCodesModel" "uses" "I", .fieldLink RX4 70 "CobblerCodesModel" "bits" "I"] ++ wsX40)
def wsX4_mean : List Cond := .code yX4_mean cX4_mean 1 (some .double) :: ([.fieldLink RX4 33 "CobblerCodesModel" "thrown" "I", .fieldLink RX4 67 "CobblerCodesModel" "uses" "I", .fieldLink RX4 70 "CobblerCodesModel" "bits" "I"] ++ wsX40)
def wsX4_digest_r1 : List Cond := [Cond.fieldLink RX4 33 "CobblerCodesModel" "thrown" "I", Cond.constantLong RX4 153 (1669), Cond.constantLong RX4 155 (31), Cond.fieldLink RX4 19 "CobblerCodesModel" "nodes" "I", Cond.methodLink RX4 135 yX4_counted, Cond.instanceMethod yX4_counted, Cond.selects RX4 yX4_counted yX4_counted, Cond.initialized RX4, Cond.code yX4_counted cX4_counted 3 (some .int), Cond.arrayClass .int, Cond.fieldLink RX4 9 "CobblerCodesModel" "weight" "[I", Cond.fieldLink RX4 67 "CobblerCodesModel" "uses" "I", Cond.fieldLink RX4 70 "CobblerCodesModel" "bits" "I", Cond.fieldLink RX4 50 "CobblerCodesModel" "changes" "I", Cond.fieldLink RX4 100 "CobblerCodesModel" "worn" "I", Cond.fieldLink RX4 23 "CobblerCodesModel" "limit" "I", Cond.methodLink RX4 86 yX4_known, Cond.instanceMethod yX4_known, Cond.selects RX4 yX4_known yX4_known, Cond.code yX4_known cX4_known 1 (some .int), Cond.methodLink RX4 132 yX4_nodeTold, Cond.instanceMethod yX4_nodeTold, Cond.selects RX4 yX4_nodeTold yX4_nodeTold, Cond.code yX4_nodeTold cX4_nodeTold 3 (some .int)]
def wsX4_digest_r2 : List Cond := [Cond.fieldLink RX4 13 "CobblerCodesModel" "last" "[I", Cond.fieldLink RX4 16 "CobblerCodesModel" "first" "[I", Cond.methodLink RX4 40 yX4_above, Cond.instanceMethod yX4_above, Cond.selects RX4 yX4_above yX4_above, Cond.code yX4_above cX4_above 3 (some .int), Cond.methodLink RX4 53 yX4_bitsOf, Cond.instanceMethod yX4_bitsOf, Cond.selects RX4 yX4_bitsOf yX4_bitsOf, Cond.code yX4_bitsOf cX4_bitsOf 3 (some .int), Cond.methodLink RX4 44 yX4_placeOf, Cond.instanceMethod yX4_placeOf, Cond.selects RX4 yX4_placeOf yX4_placeOf, Cond.code yX4_placeOf cX4_placeOf 3 (some .int), Cond.methodLink RX4 47 yX4_lengthAt, Cond.instanceMethod yX4_lengthAt, Cond.selects RX4 yX4_lengthAt yX4_lengthAt, Cond.code yX4_lengthAt cX4_lengthAt 4 (some .int)]
def wsX4_digest : List Cond := .code yX4_digest cX4_digest 5 (some .long) :: ((wsX4_digest_r1 ++ wsX4_digest_r2) ++ wsX40)
def wsL_use_r1 : List Cond := [Cond.classLink RL 13 "java/lang/IndexOutOfBoundsException", Cond.methodLink RL 7 yX3_use, Cond.instanceMethod yX3_use, Cond.selects RX3 yX3_use yX3_use, Cond.initialized RX3, Cond.code yX3_use cX3_use 2 (some .int), Cond.fieldLink RX3 12 "CobblerCodes" "shop" "LCobblerCodes$Shop;", Cond.methodLink RX3 19 yX3_requireIndex, Cond.static yX3_requireIndex, Cond.code yX3_requireIndex cX3_requireIndex 2 none, Cond.classLink RX3 109 "java/lang/IndexOutOfBoundsException", Cond.initialized "java/lang/IndexOutOfBoundsException", Cond.instanceMethod yX1_takeOne, Cond.initialized RX1, Cond.selects RX1 yX1_takeOne yX1_takeOne, Cond.code yX1_takeOne cX1_takeOne 3 (some .int), Cond.fieldLink RX1 12 "CobblerCodes$Shop" "tree" "LCobblerCodes$Tree;", Cond.fieldLink RX1 44 "CobblerCodes$Shop" "uses" "I", Cond.fieldLink RX1 47 "CobblerCodes$Shop" "bits" "I", Cond.fieldLink RX1 18 "CobblerCodes$Shop" "limit" "I", Cond.methodLink RX1 34 yX1_bitsFor, Cond.instanceMethod yX1_bitsFor, Cond.selects RX1 yX1_bitsFor yX1_bitsFor, Cond.code yX1_bitsFor cX1_bitsFor 2 (some .int)]
def wsL_use_r2 : List Cond := [Cond.instanceMethod yX2_knows, Cond.initialized RX2, Cond.selects RX2 yX2_knows yX2_knows, Cond.code yX2_knows cX2_knows 2 (some .boolean), Cond.fieldLink RX2 24 "CobblerCodes$Tree" "placeOf" "[I", Cond.static yX3_at, Cond.code yX3_at cX3_at 2 (some .int), Cond.instanceMethod yX2_lengthOf, Cond.selects RX2 yX2_lengthOf yX2_lengthOf, Cond.code yX2_lengthOf cX2_lengthOf 4 (some .int), Cond.fieldLink RX2 21 "CobblerCodes$Tree" "above" "[I", Cond.instanceMethod yX2_learn, Cond.selects RX2 yX2_learn yX2_learn, Cond.code yX2_learn cX2_learn 4 none, Cond.fieldLink RX2 40 "CobblerCodes$Tree" "size" "I", Cond.methodLink RX2 44 yX2_putNode, Cond.instanceMethod yX2_putNode, Cond.selects RX2 yX2_putNode yX2_putNode, Cond.code yX2_putNode cX2_putNode 5 none, Cond.fieldLink RX2 9 "CobblerCodes$Tree" "weight" "[I", Cond.fieldLink RX2 15 "CobblerCodes$Tree" "leaf" "[I", Cond.fieldLink RX2 18 "CobblerCodes$Tree" "firstPart" "[I", Cond.static yX3_put, Cond.code yX3_put cX3_put 3 none]
def wsL_use_r3 : List Cond := [Cond.instanceMethod yX2_makeHeavier, Cond.selects RX2 yX2_makeHeavier yX2_makeHeavier, Cond.code yX2_makeHeavier cX2_makeHeavier 5 none, Cond.fieldLink RX2 79 "CobblerCodes$Tree" "exchanges" "I", Cond.methodLink RX2 72 yX2_firstAsHeavyAs, Cond.instanceMethod yX2_firstAsHeavyAs, Cond.selects RX2 yX2_firstAsHeavyAs yX2_firstAsHeavyAs, Cond.code yX2_firstAsHeavyAs cX2_firstAsHeavyAs 4 (some .int), Cond.methodLink RX2 75 yX2_exchange, Cond.instanceMethod yX2_exchange, Cond.selects RX2 yX2_exchange yX2_exchange, Cond.code yX2_exchange cX2_exchange 6 none, Cond.instanceMethod yX2_weightOfRoot, Cond.selects RX2 yX2_weightOfRoot yX2_weightOfRoot, Cond.code yX2_weightOfRoot cX2_weightOfRoot 1 (some .int), Cond.instanceMethod yX2_wearDown, Cond.selects RX2 yX2_wearDown yX2_wearDown, Cond.code yX2_wearDown cX2_wearDown 5 (some .int), Cond.fieldLink RX2 30 "CobblerCodes$Tree" "heap" "LCobblerCodes$Heap;", Cond.fieldLink RX2 93 "CobblerCodes$Tree" "wears" "I", Cond.methodLink RX2 82 yX2_fillHeap, Cond.instanceMethod yX2_fillHeap, Cond.selects RX2 yX2_fillHeap yX2_fillHeap, Cond.code yX2_fillHeap cX2_fillHeap 4 (some .int)]
def wsL_use_r4 : List Cond := [Cond.instanceMethod yX0_clear, Cond.initialized RX0, Cond.selects RX0 yX0_clear yX0_clear, Cond.code yX0_clear cX0_clear 1 none, Cond.fieldLink RX0 21 "CobblerCodes$Heap" "size" "I", Cond.instanceMethod yX0_add, Cond.selects RX0 yX0_add yX0_add, Cond.code yX0_add cX0_add 4 none, Cond.fieldLink RX0 9 "CobblerCodes$Heap" "weight" "[I", Cond.fieldLink RX0 15 "CobblerCodes$Heap" "leaf" "[I", Cond.fieldLink RX0 18 "CobblerCodes$Heap" "firstPart" "[I", Cond.methodLink RX2 99 yX2_knows, Cond.methodLink RX2 86 yX2_takeLightest, Cond.instanceMethod yX2_takeLightest, Cond.selects RX2 yX2_takeLightest yX2_takeLightest, Cond.code yX2_takeLightest cX2_takeLightest 4 (some .int), Cond.instanceMethod yX0_lightest, Cond.selects RX0 yX0_lightest yX0_lightest, Cond.code yX0_lightest cX0_lightest 4 (some .int), Cond.instanceMethod yX0_drop, Cond.selects RX0 yX0_drop yX0_drop, Cond.code yX0_drop cX0_drop 2 none]
def wsL_use : List Cond := .codeWith yL_use cL_use 4 (some .int) [(0, 9, 12, 13)] :: ((wsL_use_r1 ++ (wsL_use_r2 ++ (wsL_use_r3 ++ wsL_use_r4))) ++ wsX30 ++ wsX10 ++ wsX20 ++ wsX00 ++ (vx_atS RX3 113 "java/lang/IndexOutOfBoundsException" ["java/lang/RuntimeException", "java/lang/Exception"]).filter goodWord)
def wsL_useAll_r1 : List Cond := [Cond.classLink RL 13 "java/lang/IndexOutOfBoundsException", Cond.classLink RL 19 "java/lang/IllegalArgumentException", Cond.methodLink RL 15 yX3_useAll, Cond.instanceMethod yX3_useAll, Cond.selects RX3 yX3_useAll yX3_useAll, Cond.initialized RX3, Cond.code yX3_useAll cX3_useAll 4 (some .int), Cond.fieldLink RX3 12 "CobblerCodes" "shop" "LCobblerCodes$Shop;", Cond.methodLink RX3 27 yX3_requireRow, Cond.static yX3_requireRow, Cond.code yX3_requireRow cX3_requireRow 3 none, Cond.classLink RX3 35 "java/lang/IllegalArgumentException", Cond.initialized "java/lang/IllegalArgumentException", Cond.methodLink RX3 19 yX3_requireIndex, Cond.static yX3_requireIndex, Cond.code yX3_requireIndex cX3_requireIndex 2 none, Cond.classLink RX3 109 "java/lang/IndexOutOfBoundsException", Cond.initialized "java/lang/IndexOutOfBoundsException", Cond.instanceMethod yX1_takeRow, Cond.initialized RX1, Cond.selects RX1 yX1_takeRow yX1_takeRow, Cond.code yX1_takeRow cX1_takeRow 6 (some .int), Cond.methodLink RX1 57 yX1_takeOne, Cond.instanceMethod yX1_takeOne]
def wsL_useAll_r2 : List Cond := [Cond.selects RX1 yX1_takeOne yX1_takeOne, Cond.code yX1_takeOne cX1_takeOne 3 (some .int), Cond.fieldLink RX1 12 "CobblerCodes$Shop" "tree" "LCobblerCodes$Tree;", Cond.fieldLink RX1 44 "CobblerCodes$Shop" "uses" "I", Cond.fieldLink RX1 47 "CobblerCodes$Shop" "bits" "I", Cond.fieldLink RX1 18 "CobblerCodes$Shop" "limit" "I", Cond.methodLink RX1 34 yX1_bitsFor, Cond.instanceMethod yX1_bitsFor, Cond.selects RX1 yX1_bitsFor yX1_bitsFor, Cond.code yX1_bitsFor cX1_bitsFor 2 (some .int), Cond.instanceMethod yX2_knows, Cond.initialized RX2, Cond.selects RX2 yX2_knows yX2_knows, Cond.code yX2_knows cX2_knows 2 (some .boolean), Cond.fieldLink RX2 24 "CobblerCodes$Tree" "placeOf" "[I", Cond.static yX3_at, Cond.code yX3_at cX3_at 2 (some .int), Cond.instanceMethod yX2_lengthOf, Cond.selects RX2 yX2_lengthOf yX2_lengthOf, Cond.code yX2_lengthOf cX2_lengthOf 4 (some .int), Cond.fieldLink RX2 21 "CobblerCodes$Tree" "above" "[I", Cond.instanceMethod yX2_learn, Cond.selects RX2 yX2_learn yX2_learn, Cond.code yX2_learn cX2_learn 4 none]
def wsL_useAll_r3 : List Cond := [Cond.fieldLink RX2 40 "CobblerCodes$Tree" "size" "I", Cond.methodLink RX2 44 yX2_putNode, Cond.instanceMethod yX2_putNode, Cond.selects RX2 yX2_putNode yX2_putNode, Cond.code yX2_putNode cX2_putNode 5 none, Cond.fieldLink RX2 9 "CobblerCodes$Tree" "weight" "[I", Cond.fieldLink RX2 15 "CobblerCodes$Tree" "leaf" "[I", Cond.fieldLink RX2 18 "CobblerCodes$Tree" "firstPart" "[I", Cond.static yX3_put, Cond.code yX3_put cX3_put 3 none, Cond.instanceMethod yX2_makeHeavier, Cond.selects RX2 yX2_makeHeavier yX2_makeHeavier, Cond.code yX2_makeHeavier cX2_makeHeavier 5 none, Cond.fieldLink RX2 79 "CobblerCodes$Tree" "exchanges" "I", Cond.methodLink RX2 72 yX2_firstAsHeavyAs, Cond.instanceMethod yX2_firstAsHeavyAs, Cond.selects RX2 yX2_firstAsHeavyAs yX2_firstAsHeavyAs, Cond.code yX2_firstAsHeavyAs cX2_firstAsHeavyAs 4 (some .int), Cond.methodLink RX2 75 yX2_exchange, Cond.instanceMethod yX2_exchange, Cond.selects RX2 yX2_exchange yX2_exchange, Cond.code yX2_exchange cX2_exchange 6 none, Cond.instanceMethod yX2_weightOfRoot, Cond.selects RX2 yX2_weightOfRoot yX2_weightOfRoot]
def wsL_useAll_r4 : List Cond := [Cond.code yX2_weightOfRoot cX2_weightOfRoot 1 (some .int), Cond.instanceMethod yX2_wearDown, Cond.selects RX2 yX2_wearDown yX2_wearDown, Cond.code yX2_wearDown cX2_wearDown 5 (some .int), Cond.fieldLink RX2 30 "CobblerCodes$Tree" "heap" "LCobblerCodes$Heap;", Cond.fieldLink RX2 93 "CobblerCodes$Tree" "wears" "I", Cond.methodLink RX2 82 yX2_fillHeap, Cond.instanceMethod yX2_fillHeap, Cond.selects RX2 yX2_fillHeap yX2_fillHeap, Cond.code yX2_fillHeap cX2_fillHeap 4 (some .int), Cond.instanceMethod yX0_clear, Cond.initialized RX0, Cond.selects RX0 yX0_clear yX0_clear, Cond.code yX0_clear cX0_clear 1 none, Cond.fieldLink RX0 21 "CobblerCodes$Heap" "size" "I", Cond.instanceMethod yX0_add, Cond.selects RX0 yX0_add yX0_add, Cond.code yX0_add cX0_add 4 none, Cond.fieldLink RX0 9 "CobblerCodes$Heap" "weight" "[I", Cond.fieldLink RX0 15 "CobblerCodes$Heap" "leaf" "[I", Cond.fieldLink RX0 18 "CobblerCodes$Heap" "firstPart" "[I", Cond.methodLink RX2 99 yX2_knows, Cond.methodLink RX2 86 yX2_takeLightest, Cond.instanceMethod yX2_takeLightest]
def wsL_useAll_r5 : List Cond := [Cond.selects RX2 yX2_takeLightest yX2_takeLightest, Cond.code yX2_takeLightest cX2_takeLightest 4 (some .int), Cond.instanceMethod yX0_lightest, Cond.selects RX0 yX0_lightest yX0_lightest, Cond.code yX0_lightest cX0_lightest 4 (some .int), Cond.instanceMethod yX0_drop, Cond.selects RX0 yX0_drop yX0_drop, Cond.code yX0_drop cX0_drop 2 none]
def wsL_useAll : List Cond := .codeWith yL_useAll cL_useAll 6 (some .int) [(0, 12, 15, 13), (0, 12, 19, 19)] :: ((wsL_useAll_r1 ++ (wsL_useAll_r2 ++ (wsL_useAll_r3 ++ (wsL_useAll_r4 ++ wsL_useAll_r5)))) ++ wsX30 ++ wsX10 ++ wsX20 ++ wsX00 ++ (vx_atS RX3 39 "java/lang/IllegalArgumentException" ["java/lang/RuntimeException", "java/lang/Exception"]).filter goodWord ++ (vx_atS RX3 113 "java/lang/IndexOutOfBoundsException" ["java/lang/RuntimeException", "java/lang/Exception"]).filter goodWord)
def wsL_setLimit : List Cond := .codeWith yL_setLimit cL_setLimit 4 (some .int) [(0, 9, 12, 19)] :: ([.classLink RL 19 "java/lang/IllegalArgumentException", .methodLink RL 21 yX3_setLimit, .instanceMethod yX3_setLimit, .selects RX3 yX3_setLimit yX3_setLimit, .initialized RX3, .code yX3_setLimit cX3_setLimit 3 (some .int), .classLink RX3 35 "java/lang/IllegalArgumentException", .initialized "java/lang/IllegalArgumentException", .fieldLink RX3 12 "CobblerCodes" "shop" "LCobblerCodes$Shop;"] ++ wsX30 ++ wsX10 ++ (vx_atS RX3 39 "java/lang/IllegalArgumentException" ["java/lang/RuntimeException", "java/lang/Exception"]).filter goodWord)
def wsL_wear_r1 : List Cond := [Cond.classLink RL 28 "java/lang/IllegalStateException", Cond.methodLink RL 24 yX3_wear, Cond.instanceMethod yX3_wear, Cond.selects RX3 yX3_wear yX3_wear, Cond.initialized RX3, Cond.code yX3_wear cX3_wear 1 (some .int), Cond.classLink RX3 56 "java/lang/IllegalStateException", Cond.initialized "java/lang/IllegalStateException", Cond.fieldLink RX3 12 "CobblerCodes" "shop" "LCobblerCodes$Shop;", Cond.instanceMethod yX2_knownLasts, Cond.initialized RX2, Cond.selects RX2 yX2_knownLasts yX2_knownLasts, Cond.code yX2_knownLasts cX2_knownLasts 1 (some .int), Cond.fieldLink RX2 40 "CobblerCodes$Tree" "size" "I", Cond.instanceMethod yX2_wearDown, Cond.selects RX2 yX2_wearDown yX2_wearDown, Cond.code yX2_wearDown cX2_wearDown 5 (some .int), Cond.fieldLink RX2 30 "CobblerCodes$Tree" "heap" "LCobblerCodes$Heap;", Cond.fieldLink RX2 93 "CobblerCodes$Tree" "wears" "I", Cond.methodLink RX2 82 yX2_fillHeap, Cond.instanceMethod yX2_fillHeap, Cond.selects RX2 yX2_fillHeap yX2_fillHeap, Cond.code yX2_fillHeap cX2_fillHeap 4 (some .int), Cond.fieldLink RX2 9 "CobblerCodes$Tree" "weight" "[I"]
def wsL_wear_r2 : List Cond := [Cond.fieldLink RX2 24 "CobblerCodes$Tree" "placeOf" "[I", Cond.instanceMethod yX0_clear, Cond.initialized RX0, Cond.selects RX0 yX0_clear yX0_clear, Cond.code yX0_clear cX0_clear 1 none, Cond.fieldLink RX0 21 "CobblerCodes$Heap" "size" "I", Cond.instanceMethod yX0_add, Cond.selects RX0 yX0_add yX0_add, Cond.code yX0_add cX0_add 4 none, Cond.fieldLink RX0 9 "CobblerCodes$Heap" "weight" "[I", Cond.fieldLink RX0 15 "CobblerCodes$Heap" "leaf" "[I", Cond.fieldLink RX0 18 "CobblerCodes$Heap" "firstPart" "[I", Cond.static yX3_put, Cond.code yX3_put cX3_put 3 none, Cond.methodLink RX2 99 yX2_knows, Cond.instanceMethod yX2_knows, Cond.selects RX2 yX2_knows yX2_knows, Cond.code yX2_knows cX2_knows 2 (some .boolean), Cond.static yX3_at, Cond.code yX3_at cX3_at 2 (some .int), Cond.methodLink RX2 86 yX2_takeLightest, Cond.instanceMethod yX2_takeLightest, Cond.selects RX2 yX2_takeLightest yX2_takeLightest, Cond.code yX2_takeLightest cX2_takeLightest 4 (some .int)]
def wsL_wear_r3 : List Cond := [Cond.instanceMethod yX0_lightest, Cond.selects RX0 yX0_lightest yX0_lightest, Cond.code yX0_lightest cX0_lightest 4 (some .int), Cond.methodLink RX2 44 yX2_putNode, Cond.instanceMethod yX2_putNode, Cond.selects RX2 yX2_putNode yX2_putNode, Cond.code yX2_putNode cX2_putNode 5 none, Cond.fieldLink RX2 15 "CobblerCodes$Tree" "leaf" "[I", Cond.fieldLink RX2 18 "CobblerCodes$Tree" "firstPart" "[I", Cond.fieldLink RX2 21 "CobblerCodes$Tree" "above" "[I", Cond.instanceMethod yX0_drop, Cond.selects RX0 yX0_drop yX0_drop, Cond.code yX0_drop cX0_drop 2 none]
def wsL_wear : List Cond := .codeWith yL_wear cL_wear 3 (some .int) [(0, 8, 11, 28)] :: ((wsL_wear_r1 ++ (wsL_wear_r2 ++ wsL_wear_r3)) ++ wsX30 ++ wsX10 ++ wsX20 ++ wsX00 ++ (vx_atS RX3 60 "java/lang/IllegalStateException" ["java/lang/RuntimeException", "java/lang/Exception"]).filter goodWord)
def wsL_told_r1 : List Cond := [Cond.classLink RL 13 "java/lang/IndexOutOfBoundsException", Cond.methodLink RL 30 yX3_told, Cond.instanceMethod yX3_told, Cond.selects RX3 yX3_told yX3_told, Cond.initialized RX3, Cond.code yX3_told cX3_told 3 (some .int), Cond.fieldLink RX3 12 "CobblerCodes" "shop" "LCobblerCodes$Shop;", Cond.methodLink RX3 19 yX3_requireIndex, Cond.static yX3_requireIndex, Cond.code yX3_requireIndex cX3_requireIndex 2 none, Cond.classLink RX3 109 "java/lang/IndexOutOfBoundsException", Cond.initialized "java/lang/IndexOutOfBoundsException", Cond.instanceMethod yX1_bitsFor, Cond.initialized RX1, Cond.selects RX1 yX1_bitsFor yX1_bitsFor, Cond.code yX1_bitsFor cX1_bitsFor 2 (some .int), Cond.fieldLink RX1 12 "CobblerCodes$Shop" "tree" "LCobblerCodes$Tree;", Cond.instanceMethod yX2_knows, Cond.initialized RX2, Cond.selects RX2 yX2_knows yX2_knows, Cond.code yX2_knows cX2_knows 2 (some .boolean), Cond.fieldLink RX2 24 "CobblerCodes$Tree" "placeOf" "[I", Cond.static yX3_at, Cond.code yX3_at cX3_at 2 (some .int)]
def wsL_told_r2 : List Cond := [Cond.instanceMethod yX2_lengthOf, Cond.selects RX2 yX2_lengthOf yX2_lengthOf, Cond.code yX2_lengthOf cX2_lengthOf 4 (some .int), Cond.fieldLink RX2 21 "CobblerCodes$Tree" "above" "[I", Cond.instanceMethod yX2_factOfLeaf, Cond.selects RX2 yX2_factOfLeaf yX2_factOfLeaf, Cond.code yX2_factOfLeaf cX2_factOfLeaf 4 (some .int), Cond.fieldLink RX2 9 "CobblerCodes$Tree" "weight" "[I", Cond.methodLink RX2 58 yX2_lengthOf, Cond.methodLink RX2 62 yX2_codeOf, Cond.instanceMethod yX2_codeOf, Cond.selects RX2 yX2_codeOf yX2_codeOf, Cond.code yX2_codeOf cX2_codeOf 6 (some .int), Cond.fieldLink RX2 18 "CobblerCodes$Tree" "firstPart" "[I", Cond.methodLink RX2 65 yX2_codeByLengths, Cond.instanceMethod yX2_codeByLengths, Cond.selects RX2 yX2_codeByLengths yX2_codeByLengths, Cond.code yX2_codeByLengths cX2_codeByLengths 6 (some .int)]
def wsL_told : List Cond := .codeWith yL_told cL_told 5 (some .int) [(0, 10, 13, 13)] :: ((wsL_told_r1 ++ wsL_told_r2) ++ wsX30 ++ wsX10 ++ wsX20 ++ (vx_atS RX3 113 "java/lang/IndexOutOfBoundsException" ["java/lang/RuntimeException", "java/lang/Exception"]).filter goodWord)
def wsL_sole_r1 : List Cond := [Cond.classLink RL 13 "java/lang/IndexOutOfBoundsException", Cond.methodLink RL 34 yX3_sole, Cond.instanceMethod yX3_sole, Cond.selects RX3 yX3_sole yX3_sole, Cond.initialized RX3, Cond.code yX3_sole cX3_sole 2 (some .int), Cond.fieldLink RX3 12 "CobblerCodes" "shop" "LCobblerCodes$Shop;", Cond.methodLink RX3 19 yX3_requireIndex, Cond.static yX3_requireIndex, Cond.code yX3_requireIndex cX3_requireIndex 2 none, Cond.classLink RX3 109 "java/lang/IndexOutOfBoundsException", Cond.initialized "java/lang/IndexOutOfBoundsException", Cond.instanceMethod yX2_factOfLeaf, Cond.initialized RX2, Cond.selects RX2 yX2_factOfLeaf yX2_factOfLeaf, Cond.code yX2_factOfLeaf cX2_factOfLeaf 4 (some .int), Cond.fieldLink RX2 24 "CobblerCodes$Tree" "placeOf" "[I", Cond.fieldLink RX2 9 "CobblerCodes$Tree" "weight" "[I", Cond.static yX3_at, Cond.code yX3_at cX3_at 2 (some .int), Cond.methodLink RX2 58 yX2_lengthOf, Cond.instanceMethod yX2_lengthOf, Cond.selects RX2 yX2_lengthOf yX2_lengthOf, Cond.code yX2_lengthOf cX2_lengthOf 4 (some .int)]
def wsL_sole_r2 : List Cond := [Cond.fieldLink RX2 21 "CobblerCodes$Tree" "above" "[I", Cond.methodLink RX2 62 yX2_codeOf, Cond.instanceMethod yX2_codeOf, Cond.selects RX2 yX2_codeOf yX2_codeOf, Cond.code yX2_codeOf cX2_codeOf 6 (some .int), Cond.fieldLink RX2 18 "CobblerCodes$Tree" "firstPart" "[I", Cond.methodLink RX2 65 yX2_codeByLengths, Cond.instanceMethod yX2_codeByLengths, Cond.selects RX2 yX2_codeByLengths yX2_codeByLengths, Cond.code yX2_codeByLengths cX2_codeByLengths 6 (some .int)]
def wsL_sole : List Cond := .codeWith yL_sole cL_sole 4 (some .int) [(0, 9, 12, 13)] :: ((wsL_sole_r1 ++ wsL_sole_r2) ++ wsX30 ++ wsX10 ++ wsX20 ++ (vx_atS RX3 113 "java/lang/IndexOutOfBoundsException" ["java/lang/RuntimeException", "java/lang/Exception"]).filter goodWord)
def wsL_node : List Cond := .codeWith yL_node cL_node 5 (some .int) [(0, 10, 13, 13)] :: ([.classLink RL 13 "java/lang/IndexOutOfBoundsException", .methodLink RL 37 yX3_node, .instanceMethod yX3_node, .selects RX3 yX3_node yX3_node, .initialized RX3, .code yX3_node cX3_node 3 (some .int), .fieldLink RX3 12 "CobblerCodes" "shop" "LCobblerCodes$Shop;", .methodLink RX3 19 yX3_requireIndex, .static yX3_requireIndex, .code yX3_requireIndex cX3_requireIndex 2 none, .classLink RX3 109 "java/lang/IndexOutOfBoundsException", .initialized "java/lang/IndexOutOfBoundsException", .instanceMethod yX2_factOfNode, .initialized RX2, .selects RX2 yX2_factOfNode yX2_factOfNode, .code yX2_factOfNode cX2_factOfNode 3 (some .int), .fieldLink RX2 9 "CobblerCodes$Tree" "weight" "[I", .fieldLink RX2 15 "CobblerCodes$Tree" "leaf" "[I", .fieldLink RX2 21 "CobblerCodes$Tree" "above" "[I", .fieldLink RX2 18 "CobblerCodes$Tree" "firstPart" "[I", .static yX3_at, .code yX3_at cX3_at 2 (some .int)] ++ wsX30 ++ wsX10 ++ wsX20 ++ (vx_atS RX3 113 "java/lang/IndexOutOfBoundsException" ["java/lang/RuntimeException", "java/lang/Exception"]).filter goodWord)
def wsL_count_r1 : List Cond := [Cond.classLink RL 13 "java/lang/IndexOutOfBoundsException", Cond.methodLink RL 40 yX3_count, Cond.instanceMethod yX3_count, Cond.selects RX3 yX3_count yX3_count, Cond.initialized RX3, Cond.code yX3_count cX3_count 2 (some .int), Cond.fieldLink RX3 12 "CobblerCodes" "shop" "LCobblerCodes$Shop;", Cond.methodLink RX3 19 yX3_requireIndex, Cond.static yX3_requireIndex, Cond.code yX3_requireIndex cX3_requireIndex 2 none, Cond.classLink RX3 109 "java/lang/IndexOutOfBoundsException", Cond.initialized "java/lang/IndexOutOfBoundsException", Cond.instanceMethod yX1_factOfShop, Cond.initialized RX1, Cond.selects RX1 yX1_factOfShop yX1_factOfShop, Cond.code yX1_factOfShop cX1_factOfShop 2 (some .int), Cond.fieldLink RX1 12 "CobblerCodes$Shop" "tree" "LCobblerCodes$Tree;", Cond.fieldLink RX1 44 "CobblerCodes$Shop" "uses" "I", Cond.fieldLink RX1 47 "CobblerCodes$Shop" "bits" "I", Cond.fieldLink RX1 18 "CobblerCodes$Shop" "limit" "I", Cond.instanceMethod yX2_knownLasts, Cond.initialized RX2, Cond.selects RX2 yX2_knownLasts yX2_knownLasts, Cond.code yX2_knownLasts cX2_knownLasts 1 (some .int)]
def wsL_count_r2 : List Cond := [Cond.fieldLink RX2 40 "CobblerCodes$Tree" "size" "I", Cond.instanceMethod yX2_weightOfRoot, Cond.selects RX2 yX2_weightOfRoot yX2_weightOfRoot, Cond.code yX2_weightOfRoot cX2_weightOfRoot 1 (some .int), Cond.fieldLink RX2 9 "CobblerCodes$Tree" "weight" "[I", Cond.static yX3_at, Cond.code yX3_at cX3_at 2 (some .int)]
def wsL_count : List Cond := .codeWith yL_count cL_count 4 (some .int) [(0, 9, 12, 13)] :: ((wsL_count_r1 ++ wsL_count_r2) ++ wsX30 ++ wsX10 ++ wsX20 ++ (vx_atS RX3 113 "java/lang/IndexOutOfBoundsException" ["java/lang/RuntimeException", "java/lang/Exception"]).filter goodWord)
def wsL_read : List Cond := .codeWith yL_read cL_read 5 (some .int) [(0, 10, 13, 19)] :: ([.classLink RL 19 "java/lang/IllegalArgumentException", .methodLink RL 43 yX3_read, .instanceMethod yX3_read, .selects RX3 yX3_read yX3_read, .initialized RX3, .code yX3_read cX3_read 3 (some .int), .classLink RX3 35 "java/lang/IllegalArgumentException", .initialized "java/lang/IllegalArgumentException", .fieldLink RX3 12 "CobblerCodes" "shop" "LCobblerCodes$Shop;", .instanceMethod yX2_firstWritten, .initialized RX2, .selects RX2 yX2_firstWritten yX2_firstWritten, .code yX2_firstWritten cX2_firstWritten 6 (some .int), .fieldLink RX2 18 "CobblerCodes$Tree" "firstPart" "[I", .fieldLink RX2 15 "CobblerCodes$Tree" "leaf" "[I", .static yX3_at, .code yX3_at cX3_at 2 (some .int)] ++ wsX30 ++ wsX10 ++ wsX20 ++ (vx_atS RX3 39 "java/lang/IllegalArgumentException" ["java/lang/RuntimeException", "java/lang/Exception"]).filter goodWord)
def wsL_would_r1 : List Cond := [Cond.classLink RL 13 "java/lang/IndexOutOfBoundsException", Cond.classLink RL 19 "java/lang/IllegalArgumentException", Cond.methodLink RL 46 yX3_would, Cond.instanceMethod yX3_would, Cond.selects RX3 yX3_would yX3_would, Cond.initialized RX3, Cond.code yX3_would cX3_would 4 (some .int), Cond.fieldLink RX3 16 "CobblerCodes" "trial" "LCobblerCodes$Shop;", Cond.fieldLink RX3 12 "CobblerCodes" "shop" "LCobblerCodes$Shop;", Cond.methodLink RX3 27 yX3_requireRow, Cond.static yX3_requireRow, Cond.code yX3_requireRow cX3_requireRow 3 none, Cond.classLink RX3 35 "java/lang/IllegalArgumentException", Cond.initialized "java/lang/IllegalArgumentException", Cond.methodLink RX3 19 yX3_requireIndex, Cond.static yX3_requireIndex, Cond.code yX3_requireIndex cX3_requireIndex 2 none, Cond.classLink RX3 109 "java/lang/IndexOutOfBoundsException", Cond.initialized "java/lang/IndexOutOfBoundsException", Cond.instanceMethod yX1_startLike, Cond.initialized RX1, Cond.selects RX1 yX1_startLike yX1_startLike, Cond.code yX1_startLike cX1_startLike 2 none, Cond.fieldLink RX1 12 "CobblerCodes$Shop" "tree" "LCobblerCodes$Tree;"]
def wsL_would_r2 : List Cond := [Cond.fieldLink RX1 18 "CobblerCodes$Shop" "limit" "I", Cond.instanceMethod yX2_becomeLike, Cond.initialized RX2, Cond.selects RX2 yX2_becomeLike yX2_becomeLike, Cond.code yX2_becomeLike cX2_becomeLike 2 none, Cond.fieldLink RX2 9 "CobblerCodes$Tree" "weight" "[I", Cond.methodLink RX2 48 arraycopyName, Cond.native arraycopyName, Cond.static arraycopyName, Cond.initialized "java/lang/System", Cond.fieldLink RX2 15 "CobblerCodes$Tree" "leaf" "[I", Cond.fieldLink RX2 18 "CobblerCodes$Tree" "firstPart" "[I", Cond.fieldLink RX2 21 "CobblerCodes$Tree" "above" "[I", Cond.fieldLink RX2 24 "CobblerCodes$Tree" "placeOf" "[I", Cond.fieldLink RX2 40 "CobblerCodes$Tree" "size" "I", Cond.instanceMethod yX1_takeRow, Cond.selects RX1 yX1_takeRow yX1_takeRow, Cond.code yX1_takeRow cX1_takeRow 6 (some .int), Cond.methodLink RX1 57 yX1_takeOne, Cond.instanceMethod yX1_takeOne, Cond.selects RX1 yX1_takeOne yX1_takeOne, Cond.code yX1_takeOne cX1_takeOne 3 (some .int), Cond.fieldLink RX1 44 "CobblerCodes$Shop" "uses" "I", Cond.fieldLink RX1 47 "CobblerCodes$Shop" "bits" "I"]
def wsL_would_r3 : List Cond := [Cond.methodLink RX1 34 yX1_bitsFor, Cond.instanceMethod yX1_bitsFor, Cond.selects RX1 yX1_bitsFor yX1_bitsFor, Cond.code yX1_bitsFor cX1_bitsFor 2 (some .int), Cond.instanceMethod yX2_knows, Cond.selects RX2 yX2_knows yX2_knows, Cond.code yX2_knows cX2_knows 2 (some .boolean), Cond.static yX3_at, Cond.code yX3_at cX3_at 2 (some .int), Cond.instanceMethod yX2_lengthOf, Cond.selects RX2 yX2_lengthOf yX2_lengthOf, Cond.code yX2_lengthOf cX2_lengthOf 4 (some .int), Cond.instanceMethod yX2_learn, Cond.selects RX2 yX2_learn yX2_learn, Cond.code yX2_learn cX2_learn 4 none, Cond.methodLink RX2 44 yX2_putNode, Cond.instanceMethod yX2_putNode, Cond.selects RX2 yX2_putNode yX2_putNode, Cond.code yX2_putNode cX2_putNode 5 none, Cond.static yX3_put, Cond.code yX3_put cX3_put 3 none, Cond.instanceMethod yX2_makeHeavier, Cond.selects RX2 yX2_makeHeavier yX2_makeHeavier, Cond.code yX2_makeHeavier cX2_makeHeavier 5 none]
def wsL_would_r4 : List Cond := [Cond.fieldLink RX2 79 "CobblerCodes$Tree" "exchanges" "I", Cond.methodLink RX2 72 yX2_firstAsHeavyAs, Cond.instanceMethod yX2_firstAsHeavyAs, Cond.selects RX2 yX2_firstAsHeavyAs yX2_firstAsHeavyAs, Cond.code yX2_firstAsHeavyAs cX2_firstAsHeavyAs 4 (some .int), Cond.methodLink RX2 75 yX2_exchange, Cond.instanceMethod yX2_exchange, Cond.selects RX2 yX2_exchange yX2_exchange, Cond.code yX2_exchange cX2_exchange 6 none, Cond.instanceMethod yX2_weightOfRoot, Cond.selects RX2 yX2_weightOfRoot yX2_weightOfRoot, Cond.code yX2_weightOfRoot cX2_weightOfRoot 1 (some .int), Cond.instanceMethod yX2_wearDown, Cond.selects RX2 yX2_wearDown yX2_wearDown, Cond.code yX2_wearDown cX2_wearDown 5 (some .int), Cond.fieldLink RX2 30 "CobblerCodes$Tree" "heap" "LCobblerCodes$Heap;", Cond.fieldLink RX2 93 "CobblerCodes$Tree" "wears" "I", Cond.methodLink RX2 82 yX2_fillHeap, Cond.instanceMethod yX2_fillHeap, Cond.selects RX2 yX2_fillHeap yX2_fillHeap, Cond.code yX2_fillHeap cX2_fillHeap 4 (some .int), Cond.instanceMethod yX0_clear, Cond.initialized RX0, Cond.selects RX0 yX0_clear yX0_clear]
def wsL_would_r5 : List Cond := [Cond.code yX0_clear cX0_clear 1 none, Cond.fieldLink RX0 21 "CobblerCodes$Heap" "size" "I", Cond.instanceMethod yX0_add, Cond.selects RX0 yX0_add yX0_add, Cond.code yX0_add cX0_add 4 none, Cond.fieldLink RX0 9 "CobblerCodes$Heap" "weight" "[I", Cond.fieldLink RX0 15 "CobblerCodes$Heap" "leaf" "[I", Cond.fieldLink RX0 18 "CobblerCodes$Heap" "firstPart" "[I", Cond.methodLink RX2 99 yX2_knows, Cond.methodLink RX2 86 yX2_takeLightest, Cond.instanceMethod yX2_takeLightest, Cond.selects RX2 yX2_takeLightest yX2_takeLightest, Cond.code yX2_takeLightest cX2_takeLightest 4 (some .int), Cond.instanceMethod yX0_lightest, Cond.selects RX0 yX0_lightest yX0_lightest, Cond.code yX0_lightest cX0_lightest 4 (some .int), Cond.instanceMethod yX0_drop, Cond.selects RX0 yX0_drop yX0_drop, Cond.code yX0_drop cX0_drop 2 none]
def wsL_would : List Cond := .codeWith yL_would cL_would 6 (some .int) [(0, 12, 15, 13), (0, 12, 19, 19)] :: ((wsL_would_r1 ++ (wsL_would_r2 ++ (wsL_would_r3 ++ (wsL_would_r4 ++ wsL_would_r5)))) ++ wsX30 ++ wsX10 ++ wsX20 ++ wsX00 ++ (vx_atS RX3 39 "java/lang/IllegalArgumentException" ["java/lang/RuntimeException", "java/lang/Exception"]).filter goodWord ++ (vx_atS RX3 113 "java/lang/IndexOutOfBoundsException" ["java/lang/RuntimeException", "java/lang/Exception"]).filter goodWord)
def wsL_advise_r1 : List Cond := [Cond.classLink RL 13 "java/lang/IndexOutOfBoundsException", Cond.classLink RL 19 "java/lang/IllegalArgumentException", Cond.methodLink RL 49 yX3_advise, Cond.instanceMethod yX3_advise, Cond.selects RX3 yX3_advise yX3_advise, Cond.initialized RX3, Cond.code yX3_advise cX3_advise 11 (some .int), Cond.fieldLink RX3 95 "CobblerCodes" "ADVISED_LIMITS" "[I", Cond.fieldLink RX3 16 "CobblerCodes" "trial" "LCobblerCodes$Shop;", Cond.fieldLink RX3 12 "CobblerCodes" "shop" "LCobblerCodes$Shop;", Cond.methodLink RX3 27 yX3_requireRow, Cond.static yX3_requireRow, Cond.code yX3_requireRow cX3_requireRow 3 none, Cond.classLink RX3 35 "java/lang/IllegalArgumentException", Cond.initialized "java/lang/IllegalArgumentException", Cond.methodLink RX3 19 yX3_requireIndex, Cond.static yX3_requireIndex, Cond.code yX3_requireIndex cX3_requireIndex 2 none, Cond.classLink RX3 109 "java/lang/IndexOutOfBoundsException", Cond.initialized "java/lang/IndexOutOfBoundsException", Cond.instanceMethod yX1_startLike, Cond.initialized RX1, Cond.selects RX1 yX1_startLike yX1_startLike, Cond.code yX1_startLike cX1_startLike 2 none]
def wsL_advise_r2 : List Cond := [Cond.fieldLink RX1 12 "CobblerCodes$Shop" "tree" "LCobblerCodes$Tree;", Cond.fieldLink RX1 18 "CobblerCodes$Shop" "limit" "I", Cond.instanceMethod yX2_becomeLike, Cond.initialized RX2, Cond.selects RX2 yX2_becomeLike yX2_becomeLike, Cond.code yX2_becomeLike cX2_becomeLike 2 none, Cond.fieldLink RX2 9 "CobblerCodes$Tree" "weight" "[I", Cond.methodLink RX2 48 arraycopyName, Cond.native arraycopyName, Cond.static arraycopyName, Cond.initialized "java/lang/System", Cond.fieldLink RX2 15 "CobblerCodes$Tree" "leaf" "[I", Cond.fieldLink RX2 18 "CobblerCodes$Tree" "firstPart" "[I", Cond.fieldLink RX2 21 "CobblerCodes$Tree" "above" "[I", Cond.fieldLink RX2 24 "CobblerCodes$Tree" "placeOf" "[I", Cond.fieldLink RX2 40 "CobblerCodes$Tree" "size" "I", Cond.instanceMethod yX1_takeRow, Cond.selects RX1 yX1_takeRow yX1_takeRow, Cond.code yX1_takeRow cX1_takeRow 6 (some .int), Cond.methodLink RX1 57 yX1_takeOne, Cond.instanceMethod yX1_takeOne, Cond.selects RX1 yX1_takeOne yX1_takeOne, Cond.code yX1_takeOne cX1_takeOne 3 (some .int), Cond.fieldLink RX1 44 "CobblerCodes$Shop" "uses" "I"]
def wsL_advise_r3 : List Cond := [Cond.fieldLink RX1 47 "CobblerCodes$Shop" "bits" "I", Cond.methodLink RX1 34 yX1_bitsFor, Cond.instanceMethod yX1_bitsFor, Cond.selects RX1 yX1_bitsFor yX1_bitsFor, Cond.code yX1_bitsFor cX1_bitsFor 2 (some .int), Cond.instanceMethod yX2_knows, Cond.selects RX2 yX2_knows yX2_knows, Cond.code yX2_knows cX2_knows 2 (some .boolean), Cond.static yX3_at, Cond.code yX3_at cX3_at 2 (some .int), Cond.instanceMethod yX2_lengthOf, Cond.selects RX2 yX2_lengthOf yX2_lengthOf, Cond.code yX2_lengthOf cX2_lengthOf 4 (some .int), Cond.instanceMethod yX2_learn, Cond.selects RX2 yX2_learn yX2_learn, Cond.code yX2_learn cX2_learn 4 none, Cond.methodLink RX2 44 yX2_putNode, Cond.instanceMethod yX2_putNode, Cond.selects RX2 yX2_putNode yX2_putNode, Cond.code yX2_putNode cX2_putNode 5 none, Cond.static yX3_put, Cond.code yX3_put cX3_put 3 none, Cond.instanceMethod yX2_makeHeavier, Cond.selects RX2 yX2_makeHeavier yX2_makeHeavier]
def wsL_advise_r4 : List Cond := [Cond.code yX2_makeHeavier cX2_makeHeavier 5 none, Cond.fieldLink RX2 79 "CobblerCodes$Tree" "exchanges" "I", Cond.methodLink RX2 72 yX2_firstAsHeavyAs, Cond.instanceMethod yX2_firstAsHeavyAs, Cond.selects RX2 yX2_firstAsHeavyAs yX2_firstAsHeavyAs, Cond.code yX2_firstAsHeavyAs cX2_firstAsHeavyAs 4 (some .int), Cond.methodLink RX2 75 yX2_exchange, Cond.instanceMethod yX2_exchange, Cond.selects RX2 yX2_exchange yX2_exchange, Cond.code yX2_exchange cX2_exchange 6 none, Cond.instanceMethod yX2_weightOfRoot, Cond.selects RX2 yX2_weightOfRoot yX2_weightOfRoot, Cond.code yX2_weightOfRoot cX2_weightOfRoot 1 (some .int), Cond.instanceMethod yX2_wearDown, Cond.selects RX2 yX2_wearDown yX2_wearDown, Cond.code yX2_wearDown cX2_wearDown 5 (some .int), Cond.fieldLink RX2 30 "CobblerCodes$Tree" "heap" "LCobblerCodes$Heap;", Cond.fieldLink RX2 93 "CobblerCodes$Tree" "wears" "I", Cond.methodLink RX2 82 yX2_fillHeap, Cond.instanceMethod yX2_fillHeap, Cond.selects RX2 yX2_fillHeap yX2_fillHeap, Cond.code yX2_fillHeap cX2_fillHeap 4 (some .int), Cond.instanceMethod yX0_clear, Cond.initialized RX0]
def wsL_advise_r5 : List Cond := [Cond.selects RX0 yX0_clear yX0_clear, Cond.code yX0_clear cX0_clear 1 none, Cond.fieldLink RX0 21 "CobblerCodes$Heap" "size" "I", Cond.instanceMethod yX0_add, Cond.selects RX0 yX0_add yX0_add, Cond.code yX0_add cX0_add 4 none, Cond.fieldLink RX0 9 "CobblerCodes$Heap" "weight" "[I", Cond.fieldLink RX0 15 "CobblerCodes$Heap" "leaf" "[I", Cond.fieldLink RX0 18 "CobblerCodes$Heap" "firstPart" "[I", Cond.methodLink RX2 99 yX2_knows, Cond.methodLink RX2 86 yX2_takeLightest, Cond.instanceMethod yX2_takeLightest, Cond.selects RX2 yX2_takeLightest yX2_takeLightest, Cond.code yX2_takeLightest cX2_takeLightest 4 (some .int), Cond.instanceMethod yX0_lightest, Cond.selects RX0 yX0_lightest yX0_lightest, Cond.code yX0_lightest cX0_lightest 4 (some .int), Cond.instanceMethod yX0_drop, Cond.selects RX0 yX0_drop yX0_drop, Cond.code yX0_drop cX0_drop 2 none]
def wsL_advise : List Cond := .codeWith yL_advise cL_advise 6 (some .int) [(0, 12, 15, 13), (0, 12, 19, 19)] :: ((wsL_advise_r1 ++ (wsL_advise_r2 ++ (wsL_advise_r3 ++ (wsL_advise_r4 ++ wsL_advise_r5)))) ++ wsX30 ++ wsX10 ++ wsX20 ++ wsX00 ++ (vx_atS RX3 39 "java/lang/IllegalArgumentException" ["java/lang/RuntimeException", "java/lang/Exception"]).filter goodWord ++ (vx_atS RX3 113 "java/lang/IndexOutOfBoundsException" ["java/lang/RuntimeException", "java/lang/Exception"]).filter goodWord)
def wsL_law0_r1 : List Cond := [Cond.classLink RL 8 RX3, Cond.instantiable RX3 2, Cond.initialized RX3, Cond.classLink RL 53 RX4, Cond.instantiable RX4 12, Cond.initialized RX4, Cond.arrayClass .long, Cond.methodLink RL 52 yX3_init, Cond.instanceMethod yX3_init, Cond.code yX3_init cX3_init 1 none, Cond.methodLink RX3 3 objectInit, Cond.instanceMethod objectInit, Cond.code objectInit ⟨#[0xb1]⟩ 1 none, Cond.classLink RX3 9 RX1, Cond.instantiable RX1 4, Cond.initialized RX1, Cond.fieldLink RX3 12 "CobblerCodes" "shop" "LCobblerCodes$Shop;", Cond.fieldLink RX3 16 "CobblerCodes" "trial" "LCobblerCodes$Shop;", Cond.instanceMethod yX1_init, Cond.code yX1_init cX1_init 1 none, Cond.methodLink RX1 3 objectInit, Cond.classLink RX1 9 RX2, Cond.instantiable RX2 9, Cond.initialized RX2]
def wsL_law0_r2 : List Cond := [Cond.fieldLink RX1 12 "CobblerCodes$Shop" "tree" "LCobblerCodes$Tree;", Cond.fieldLink RX1 18 "CobblerCodes$Shop" "limit" "I", Cond.instanceMethod yX2_init, Cond.code yX2_init cX2_init 1 none, Cond.methodLink RX2 3 objectInit, Cond.arrayClass .int, Cond.fieldLink RX2 9 "CobblerCodes$Tree" "weight" "[I", Cond.fieldLink RX2 15 "CobblerCodes$Tree" "leaf" "[I", Cond.fieldLink RX2 18 "CobblerCodes$Tree" "firstPart" "[I", Cond.fieldLink RX2 21 "CobblerCodes$Tree" "above" "[I", Cond.fieldLink RX2 24 "CobblerCodes$Tree" "placeOf" "[I", Cond.classLink RX2 27 RX0, Cond.instantiable RX0 4, Cond.initialized RX0, Cond.fieldLink RX2 30 "CobblerCodes$Tree" "heap" "LCobblerCodes$Heap;", Cond.fieldLink RX2 40 "CobblerCodes$Tree" "size" "I", Cond.instanceMethod yX0_init, Cond.code yX0_init cX0_init 1 none, Cond.methodLink RX0 3 objectInit, Cond.fieldLink RX0 9 "CobblerCodes$Heap" "weight" "[I", Cond.fieldLink RX0 15 "CobblerCodes$Heap" "leaf" "[I", Cond.fieldLink RX0 18 "CobblerCodes$Heap" "firstPart" "[I", Cond.methodLink RX2 34 yJ7_fill_53178, Cond.static yJ7_fill_53178]
def wsL_law0_r3 : List Cond := [Cond.initialized RJ7, Cond.code yJ7_fill_53178 cJ7_fill_53178 4 none, Cond.methodLink RX2 44 yX2_putNode, Cond.instanceMethod yX2_putNode, Cond.selects RX2 yX2_putNode yX2_putNode, Cond.code yX2_putNode cX2_putNode 5 none, Cond.static yX3_put, Cond.code yX3_put cX3_put 3 none, Cond.methodLink RL 55 yX4_init, Cond.instanceMethod yX4_init, Cond.code yX4_init cX4_init 1 none, Cond.methodLink RX4 1 objectInit, Cond.fieldLink RX4 9 "CobblerCodesModel" "weight" "[I", Cond.fieldLink RX4 13 "CobblerCodesModel" "last" "[I", Cond.fieldLink RX4 16 "CobblerCodesModel" "first" "[I", Cond.fieldLink RX4 19 "CobblerCodesModel" "nodes" "I", Cond.fieldLink RX4 23 "CobblerCodesModel" "limit" "I", Cond.fieldLink RX4 26 "CobblerCodesModel" "heap" "[I", Cond.methodLink RX4 29 yX4_set, Cond.instanceMethod yX4_set, Cond.selects RX4 yX4_set yX4_set, Cond.code yX4_set cX4_set 5 none, Cond.methodLink RL 56 yL_use, Cond.static yL_use]
def wsL_law0_r4 : List Cond := [Cond.initialized RL, Cond.codeWith yL_use cL_use 4 (some .int) [(0, 9, 12, 13)], Cond.classLink RL 13 "java/lang/IndexOutOfBoundsException", Cond.methodLink RL 7 yX3_use, Cond.instanceMethod yX3_use, Cond.selects RX3 yX3_use yX3_use, Cond.code yX3_use cX3_use 2 (some .int), Cond.methodLink RX3 19 yX3_requireIndex, Cond.static yX3_requireIndex, Cond.code yX3_requireIndex cX3_requireIndex 2 none, Cond.classLink RX3 109 "java/lang/IndexOutOfBoundsException", Cond.initialized "java/lang/IndexOutOfBoundsException", Cond.instanceMethod yX1_takeOne, Cond.selects RX1 yX1_takeOne yX1_takeOne, Cond.code yX1_takeOne cX1_takeOne 3 (some .int), Cond.fieldLink RX1 44 "CobblerCodes$Shop" "uses" "I", Cond.fieldLink RX1 47 "CobblerCodes$Shop" "bits" "I", Cond.methodLink RX1 34 yX1_bitsFor, Cond.instanceMethod yX1_bitsFor, Cond.selects RX1 yX1_bitsFor yX1_bitsFor, Cond.code yX1_bitsFor cX1_bitsFor 2 (some .int), Cond.instanceMethod yX2_knows, Cond.selects RX2 yX2_knows yX2_knows, Cond.code yX2_knows cX2_knows 2 (some .boolean)]
def wsL_law0_r5 : List Cond := [Cond.static yX3_at, Cond.code yX3_at cX3_at 2 (some .int), Cond.instanceMethod yX2_lengthOf, Cond.selects RX2 yX2_lengthOf yX2_lengthOf, Cond.code yX2_lengthOf cX2_lengthOf 4 (some .int), Cond.instanceMethod yX2_learn, Cond.selects RX2 yX2_learn yX2_learn, Cond.code yX2_learn cX2_learn 4 none, Cond.instanceMethod yX2_makeHeavier, Cond.selects RX2 yX2_makeHeavier yX2_makeHeavier, Cond.code yX2_makeHeavier cX2_makeHeavier 5 none, Cond.fieldLink RX2 79 "CobblerCodes$Tree" "exchanges" "I", Cond.methodLink RX2 72 yX2_firstAsHeavyAs, Cond.instanceMethod yX2_firstAsHeavyAs, Cond.selects RX2 yX2_firstAsHeavyAs yX2_firstAsHeavyAs, Cond.code yX2_firstAsHeavyAs cX2_firstAsHeavyAs 4 (some .int), Cond.methodLink RX2 75 yX2_exchange, Cond.instanceMethod yX2_exchange, Cond.selects RX2 yX2_exchange yX2_exchange, Cond.code yX2_exchange cX2_exchange 6 none, Cond.instanceMethod yX2_weightOfRoot, Cond.selects RX2 yX2_weightOfRoot yX2_weightOfRoot, Cond.code yX2_weightOfRoot cX2_weightOfRoot 1 (some .int), Cond.instanceMethod yX2_wearDown]
def wsL_law0_r6 : List Cond := [Cond.selects RX2 yX2_wearDown yX2_wearDown, Cond.code yX2_wearDown cX2_wearDown 5 (some .int), Cond.fieldLink RX2 93 "CobblerCodes$Tree" "wears" "I", Cond.methodLink RX2 82 yX2_fillHeap, Cond.instanceMethod yX2_fillHeap, Cond.selects RX2 yX2_fillHeap yX2_fillHeap, Cond.code yX2_fillHeap cX2_fillHeap 4 (some .int), Cond.instanceMethod yX0_clear, Cond.selects RX0 yX0_clear yX0_clear, Cond.code yX0_clear cX0_clear 1 none, Cond.fieldLink RX0 21 "CobblerCodes$Heap" "size" "I", Cond.instanceMethod yX0_add, Cond.selects RX0 yX0_add yX0_add, Cond.code yX0_add cX0_add 4 none, Cond.methodLink RX2 99 yX2_knows, Cond.methodLink RX2 86 yX2_takeLightest, Cond.instanceMethod yX2_takeLightest, Cond.selects RX2 yX2_takeLightest yX2_takeLightest, Cond.code yX2_takeLightest cX2_takeLightest 4 (some .int), Cond.instanceMethod yX0_lightest, Cond.selects RX0 yX0_lightest yX0_lightest, Cond.code yX0_lightest cX0_lightest 4 (some .int), Cond.instanceMethod yX0_drop, Cond.selects RX0 yX0_drop yX0_drop]
def wsL_law0_r7 : List Cond := [Cond.code yX0_drop cX0_drop 2 none, Cond.methodLink RL 61 yX4_use, Cond.instanceMethod yX4_use, Cond.selects RX4 yX4_use yX4_use, Cond.code yX4_use cX4_use 2 (some .int), Cond.fieldLink RX4 33 "CobblerCodesModel" "thrown" "I", Cond.methodLink RX4 89 yX4_isLast, Cond.static yX4_isLast, Cond.code yX4_isLast cX4_isLast 1 (some .boolean), Cond.methodLink RX4 36 yX4_isIn, Cond.static yX4_isIn, Cond.code yX4_isIn cX4_isIn 3 (some .boolean), Cond.methodLink RX4 107 yX4_useOne, Cond.instanceMethod yX4_useOne, Cond.selects RX4 yX4_useOne yX4_useOne, Cond.code yX4_useOne cX4_useOne 5 (some .int), Cond.fieldLink RX4 67 "CobblerCodesModel" "uses" "I", Cond.fieldLink RX4 70 "CobblerCodesModel" "bits" "I", Cond.methodLink RX4 53 yX4_bitsOf, Cond.instanceMethod yX4_bitsOf, Cond.selects RX4 yX4_bitsOf yX4_bitsOf, Cond.code yX4_bitsOf cX4_bitsOf 3 (some .int), Cond.methodLink RX4 44 yX4_placeOf, Cond.instanceMethod yX4_placeOf]
def wsL_law0_r8 : List Cond := [Cond.selects RX4 yX4_placeOf yX4_placeOf, Cond.code yX4_placeOf cX4_placeOf 3 (some .int), Cond.methodLink RX4 47 yX4_lengthAt, Cond.instanceMethod yX4_lengthAt, Cond.selects RX4 yX4_lengthAt yX4_lengthAt, Cond.code yX4_lengthAt cX4_lengthAt 4 (some .int), Cond.methodLink RX4 40 yX4_above, Cond.instanceMethod yX4_above, Cond.selects RX4 yX4_above yX4_above, Cond.code yX4_above cX4_above 3 (some .int), Cond.methodLink RX4 56 yX4_add, Cond.instanceMethod yX4_add, Cond.selects RX4 yX4_add yX4_add, Cond.code yX4_add cX4_add 3 none, Cond.methodLink RX4 60 yX4_asHeavy, Cond.instanceMethod yX4_asHeavy, Cond.selects RX4 yX4_asHeavy yX4_asHeavy, Cond.code yX4_asHeavy cX4_asHeavy 3 (some .int), Cond.methodLink RX4 63 yX4_change, Cond.instanceMethod yX4_change, Cond.selects RX4 yX4_change yX4_change, Cond.code yX4_change cX4_change 6 none, Cond.fieldLink RX4 50 "CobblerCodesModel" "changes" "I", Cond.methodLink RX4 73 yX4_wearAll]
def wsL_law0_r9 : List Cond := [Cond.instanceMethod yX4_wearAll, Cond.selects RX4 yX4_wearAll yX4_wearAll, Cond.code yX4_wearAll cX4_wearAll 6 (some .int), Cond.fieldLink RX4 77 "CobblerCodesModel" "heaped" "I", Cond.fieldLink RX4 100 "CobblerCodesModel" "worn" "I", Cond.methodLink RX4 86 yX4_known, Cond.instanceMethod yX4_known, Cond.selects RX4 yX4_known yX4_known, Cond.code yX4_known cX4_known 1 (some .int), Cond.methodLink RX4 93 yX4_push, Cond.instanceMethod yX4_push, Cond.selects RX4 yX4_push yX4_push, Cond.code yX4_push cX4_push 4 none, Cond.methodLink RX4 97 yX4_pull, Cond.instanceMethod yX4_pull, Cond.selects RX4 yX4_pull yX4_pull, Cond.code yX4_pull cX4_pull 4 (some .int), Cond.methodLink RX4 80 arraycopyName, Cond.native arraycopyName, Cond.static arraycopyName, Cond.initialized "java/lang/System", Cond.methodLink RX4 110 yX4_no, Cond.instanceMethod yX4_no, Cond.selects RX4 yX4_no yX4_no]
def wsL_law0_r10 : List Cond := [Cond.code yX4_no cX4_no 2 (some .int), Cond.methodLink RL 62 yX4_thrown, Cond.instanceMethod yX4_thrown, Cond.selects RX4 yX4_thrown yX4_thrown, Cond.code yX4_thrown cX4_thrown 1 (some .int), Cond.methodLink RL 65 yL_useAll, Cond.static yL_useAll, Cond.codeWith yL_useAll cL_useAll 6 (some .int) [(0, 12, 15, 13), (0, 12, 19, 19)], Cond.classLink RL 19 "java/lang/IllegalArgumentException", Cond.methodLink RL 15 yX3_useAll, Cond.instanceMethod yX3_useAll, Cond.selects RX3 yX3_useAll yX3_useAll, Cond.code yX3_useAll cX3_useAll 4 (some .int), Cond.methodLink RX3 27 yX3_requireRow, Cond.static yX3_requireRow, Cond.code yX3_requireRow cX3_requireRow 3 none, Cond.classLink RX3 35 "java/lang/IllegalArgumentException", Cond.initialized "java/lang/IllegalArgumentException", Cond.instanceMethod yX1_takeRow, Cond.selects RX1 yX1_takeRow yX1_takeRow, Cond.code yX1_takeRow cX1_takeRow 6 (some .int), Cond.methodLink RX1 57 yX1_takeOne, Cond.methodLink RL 68 yX4_useAll, Cond.instanceMethod yX4_useAll]
def wsL_law0_r11 : List Cond := [Cond.selects RX4 yX4_useAll yX4_useAll, Cond.code yX4_useAll cX4_useAll 4 (some .int), Cond.methodLink RX4 113 yX4_isRow, Cond.instanceMethod yX4_isRow, Cond.selects RX4 yX4_isRow yX4_isRow, Cond.code yX4_isRow cX4_isRow 4 (some .boolean), Cond.methodLink RX4 116 yX4_row, Cond.instanceMethod yX4_row, Cond.selects RX4 yX4_row yX4_row, Cond.code yX4_row cX4_row 6 (some .int), Cond.methodLink RL 69 yL_setLimit, Cond.static yL_setLimit, Cond.codeWith yL_setLimit cL_setLimit 4 (some .int) [(0, 9, 12, 19)], Cond.methodLink RL 21 yX3_setLimit, Cond.instanceMethod yX3_setLimit, Cond.selects RX3 yX3_setLimit yX3_setLimit, Cond.code yX3_setLimit cX3_setLimit 3 (some .int), Cond.methodLink RL 71 yX4_setLimit, Cond.instanceMethod yX4_setLimit, Cond.selects RX4 yX4_setLimit yX4_setLimit, Cond.code yX4_setLimit cX4_setLimit 3 (some .int), Cond.methodLink RL 72 yL_wear, Cond.static yL_wear, Cond.codeWith yL_wear cL_wear 3 (some .int) [(0, 8, 11, 28)]]
def wsL_law0_r12 : List Cond := [Cond.classLink RL 28 "java/lang/IllegalStateException", Cond.methodLink RL 24 yX3_wear, Cond.instanceMethod yX3_wear, Cond.selects RX3 yX3_wear yX3_wear, Cond.code yX3_wear cX3_wear 1 (some .int), Cond.classLink RX3 56 "java/lang/IllegalStateException", Cond.initialized "java/lang/IllegalStateException", Cond.instanceMethod yX2_knownLasts, Cond.selects RX2 yX2_knownLasts yX2_knownLasts, Cond.code yX2_knownLasts cX2_knownLasts 1 (some .int), Cond.methodLink RL 75 yX4_wear, Cond.instanceMethod yX4_wear, Cond.selects RX4 yX4_wear yX4_wear, Cond.code yX4_wear cX4_wear 1 (some .int), Cond.methodLink RL 76 yL_told, Cond.static yL_told, Cond.codeWith yL_told cL_told 5 (some .int) [(0, 10, 13, 13)], Cond.methodLink RL 30 yX3_told, Cond.instanceMethod yX3_told, Cond.selects RX3 yX3_told yX3_told, Cond.code yX3_told cX3_told 3 (some .int), Cond.instanceMethod yX2_factOfLeaf, Cond.selects RX2 yX2_factOfLeaf yX2_factOfLeaf, Cond.code yX2_factOfLeaf cX2_factOfLeaf 4 (some .int)]
def wsL_law0_r13 : List Cond := [Cond.methodLink RX2 58 yX2_lengthOf, Cond.methodLink RX2 62 yX2_codeOf, Cond.instanceMethod yX2_codeOf, Cond.selects RX2 yX2_codeOf yX2_codeOf, Cond.code yX2_codeOf cX2_codeOf 6 (some .int), Cond.methodLink RX2 65 yX2_codeByLengths, Cond.instanceMethod yX2_codeByLengths, Cond.selects RX2 yX2_codeByLengths yX2_codeByLengths, Cond.code yX2_codeByLengths cX2_codeByLengths 6 (some .int), Cond.methodLink RL 79 yX4_told, Cond.instanceMethod yX4_told, Cond.selects RX4 yX4_told yX4_told, Cond.code yX4_told cX4_told 3 (some .int), Cond.methodLink RX4 129 yX4_lastTold, Cond.instanceMethod yX4_lastTold, Cond.selects RX4 yX4_lastTold yX4_lastTold, Cond.code yX4_lastTold cX4_lastTold 4 (some .int), Cond.methodLink RX4 126 yX4_leafTold, Cond.instanceMethod yX4_leafTold, Cond.selects RX4 yX4_leafTold yX4_leafTold, Cond.code yX4_leafTold cX4_leafTold 4 (some .int), Cond.methodLink RX4 120 yX4_codeAt, Cond.instanceMethod yX4_codeAt, Cond.selects RX4 yX4_codeAt yX4_codeAt]
def wsL_law0_r14 : List Cond := [Cond.code yX4_codeAt cX4_codeAt 6 (some .int), Cond.methodLink RX4 123 yX4_lengthCode, Cond.instanceMethod yX4_lengthCode, Cond.selects RX4 yX4_lengthCode yX4_lengthCode, Cond.code yX4_lengthCode cX4_lengthCode 6 (some .int), Cond.methodLink RX4 103 yX4_nextLeaf, Cond.instanceMethod yX4_nextLeaf, Cond.selects RX4 yX4_nextLeaf yX4_nextLeaf, Cond.code yX4_nextLeaf cX4_nextLeaf 9 (some .int), Cond.methodLink RL 80 yL_sole, Cond.static yL_sole, Cond.codeWith yL_sole cL_sole 4 (some .int) [(0, 9, 12, 13)], Cond.methodLink RL 34 yX3_sole, Cond.instanceMethod yX3_sole, Cond.selects RX3 yX3_sole yX3_sole, Cond.code yX3_sole cX3_sole 2 (some .int), Cond.methodLink RL 82 yX4_sole, Cond.instanceMethod yX4_sole, Cond.selects RX4 yX4_sole yX4_sole, Cond.code yX4_sole cX4_sole 2 (some .int), Cond.methodLink RL 83 yL_node, Cond.static yL_node, Cond.codeWith yL_node cL_node 5 (some .int) [(0, 10, 13, 13)], Cond.methodLink RL 37 yX3_node]
def wsL_law0_r15 : List Cond := [Cond.instanceMethod yX3_node, Cond.selects RX3 yX3_node yX3_node, Cond.code yX3_node cX3_node 3 (some .int), Cond.instanceMethod yX2_factOfNode, Cond.selects RX2 yX2_factOfNode yX2_factOfNode, Cond.code yX2_factOfNode cX2_factOfNode 3 (some .int), Cond.methodLink RL 85 yX4_node, Cond.instanceMethod yX4_node, Cond.selects RX4 yX4_node yX4_node, Cond.code yX4_node cX4_node 3 (some .int), Cond.methodLink RX4 132 yX4_nodeTold, Cond.instanceMethod yX4_nodeTold, Cond.selects RX4 yX4_nodeTold yX4_nodeTold, Cond.code yX4_nodeTold cX4_nodeTold 3 (some .int), Cond.methodLink RL 86 yL_count, Cond.static yL_count, Cond.codeWith yL_count cL_count 4 (some .int) [(0, 9, 12, 13)], Cond.methodLink RL 40 yX3_count, Cond.instanceMethod yX3_count, Cond.selects RX3 yX3_count yX3_count, Cond.code yX3_count cX3_count 2 (some .int), Cond.instanceMethod yX1_factOfShop, Cond.selects RX1 yX1_factOfShop yX1_factOfShop, Cond.code yX1_factOfShop cX1_factOfShop 2 (some .int)]
def wsL_law0_r16 : List Cond := [Cond.methodLink RL 88 yX4_count, Cond.instanceMethod yX4_count, Cond.selects RX4 yX4_count yX4_count, Cond.code yX4_count cX4_count 2 (some .int), Cond.methodLink RX4 135 yX4_counted, Cond.instanceMethod yX4_counted, Cond.selects RX4 yX4_counted yX4_counted, Cond.code yX4_counted cX4_counted 3 (some .int), Cond.methodLink RL 89 yL_read, Cond.static yL_read, Cond.codeWith yL_read cL_read 5 (some .int) [(0, 10, 13, 19)], Cond.methodLink RL 43 yX3_read, Cond.instanceMethod yX3_read, Cond.selects RX3 yX3_read yX3_read, Cond.code yX3_read cX3_read 3 (some .int), Cond.instanceMethod yX2_firstWritten, Cond.selects RX2 yX2_firstWritten yX2_firstWritten, Cond.code yX2_firstWritten cX2_firstWritten 6 (some .int), Cond.methodLink RL 91 yX4_read, Cond.instanceMethod yX4_read, Cond.selects RX4 yX4_read yX4_read, Cond.code yX4_read cX4_read 3 (some .int), Cond.methodLink RX4 138 yX4_readOne, Cond.instanceMethod yX4_readOne]
def wsL_law0_r17 : List Cond := [Cond.selects RX4 yX4_readOne yX4_readOne, Cond.code yX4_readOne cX4_readOne 5 (some .int), Cond.methodLink RL 92 yX3_cheapest, Cond.instanceMethod yX3_cheapest, Cond.selects RX3 yX3_cheapest yX3_cheapest, Cond.code yX3_cheapest cX3_cheapest 3 (some .int), Cond.methodLink RL 95 yX4_cheapest, Cond.instanceMethod yX4_cheapest, Cond.selects RX4 yX4_cheapest yX4_cheapest, Cond.code yX4_cheapest cX4_cheapest 3 (some .int), Cond.methodLink RL 96 yL_would, Cond.static yL_would, Cond.codeWith yL_would cL_would 6 (some .int) [(0, 12, 15, 13), (0, 12, 19, 19)], Cond.methodLink RL 46 yX3_would, Cond.instanceMethod yX3_would, Cond.selects RX3 yX3_would yX3_would, Cond.code yX3_would cX3_would 4 (some .int), Cond.instanceMethod yX1_startLike, Cond.selects RX1 yX1_startLike yX1_startLike, Cond.code yX1_startLike cX1_startLike 2 none, Cond.instanceMethod yX2_becomeLike, Cond.selects RX2 yX2_becomeLike yX2_becomeLike, Cond.code yX2_becomeLike cX2_becomeLike 2 none, Cond.methodLink RX2 48 arraycopyName]
def wsL_law0_r18 : List Cond := [Cond.methodLink RL 98 yX4_would, Cond.instanceMethod yX4_would, Cond.selects RX4 yX4_would yX4_would, Cond.code yX4_would cX4_would 4 (some .int), Cond.methodLink RX4 146 yX4_tried, Cond.instanceMethod yX4_tried, Cond.selects RX4 yX4_tried yX4_tried, Cond.code yX4_tried cX4_tried 8 (some .int), Cond.classLink RX4 141 "[I", Cond.methodLink RX4 142 yX4_copy, Cond.static yX4_copy, Cond.code yX4_copy cX4_copy 2 (some (.array .int)), Cond.methodLink RL 99 yL_advise, Cond.static yL_advise, Cond.codeWith yL_advise cL_advise 6 (some .int) [(0, 12, 15, 13), (0, 12, 19, 19)], Cond.methodLink RL 49 yX3_advise, Cond.instanceMethod yX3_advise, Cond.selects RX3 yX3_advise yX3_advise, Cond.code yX3_advise cX3_advise 11 (some .int), Cond.fieldLink RX3 95 "CobblerCodes" "ADVISED_LIMITS" "[I", Cond.methodLink RL 101 yX4_advise, Cond.instanceMethod yX4_advise, Cond.selects RX4 yX4_advise yX4_advise, Cond.code yX4_advise cX4_advise 4 (some .int)]
def wsL_law0_r19 : List Cond := [Cond.methodLink RX4 150 yX4_bestLimit, Cond.instanceMethod yX4_bestLimit, Cond.selects RX4 yX4_bestLimit yX4_bestLimit, Cond.code yX4_bestLimit cX4_bestLimit 8 (some .int), Cond.methodLink RL 102 yX3_saved, Cond.instanceMethod yX3_saved, Cond.selects RX3 yX3_saved yX3_saved, Cond.code yX3_saved cX3_saved 1 (some .int), Cond.methodLink RL 105 yX4_saved, Cond.instanceMethod yX4_saved, Cond.selects RX4 yX4_saved yX4_saved, Cond.code yX4_saved cX4_saved 1 (some .int), Cond.methodLink RL 106 yX3_mean, Cond.instanceMethod yX3_mean, Cond.selects RX3 yX3_mean yX3_mean, Cond.code yX3_mean cX3_mean 1 (some .double), Cond.methodLink RL 110 yX4_mean, Cond.instanceMethod yX4_mean, Cond.selects RX4 yX4_mean yX4_mean, Cond.code yX4_mean cX4_mean 1 (some .double), Cond.methodLink RL 111 yX3_digest, Cond.instanceMethod yX3_digest, Cond.selects RX3 yX3_digest yX3_digest, Cond.code yX3_digest cX3_digest 6 (some .long)]
def wsL_law0_r20 : List Cond := [Cond.constantLong RX3 105 (1669), Cond.constantLong RX3 107 (31), Cond.methodLink RL 115 yX4_digest, Cond.instanceMethod yX4_digest, Cond.selects RX4 yX4_digest yX4_digest, Cond.code yX4_digest cX4_digest 5 (some .long), Cond.constantLong RX4 153 (1669), Cond.constantLong RX4 155 (31)]
def wsL_law0 : List Cond := (wsL_law0_r1 ++ (wsL_law0_r2 ++ (wsL_law0_r3 ++ (wsL_law0_r4 ++ (wsL_law0_r5 ++ (wsL_law0_r6 ++ (wsL_law0_r7 ++ (wsL_law0_r8 ++ (wsL_law0_r9 ++ (wsL_law0_r10 ++ (wsL_law0_r11 ++ (wsL_law0_r12 ++ (wsL_law0_r13 ++ (wsL_law0_r14 ++ (wsL_law0_r15 ++ (wsL_law0_r16 ++ (wsL_law0_r17 ++ (wsL_law0_r18 ++ (wsL_law0_r19 ++ wsL_law0_r20))))))))))))))))))) ++ wsX30 ++ wsX40 ++ wsX10 ++ wsX20 ++ wsX00 ++ ([] : List Cond)
def wsL_law : List Cond := wsL_law0 ++ (vx_atS RX3 113 "java/lang/IndexOutOfBoundsException" ["java/lang/RuntimeException", "java/lang/Exception"]).filter goodWord ++ (vx_atS RX3 39 "java/lang/IllegalArgumentException" ["java/lang/RuntimeException", "java/lang/Exception"]).filter goodWord ++ (vx_atS RX3 60 "java/lang/IllegalStateException" ["java/lang/RuntimeException", "java/lang/Exception"]).filter goodWord
abbrev vwCl : List vw_C := [(RX0, TX0, 4), (RX1, TX1, 4), (RX2, TX2, 9), (RX3, TX3, 2), (RX4, TX4, 12)]
end
section
theorem dX0_init_0 : decode cX0_init 0 = .ok (.aload_n 0, 1) := by decide +kernel
theorem dX0_init_1 : decode cX0_init 1 = .ok (.invokespecial 3, 3) := by decide +kernel
theorem dX0_init_4 : decode cX0_init 4 = .ok (.aload_n 0, 1) := by decide +kernel
theorem dX0_init_5 : decode cX0_init 5 = .ok (.bipush 65, 2) := by decide +kernel
theorem dX0_init_7 : decode cX0_init 7 = .ok (.newarray .int, 2) := by decide +kernel
theorem dX0_init_9 : decode cX0_init 9 = .ok (.putfield 9, 3) := by decide +kernel
theorem dX0_init_12 : decode cX0_init 12 = .ok (.aload_n 0, 1) := by decide +kernel
theorem dX0_init_13 : decode cX0_init 13 = .ok (.bipush 65, 2) := by decide +kernel
theorem dX0_init_15 : decode cX0_init 15 = .ok (.newarray .int, 2) := by decide +kernel
theorem dX0_init_17 : decode cX0_init 17 = .ok (.putfield 15, 3) := by decide +kernel
theorem dX0_init_20 : decode cX0_init 20 = .ok (.aload_n 0, 1) := by decide +kernel
theorem dX0_init_21 : decode cX0_init 21 = .ok (.bipush 65, 2) := by decide +kernel
theorem dX0_init_23 : decode cX0_init 23 = .ok (.newarray .int, 2) := by decide +kernel
theorem dX0_init_25 : decode cX0_init 25 = .ok (.putfield 18, 3) := by decide +kernel
theorem dX0_init_28 : decode cX0_init 28 = .ok (.return_, 1) := by decide +kernel
theorem dX0_clear_0 : decode cX0_clear 0 = .ok (.aload_n 0, 1) := by decide +kernel
theorem dX0_clear_1 : decode cX0_clear 1 = .ok (.iconst 0, 1) := by decide +kernel
theorem dX0_clear_2 : decode cX0_clear 2 = .ok (.putfield 21, 3) := by decide +kernel
theorem dX0_clear_5 : decode cX0_clear 5 = .ok (.return_, 1) := by decide +kernel
set_option maxRecDepth 20000 in
theorem ggX0_add_X3_put : GoodIn wsX0_add wsX3_put := goodIn_r _ [7] (by decide +kernel) (by decide +kernel)
set_option maxRecDepth 20000 in
theorem gX0_add_X3_put_n25 : GoodIn wsX0_add (wsX3_put) := ggX0_add_X3_put
theorem dX0_add_0 : decode cX0_add 0 = .ok (.aload_n 0, 1) := by decide +kernel
theorem dX0_add_1 : decode cX0_add 1 = .ok (.getfield 9, 3) := by decide +kernel
theorem dX0_add_4 : decode cX0_add 4 = .ok (.aload_n 0, 1) := by decide +kernel
theorem dX0_add_5 : decode cX0_add 5 = .ok (.getfield 21, 3) := by decide +kernel
theorem dX0_add_8 : decode cX0_add 8 = .ok (.iload_n 1, 1) := by decide +kernel
theorem dX0_add_9 : decode cX0_add 9 = .ok (.invokestatic 25, 3) := by decide +kernel
theorem dX0_add_12 : decode cX0_add 12 = .ok (.aload_n 0, 1) := by decide +kernel
theorem dX0_add_13 : decode cX0_add 13 = .ok (.getfield 15, 3) := by decide +kernel
theorem dX0_add_16 : decode cX0_add 16 = .ok (.aload_n 0, 1) := by decide +kernel
theorem dX0_add_17 : decode cX0_add 17 = .ok (.getfield 21, 3) := by decide +kernel
theorem dX0_add_20 : decode cX0_add 20 = .ok (.iload_n 2, 1) := by decide +kernel
theorem dX0_add_21 : decode cX0_add 21 = .ok (.invokestatic 25, 3) := by decide +kernel
theorem dX0_add_24 : decode cX0_add 24 = .ok (.aload_n 0, 1) := by decide +kernel
theorem dX0_add_25 : decode cX0_add 25 = .ok (.getfield 18, 3) := by decide +kernel
theorem dX0_add_28 : decode cX0_add 28 = .ok (.aload_n 0, 1) := by decide +kernel
theorem dX0_add_29 : decode cX0_add 29 = .ok (.getfield 21, 3) := by decide +kernel
theorem dX0_add_32 : decode cX0_add 32 = .ok (.iload_n 3, 1) := by decide +kernel
theorem dX0_add_33 : decode cX0_add 33 = .ok (.invokestatic 25, 3) := by decide +kernel
theorem dX0_add_36 : decode cX0_add 36 = .ok (.aload_n 0, 1) := by decide +kernel
theorem dX0_add_37 : decode cX0_add 37 = .ok (.dup, 1) := by decide +kernel
theorem dX0_add_38 : decode cX0_add 38 = .ok (.getfield 21, 3) := by decide +kernel
theorem dX0_add_41 : decode cX0_add 41 = .ok (.iconst 1, 1) := by decide +kernel
theorem dX0_add_42 : decode cX0_add 42 = .ok (.iadd, 1) := by decide +kernel
theorem dX0_add_43 : decode cX0_add 43 = .ok (.putfield 21, 3) := by decide +kernel
theorem dX0_add_46 : decode cX0_add 46 = .ok (.return_, 1) := by decide +kernel
set_option maxRecDepth 20000 in
theorem ggX0_lightest_X3_at : GoodIn wsX0_lightest wsX3_at := goodIn_r _ [5] (by decide +kernel) (by decide +kernel)
set_option maxRecDepth 20000 in
theorem gX0_lightest_X3_at_n29 : GoodIn wsX0_lightest (wsX3_at) := ggX0_lightest_X3_at
theorem dX0_lightest_0 : decode cX0_lightest 0 = .ok (.iconst (-1), 1) := by decide +kernel
theorem dX0_lightest_1 : decode cX0_lightest 1 = .ok (.istore_n 1, 1) := by decide +kernel
theorem dX0_lightest_2 : decode cX0_lightest 2 = .ok (.iconst 0, 1) := by decide +kernel
theorem dX0_lightest_3 : decode cX0_lightest 3 = .ok (.istore_n 2, 1) := by decide +kernel
theorem dX0_lightest_4 : decode cX0_lightest 4 = .ok (.iload_n 2, 1) := by decide +kernel
theorem dX0_lightest_5 : decode cX0_lightest 5 = .ok (.aload_n 0, 1) := by decide +kernel
theorem dX0_lightest_6 : decode cX0_lightest 6 = .ok (.getfield 21, 3) := by decide +kernel
theorem dX0_lightest_9 : decode cX0_lightest 9 = .ok (.if_icmp .ge 41, 3) := by decide +kernel
theorem dX0_lightest_12 : decode cX0_lightest 12 = .ok (.aload_n 0, 1) := by decide +kernel
theorem dX0_lightest_13 : decode cX0_lightest 13 = .ok (.getfield 9, 3) := by decide +kernel
theorem dX0_lightest_16 : decode cX0_lightest 16 = .ok (.iload_n 2, 1) := by decide +kernel
theorem dX0_lightest_17 : decode cX0_lightest 17 = .ok (.invokestatic 29, 3) := by decide +kernel
theorem dX0_lightest_20 : decode cX0_lightest 20 = .ok (.istore_n 3, 1) := by decide +kernel
theorem dX0_lightest_21 : decode cX0_lightest 21 = .ok (.iload_n 3, 1) := by decide +kernel
theorem dX0_lightest_22 : decode cX0_lightest 22 = .ok (.ifCond .eq 22, 3) := by decide +kernel
theorem dX0_lightest_25 : decode cX0_lightest 25 = .ok (.iload_n 1, 1) := by decide +kernel
theorem dX0_lightest_26 : decode cX0_lightest 26 = .ok (.iconst (-1), 1) := by decide +kernel
theorem dX0_lightest_27 : decode cX0_lightest 27 = .ok (.if_icmp .eq 15, 3) := by decide +kernel
theorem dX0_lightest_30 : decode cX0_lightest 30 = .ok (.iload_n 3, 1) := by decide +kernel
theorem dX0_lightest_31 : decode cX0_lightest 31 = .ok (.aload_n 0, 1) := by decide +kernel
theorem dX0_lightest_32 : decode cX0_lightest 32 = .ok (.getfield 9, 3) := by decide +kernel
theorem dX0_lightest_35 : decode cX0_lightest 35 = .ok (.iload_n 1, 1) := by decide +kernel
theorem dX0_lightest_36 : decode cX0_lightest 36 = .ok (.invokestatic 29, 3) := by decide +kernel
theorem dX0_lightest_39 : decode cX0_lightest 39 = .ok (.if_icmp .ge 5, 3) := by decide +kernel
theorem dX0_lightest_42 : decode cX0_lightest 42 = .ok (.iload_n 2, 1) := by decide +kernel
theorem dX0_lightest_43 : decode cX0_lightest 43 = .ok (.istore_n 1, 1) := by decide +kernel
theorem dX0_lightest_44 : decode cX0_lightest 44 = .ok (.iinc 2 1, 3) := by decide +kernel
theorem dX0_lightest_47 : decode cX0_lightest 47 = .ok (.goto (-43), 3) := by decide +kernel
theorem dX0_lightest_50 : decode cX0_lightest 50 = .ok (.iload_n 1, 1) := by decide +kernel
theorem dX0_lightest_51 : decode cX0_lightest 51 = .ok (.ireturn, 1) := by decide +kernel
set_option maxRecDepth 20000 in
theorem ggX0_drop_X3_put : GoodIn wsX0_drop wsX3_put := goodIn_r _ [4] (by decide +kernel) (by decide +kernel)
set_option maxRecDepth 20000 in
theorem gX0_drop_X3_put_n25 : GoodIn wsX0_drop (wsX3_put) := ggX0_drop_X3_put
theorem dX0_drop_0 : decode cX0_drop 0 = .ok (.aload_n 0, 1) := by decide +kernel
theorem dX0_drop_1 : decode cX0_drop 1 = .ok (.getfield 9, 3) := by decide +kernel
theorem dX0_drop_4 : decode cX0_drop 4 = .ok (.iload_n 1, 1) := by decide +kernel
theorem dX0_drop_5 : decode cX0_drop 5 = .ok (.iconst 0, 1) := by decide +kernel
theorem dX0_drop_6 : decode cX0_drop 6 = .ok (.invokestatic 25, 3) := by decide +kernel
theorem dX0_drop_9 : decode cX0_drop 9 = .ok (.return_, 1) := by decide +kernel
set_option maxRecDepth 20000 in
theorem ggX1_init_X2_init : GoodIn wsX1_init wsX2_init := goodIn_r _ [10, 11, 2, 3, 12, 13, 14, 15, 16, 17, 18, 19, 20, 21, 22, 23, 24, 25, 26, 27, 28, 29, 30, 31, 32, 33, 34, 35, 6, 36, 37, 38, 39, 40, 41, 42, 43, 44, 45, 46, 47, 48, 53, 54, 55, 56] (by decide +kernel) (by decide +kernel)
set_option maxRecDepth 20000 in
theorem gX1_init_X2_init_n11 : GoodIn wsX1_init (wsX2_init) := ggX1_init_X2_init
theorem dX1_init_0 : decode cX1_init 0 = .ok (.aload_n 0, 1) := by decide +kernel
theorem dX1_init_1 : decode cX1_init 1 = .ok (.invokespecial 3, 3) := by decide +kernel
theorem dX1_init_4 : decode cX1_init 4 = .ok (.aload_n 0, 1) := by decide +kernel
theorem dX1_init_5 : decode cX1_init 5 = .ok (.new 9, 3) := by decide +kernel
theorem dX1_init_8 : decode cX1_init 8 = .ok (.dup, 1) := by decide +kernel
theorem dX1_init_9 : decode cX1_init 9 = .ok (.invokespecial 11, 3) := by decide +kernel
theorem dX1_init_12 : decode cX1_init 12 = .ok (.putfield 12, 3) := by decide +kernel
theorem dX1_init_15 : decode cX1_init 15 = .ok (.aload_n 0, 1) := by decide +kernel
theorem dX1_init_16 : decode cX1_init 16 = .ok (.bipush 64, 2) := by decide +kernel
theorem dX1_init_18 : decode cX1_init 18 = .ok (.putfield 18, 3) := by decide +kernel
theorem dX1_init_21 : decode cX1_init 21 = .ok (.return_, 1) := by decide +kernel
set_option maxRecDepth 20000 in
theorem ggX1_startLike_X2_becomeLike : GoodIn wsX1_startLike wsX2_becomeLike := goodIn_r _ [6, 7, 8, 9, 10, 11, 12, 13, 14, 15, 16, 21, 22, 23, 24, 25, 26, 27, 28, 29] (by decide +kernel) (by decide +kernel)
set_option maxRecDepth 20000 in
theorem gX1_startLike_X2_becomeLike_n22 : GoodIn wsX1_startLike (wsX2_becomeLike) := ggX1_startLike_X2_becomeLike
theorem dX1_startLike_0 : decode cX1_startLike 0 = .ok (.aload_n 0, 1) := by decide +kernel
theorem dX1_startLike_1 : decode cX1_startLike 1 = .ok (.getfield 12, 3) := by decide +kernel
theorem dX1_startLike_4 : decode cX1_startLike 4 = .ok (.aload_n 1, 1) := by decide +kernel
theorem dX1_startLike_5 : decode cX1_startLike 5 = .ok (.getfield 12, 3) := by decide +kernel
theorem dX1_startLike_8 : decode cX1_startLike 8 = .ok (.invokevirtual 22, 3) := by decide +kernel
theorem dX1_startLike_11 : decode cX1_startLike 11 = .ok (.aload_n 0, 1) := by decide +kernel
theorem dX1_startLike_12 : decode cX1_startLike 12 = .ok (.aload_n 1, 1) := by decide +kernel
theorem dX1_startLike_13 : decode cX1_startLike 13 = .ok (.getfield 18, 3) := by decide +kernel
theorem dX1_startLike_16 : decode cX1_startLike 16 = .ok (.putfield 18, 3) := by decide +kernel
theorem dX1_startLike_19 : decode cX1_startLike 19 = .ok (.return_, 1) := by decide +kernel
set_option maxRecDepth 20000 in
theorem ggX1_bitsFor_X2_knows : GoodIn wsX1_bitsFor wsX2_knows := goodIn_r _ [5, 6, 7, 8, 9, 18, 19, 20, 21, 22, 23, 24, 25, 26] (by decide +kernel) (by decide +kernel)
set_option maxRecDepth 20000 in
theorem gX1_bitsFor_X2_knows_n26 : GoodIn wsX1_bitsFor (wsX2_knows) := ggX1_bitsFor_X2_knows
set_option maxRecDepth 20000 in
theorem ggX1_bitsFor_X2_lengthOf : GoodIn wsX1_bitsFor wsX2_lengthOf := goodIn_r _ [12, 13, 6, 7, 8, 9, 18, 19, 20, 21, 22, 23, 24, 25, 26] (by decide +kernel) (by decide +kernel)
set_option maxRecDepth 20000 in
theorem gX1_bitsFor_X2_lengthOf_n30 : GoodIn wsX1_bitsFor (wsX2_lengthOf) := ggX1_bitsFor_X2_lengthOf
theorem dX1_bitsFor_0 : decode cX1_bitsFor 0 = .ok (.aload_n 0, 1) := by decide +kernel
theorem dX1_bitsFor_1 : decode cX1_bitsFor 1 = .ok (.getfield 12, 3) := by decide +kernel
theorem dX1_bitsFor_4 : decode cX1_bitsFor 4 = .ok (.iload_n 1, 1) := by decide +kernel
theorem dX1_bitsFor_5 : decode cX1_bitsFor 5 = .ok (.invokevirtual 26, 3) := by decide +kernel
theorem dX1_bitsFor_8 : decode cX1_bitsFor 8 = .ok (.ifCond .eq 14, 3) := by decide +kernel
theorem dX1_bitsFor_11 : decode cX1_bitsFor 11 = .ok (.aload_n 0, 1) := by decide +kernel
theorem dX1_bitsFor_12 : decode cX1_bitsFor 12 = .ok (.getfield 12, 3) := by decide +kernel
theorem dX1_bitsFor_15 : decode cX1_bitsFor 15 = .ok (.iload_n 1, 1) := by decide +kernel
theorem dX1_bitsFor_16 : decode cX1_bitsFor 16 = .ok (.invokevirtual 30, 3) := by decide +kernel
theorem dX1_bitsFor_19 : decode cX1_bitsFor 19 = .ok (.goto 14, 3) := by decide +kernel
theorem dX1_bitsFor_22 : decode cX1_bitsFor 22 = .ok (.aload_n 0, 1) := by decide +kernel
theorem dX1_bitsFor_23 : decode cX1_bitsFor 23 = .ok (.getfield 12, 3) := by decide +kernel
theorem dX1_bitsFor_26 : decode cX1_bitsFor 26 = .ok (.bipush 32, 2) := by decide +kernel
theorem dX1_bitsFor_28 : decode cX1_bitsFor 28 = .ok (.invokevirtual 30, 3) := by decide +kernel
theorem dX1_bitsFor_31 : decode cX1_bitsFor 31 = .ok (.iconst 5, 1) := by decide +kernel
theorem dX1_bitsFor_32 : decode cX1_bitsFor 32 = .ok (.iadd, 1) := by decide +kernel
theorem dX1_bitsFor_33 : decode cX1_bitsFor 33 = .ok (.ireturn, 1) := by decide +kernel
set_option maxRecDepth 20000 in
theorem ggX1_takeOne_X1_bitsFor : GoodIn wsX1_takeOne wsX1_bitsFor := goodIn_r _ [9, 1, 10, 11, 12, 13, 14, 15, 16, 17, 18, 19, 20, 21, 81, 82, 83, 84, 85, 86, 87, 88, 89, 90, 91, 92, 93] (by decide +kernel) (by decide +kernel)
set_option maxRecDepth 20000 in
theorem gX1_takeOne_X1_bitsFor : GoodIn wsX1_takeOne (wsV RX1 34 RX1 yX1_bitsFor wsX1_bitsFor) := goodIn_app (goodIn_of _ (by decide +kernel)) ggX1_takeOne_X1_bitsFor
set_option maxRecDepth 20000 in
theorem ggX1_takeOne_X2_knows : GoodIn wsX1_takeOne wsX2_knows := goodIn_r _ [13, 14, 15, 16, 17, 85, 86, 87, 88, 89, 90, 91, 92, 93] (by decide +kernel) (by decide +kernel)
set_option maxRecDepth 20000 in
theorem gX1_takeOne_X2_knows_n26 : GoodIn wsX1_takeOne (wsX2_knows) := ggX1_takeOne_X2_knows
set_option maxRecDepth 20000 in
theorem ggX1_takeOne_X2_learn : GoodIn wsX1_takeOne wsX2_learn := goodIn_r _ [24, 14, 25, 15, 16, 17, 26, 27, 28, 11, 29, 30, 31, 32, 21, 33, 34, 85, 86, 87, 88, 89, 90, 91, 92, 93] (by decide +kernel) (by decide +kernel)
set_option maxRecDepth 20000 in
theorem gX1_takeOne_X2_learn_n37 : GoodIn wsX1_takeOne (wsX2_learn) := ggX1_takeOne_X2_learn
set_option maxRecDepth 20000 in
theorem ggX1_takeOne_X2_makeHeavier : GoodIn wsX1_takeOne wsX2_makeHeavier := goodIn_r _ [37, 14, 38, 30, 21, 15, 16, 17, 39, 40, 41, 11, 42, 43, 44, 45, 46, 31, 32, 26, 27, 28, 29, 33, 34, 85, 86, 87, 88, 89, 90, 91, 92, 93] (by decide +kernel) (by decide +kernel)
set_option maxRecDepth 20000 in
theorem gX1_takeOne_X2_makeHeavier_n41 : GoodIn wsX1_takeOne (wsX2_makeHeavier) := ggX1_takeOne_X2_makeHeavier
set_option maxRecDepth 20000 in
theorem ggX1_takeOne_X2_weightOfRoot : GoodIn wsX1_takeOne wsX2_weightOfRoot := goodIn_r _ [49, 30, 15, 16, 17, 85, 86, 87, 88, 89, 90, 91, 92, 93] (by decide +kernel) (by decide +kernel)
set_option maxRecDepth 20000 in
theorem gX1_takeOne_X2_weightOfRoot_n50 : GoodIn wsX1_takeOne (wsX2_weightOfRoot) := ggX1_takeOne_X2_weightOfRoot
set_option maxRecDepth 20000 in
theorem ggX1_takeOne_X2_wearDown : GoodIn wsX1_takeOne wsX2_wearDown := goodIn_r _ [52, 25, 53, 54, 55, 56, 57, 11, 58, 30, 14, 59, 60, 61, 62, 63, 64, 65, 66, 67, 68, 69, 33, 16, 34, 70, 10, 12, 13, 15, 17, 71, 72, 73, 74, 75, 76, 77, 26, 27, 28, 29, 31, 32, 21, 78, 79, 80, 85, 86, 87, 88, 89, 90, 91, 92, 93, 94, 95, 96, 97] (by decide +kernel) (by decide +kernel)
set_option maxRecDepth 20000 in
theorem gX1_takeOne_X2_wearDown_n54 : GoodIn wsX1_takeOne (wsX2_wearDown) := ggX1_takeOne_X2_wearDown
theorem dX1_takeOne_0 : decode cX1_takeOne 0 = .ok (.aload_n 0, 1) := by decide +kernel
theorem dX1_takeOne_1 : decode cX1_takeOne 1 = .ok (.iload_n 1, 1) := by decide +kernel
theorem dX1_takeOne_2 : decode cX1_takeOne 2 = .ok (.invokevirtual 34, 3) := by decide +kernel
theorem dX1_takeOne_5 : decode cX1_takeOne 5 = .ok (.istore_n 2, 1) := by decide +kernel
theorem dX1_takeOne_6 : decode cX1_takeOne 6 = .ok (.aload_n 0, 1) := by decide +kernel
theorem dX1_takeOne_7 : decode cX1_takeOne 7 = .ok (.getfield 12, 3) := by decide +kernel
theorem dX1_takeOne_10 : decode cX1_takeOne 10 = .ok (.iload_n 1, 1) := by decide +kernel
theorem dX1_takeOne_11 : decode cX1_takeOne 11 = .ok (.invokevirtual 26, 3) := by decide +kernel
theorem dX1_takeOne_14 : decode cX1_takeOne 14 = .ok (.ifCond .ne 11, 3) := by decide +kernel
theorem dX1_takeOne_17 : decode cX1_takeOne 17 = .ok (.aload_n 0, 1) := by decide +kernel
theorem dX1_takeOne_18 : decode cX1_takeOne 18 = .ok (.getfield 12, 3) := by decide +kernel
theorem dX1_takeOne_21 : decode cX1_takeOne 21 = .ok (.iload_n 1, 1) := by decide +kernel
theorem dX1_takeOne_22 : decode cX1_takeOne 22 = .ok (.invokevirtual 37, 3) := by decide +kernel
theorem dX1_takeOne_25 : decode cX1_takeOne 25 = .ok (.aload_n 0, 1) := by decide +kernel
theorem dX1_takeOne_26 : decode cX1_takeOne 26 = .ok (.getfield 12, 3) := by decide +kernel
theorem dX1_takeOne_29 : decode cX1_takeOne 29 = .ok (.iload_n 1, 1) := by decide +kernel
theorem dX1_takeOne_30 : decode cX1_takeOne 30 = .ok (.invokevirtual 41, 3) := by decide +kernel
theorem dX1_takeOne_33 : decode cX1_takeOne 33 = .ok (.aload_n 0, 1) := by decide +kernel
theorem dX1_takeOne_34 : decode cX1_takeOne 34 = .ok (.dup, 1) := by decide +kernel
theorem dX1_takeOne_35 : decode cX1_takeOne 35 = .ok (.getfield 44, 3) := by decide +kernel
theorem dX1_takeOne_38 : decode cX1_takeOne 38 = .ok (.iconst 1, 1) := by decide +kernel
theorem dX1_takeOne_39 : decode cX1_takeOne 39 = .ok (.iadd, 1) := by decide +kernel
theorem dX1_takeOne_40 : decode cX1_takeOne 40 = .ok (.putfield 44, 3) := by decide +kernel
theorem dX1_takeOne_43 : decode cX1_takeOne 43 = .ok (.aload_n 0, 1) := by decide +kernel
theorem dX1_takeOne_44 : decode cX1_takeOne 44 = .ok (.dup, 1) := by decide +kernel
theorem dX1_takeOne_45 : decode cX1_takeOne 45 = .ok (.getfield 47, 3) := by decide +kernel
theorem dX1_takeOne_48 : decode cX1_takeOne 48 = .ok (.iload_n 2, 1) := by decide +kernel
theorem dX1_takeOne_49 : decode cX1_takeOne 49 = .ok (.iadd, 1) := by decide +kernel
theorem dX1_takeOne_50 : decode cX1_takeOne 50 = .ok (.putfield 47, 3) := by decide +kernel
theorem dX1_takeOne_53 : decode cX1_takeOne 53 = .ok (.aload_n 0, 1) := by decide +kernel
theorem dX1_takeOne_54 : decode cX1_takeOne 54 = .ok (.getfield 12, 3) := by decide +kernel
theorem dX1_takeOne_57 : decode cX1_takeOne 57 = .ok (.invokevirtual 50, 3) := by decide +kernel
theorem dX1_takeOne_60 : decode cX1_takeOne 60 = .ok (.aload_n 0, 1) := by decide +kernel
theorem dX1_takeOne_61 : decode cX1_takeOne 61 = .ok (.getfield 18, 3) := by decide +kernel
theorem dX1_takeOne_64 : decode cX1_takeOne 64 = .ok (.if_icmp .lt 11, 3) := by decide +kernel
theorem dX1_takeOne_67 : decode cX1_takeOne 67 = .ok (.aload_n 0, 1) := by decide +kernel
theorem dX1_takeOne_68 : decode cX1_takeOne 68 = .ok (.getfield 12, 3) := by decide +kernel
theorem dX1_takeOne_71 : decode cX1_takeOne 71 = .ok (.invokevirtual 54, 3) := by decide +kernel
theorem dX1_takeOne_74 : decode cX1_takeOne 74 = .ok (.pop, 1) := by decide +kernel
theorem dX1_takeOne_75 : decode cX1_takeOne 75 = .ok (.iload_n 2, 1) := by decide +kernel
theorem dX1_takeOne_76 : decode cX1_takeOne 76 = .ok (.ireturn, 1) := by decide +kernel
set_option maxRecDepth 20000 in
theorem ggX1_takeRow_X1_takeOne : GoodIn wsX1_takeRow wsX1_takeOne := goodIn_r _ [5, 6, 7, 8, 9, 10, 11, 12, 4, 13, 14, 15, 16, 17, 18, 19, 20, 21, 22, 23, 24, 25, 26, 27, 28, 29, 30, 31, 32, 33, 34, 35, 36, 37, 38, 39, 40, 41, 42, 43, 44, 45, 46, 47, 48, 49, 50, 51, 52, 53, 54, 55, 56, 57, 58, 59, 60, 61, 62, 63, 64, 65, 66, 67, 68, 69, 70, 71, 72, 73, 74, 75, 76, 77, 78, 79, 80, 81, 82, 83, 84, 85, 86, 87, 88, 89, 90, 91, 92, 93, 94, 95, 96, 97, 98, 99, 100, 101] (by decide +kernel) (by decide +kernel)
set_option maxRecDepth 20000 in
theorem gX1_takeRow_X1_takeOne : GoodIn wsX1_takeRow (wsV RX1 57 RX1 yX1_takeOne wsX1_takeOne) := goodIn_app (goodIn_of _ (by decide +kernel)) ggX1_takeRow_X1_takeOne
theorem dX1_takeRow_0 : decode cX1_takeRow 0 = .ok (.iconst 0, 1) := by decide +kernel
theorem dX1_takeRow_1 : decode cX1_takeRow 1 = .ok (.istore 4, 2) := by decide +kernel
theorem dX1_takeRow_3 : decode cX1_takeRow 3 = .ok (.iconst 0, 1) := by decide +kernel
theorem dX1_takeRow_4 : decode cX1_takeRow 4 = .ok (.istore 5, 2) := by decide +kernel
theorem dX1_takeRow_6 : decode cX1_takeRow 6 = .ok (.iload 5, 2) := by decide +kernel
theorem dX1_takeRow_8 : decode cX1_takeRow 8 = .ok (.iload_n 3, 1) := by decide +kernel
theorem dX1_takeRow_9 : decode cX1_takeRow 9 = .ok (.if_icmp .ge 27, 3) := by decide +kernel
theorem dX1_takeRow_12 : decode cX1_takeRow 12 = .ok (.iload 4, 2) := by decide +kernel
theorem dX1_takeRow_14 : decode cX1_takeRow 14 = .ok (.aload_n 0, 1) := by decide +kernel
theorem dX1_takeRow_15 : decode cX1_takeRow 15 = .ok (.iload_n 1, 1) := by decide +kernel
theorem dX1_takeRow_16 : decode cX1_takeRow 16 = .ok (.iload 5, 2) := by decide +kernel
theorem dX1_takeRow_18 : decode cX1_takeRow 18 = .ok (.iload_n 2, 1) := by decide +kernel
theorem dX1_takeRow_19 : decode cX1_takeRow 19 = .ok (.imul, 1) := by decide +kernel
theorem dX1_takeRow_20 : decode cX1_takeRow 20 = .ok (.iadd, 1) := by decide +kernel
theorem dX1_takeRow_21 : decode cX1_takeRow 21 = .ok (.bipush 32, 2) := by decide +kernel
theorem dX1_takeRow_23 : decode cX1_takeRow 23 = .ok (.irem, 1) := by decide +kernel
theorem dX1_takeRow_24 : decode cX1_takeRow 24 = .ok (.invokevirtual 57, 3) := by decide +kernel
theorem dX1_takeRow_27 : decode cX1_takeRow 27 = .ok (.iadd, 1) := by decide +kernel
theorem dX1_takeRow_28 : decode cX1_takeRow 28 = .ok (.istore 4, 2) := by decide +kernel
theorem dX1_takeRow_30 : decode cX1_takeRow 30 = .ok (.iinc 5 1, 3) := by decide +kernel
theorem dX1_takeRow_33 : decode cX1_takeRow 33 = .ok (.goto (-27), 3) := by decide +kernel
theorem dX1_takeRow_36 : decode cX1_takeRow 36 = .ok (.iload 4, 2) := by decide +kernel
theorem dX1_takeRow_38 : decode cX1_takeRow 38 = .ok (.ireturn, 1) := by decide +kernel
set_option maxRecDepth 20000 in
theorem ggX1_factOfShop_X2_knownLasts : GoodIn wsX1_factOfShop wsX2_knownLasts := goodIn_r _ [8, 9, 21, 22, 23, 24, 25, 26, 27, 28, 29] (by decide +kernel) (by decide +kernel)
set_option maxRecDepth 20000 in
theorem gX1_factOfShop_X2_knownLasts_n60 : GoodIn wsX1_factOfShop (wsX2_knownLasts) := ggX1_factOfShop_X2_knownLasts
set_option maxRecDepth 20000 in
theorem ggX1_factOfShop_X2_weightOfRoot : GoodIn wsX1_factOfShop wsX2_weightOfRoot := goodIn_r _ [12, 13, 14, 15, 16, 21, 22, 23, 24, 25, 26, 27, 28, 29] (by decide +kernel) (by decide +kernel)
set_option maxRecDepth 20000 in
theorem gX1_factOfShop_X2_weightOfRoot_n50 : GoodIn wsX1_factOfShop (wsX2_weightOfRoot) := ggX1_factOfShop_X2_weightOfRoot
theorem dX1_factOfShop_0 : decode cX1_factOfShop 0 = .ok (.iload_n 1, 1) := by decide +kernel
theorem dX1_factOfShop_1 : decode cX1_factOfShop 1 = .ok (.tableswitch 93 0 6 #[43, 51, 59, 67, 72, 77, 85], 43) := by decide +kernel
theorem dX1_factOfShop_44 : decode cX1_factOfShop 44 = .ok (.aload_n 0, 1) := by decide +kernel
theorem dX1_factOfShop_45 : decode cX1_factOfShop 45 = .ok (.getfield 12, 3) := by decide +kernel
theorem dX1_factOfShop_48 : decode cX1_factOfShop 48 = .ok (.invokevirtual 60, 3) := by decide +kernel
theorem dX1_factOfShop_51 : decode cX1_factOfShop 51 = .ok (.ireturn, 1) := by decide +kernel
theorem dX1_factOfShop_52 : decode cX1_factOfShop 52 = .ok (.aload_n 0, 1) := by decide +kernel
theorem dX1_factOfShop_53 : decode cX1_factOfShop 53 = .ok (.getfield 12, 3) := by decide +kernel
theorem dX1_factOfShop_56 : decode cX1_factOfShop 56 = .ok (.getfield 63, 3) := by decide +kernel
theorem dX1_factOfShop_59 : decode cX1_factOfShop 59 = .ok (.ireturn, 1) := by decide +kernel
theorem dX1_factOfShop_60 : decode cX1_factOfShop 60 = .ok (.aload_n 0, 1) := by decide +kernel
theorem dX1_factOfShop_61 : decode cX1_factOfShop 61 = .ok (.getfield 12, 3) := by decide +kernel
theorem dX1_factOfShop_64 : decode cX1_factOfShop 64 = .ok (.invokevirtual 50, 3) := by decide +kernel
theorem dX1_factOfShop_67 : decode cX1_factOfShop 67 = .ok (.ireturn, 1) := by decide +kernel
theorem dX1_factOfShop_68 : decode cX1_factOfShop 68 = .ok (.aload_n 0, 1) := by decide +kernel
theorem dX1_factOfShop_69 : decode cX1_factOfShop 69 = .ok (.getfield 44, 3) := by decide +kernel
theorem dX1_factOfShop_72 : decode cX1_factOfShop 72 = .ok (.ireturn, 1) := by decide +kernel
theorem dX1_factOfShop_73 : decode cX1_factOfShop 73 = .ok (.aload_n 0, 1) := by decide +kernel
theorem dX1_factOfShop_74 : decode cX1_factOfShop 74 = .ok (.getfield 47, 3) := by decide +kernel
theorem dX1_factOfShop_77 : decode cX1_factOfShop 77 = .ok (.ireturn, 1) := by decide +kernel
theorem dX1_factOfShop_78 : decode cX1_factOfShop 78 = .ok (.aload_n 0, 1) := by decide +kernel
theorem dX1_factOfShop_79 : decode cX1_factOfShop 79 = .ok (.getfield 12, 3) := by decide +kernel
theorem dX1_factOfShop_82 : decode cX1_factOfShop 82 = .ok (.getfield 66, 3) := by decide +kernel
theorem dX1_factOfShop_85 : decode cX1_factOfShop 85 = .ok (.ireturn, 1) := by decide +kernel
theorem dX1_factOfShop_86 : decode cX1_factOfShop 86 = .ok (.aload_n 0, 1) := by decide +kernel
theorem dX1_factOfShop_87 : decode cX1_factOfShop 87 = .ok (.getfield 12, 3) := by decide +kernel
theorem dX1_factOfShop_90 : decode cX1_factOfShop 90 = .ok (.getfield 69, 3) := by decide +kernel
theorem dX1_factOfShop_93 : decode cX1_factOfShop 93 = .ok (.ireturn, 1) := by decide +kernel
theorem dX1_factOfShop_94 : decode cX1_factOfShop 94 = .ok (.aload_n 0, 1) := by decide +kernel
theorem dX1_factOfShop_95 : decode cX1_factOfShop 95 = .ok (.getfield 18, 3) := by decide +kernel
theorem dX1_factOfShop_98 : decode cX1_factOfShop 98 = .ok (.ireturn, 1) := by decide +kernel
set_option maxRecDepth 20000 in
theorem ggX2_init_X0_init : GoodIn wsX2_init wsX0_init := goodIn_r _ [16, 17, 2, 3, 4, 18, 19, 20, 42, 43, 44, 45] (by decide +kernel) (by decide +kernel)
set_option maxRecDepth 20000 in
theorem gX2_init_X0_init_n29 : GoodIn wsX2_init (wsX0_init) := ggX2_init_X0_init
set_option maxRecDepth 20000 in
theorem ggX2_init_J7_fill_53178 : GoodIn wsX2_init wsJ7_fill_53178 := goodIn_r _ [24] (by decide +kernel) (by decide +kernel)
set_option maxRecDepth 20000 in
theorem gX2_init_J7_fill_53178 : GoodIn wsX2_init (va_wsS RX2 34 yJ7_fill_53178 wsJ7_fill_53178) := goodIn_app (goodIn_of _ (by decide +kernel)) ggX2_init_J7_fill_53178
set_option maxRecDepth 20000 in
theorem ggX2_init_X2_putNode : GoodIn wsX2_init wsX2_putNode := goodIn_r _ [29, 5, 6, 7, 9, 8, 30, 31, 32, 33, 34, 35, 36, 37, 38, 39, 40, 41] (by decide +kernel) (by decide +kernel)
set_option maxRecDepth 20000 in
theorem gX2_init_X2_putNode : GoodIn wsX2_init (wsV RX2 44 RX2 yX2_putNode wsX2_putNode) := goodIn_app (goodIn_of _ (by decide +kernel)) ggX2_init_X2_putNode
theorem dX2_init_0 : decode cX2_init 0 = .ok (.aload_n 0, 1) := by decide +kernel
theorem dX2_init_1 : decode cX2_init 1 = .ok (.invokespecial 3, 3) := by decide +kernel
theorem dX2_init_4 : decode cX2_init 4 = .ok (.aload_n 0, 1) := by decide +kernel
theorem dX2_init_5 : decode cX2_init 5 = .ok (.bipush 65, 2) := by decide +kernel
theorem dX2_init_7 : decode cX2_init 7 = .ok (.newarray .int, 2) := by decide +kernel
theorem dX2_init_9 : decode cX2_init 9 = .ok (.putfield 9, 3) := by decide +kernel
theorem dX2_init_12 : decode cX2_init 12 = .ok (.aload_n 0, 1) := by decide +kernel
theorem dX2_init_13 : decode cX2_init 13 = .ok (.bipush 65, 2) := by decide +kernel
theorem dX2_init_15 : decode cX2_init 15 = .ok (.newarray .int, 2) := by decide +kernel
theorem dX2_init_17 : decode cX2_init 17 = .ok (.putfield 15, 3) := by decide +kernel
theorem dX2_init_20 : decode cX2_init 20 = .ok (.aload_n 0, 1) := by decide +kernel
theorem dX2_init_21 : decode cX2_init 21 = .ok (.bipush 65, 2) := by decide +kernel
theorem dX2_init_23 : decode cX2_init 23 = .ok (.newarray .int, 2) := by decide +kernel
theorem dX2_init_25 : decode cX2_init 25 = .ok (.putfield 18, 3) := by decide +kernel
theorem dX2_init_28 : decode cX2_init 28 = .ok (.aload_n 0, 1) := by decide +kernel
theorem dX2_init_29 : decode cX2_init 29 = .ok (.bipush 65, 2) := by decide +kernel
theorem dX2_init_31 : decode cX2_init 31 = .ok (.newarray .int, 2) := by decide +kernel
theorem dX2_init_33 : decode cX2_init 33 = .ok (.putfield 21, 3) := by decide +kernel
theorem dX2_init_36 : decode cX2_init 36 = .ok (.aload_n 0, 1) := by decide +kernel
theorem dX2_init_37 : decode cX2_init 37 = .ok (.bipush 33, 2) := by decide +kernel
theorem dX2_init_39 : decode cX2_init 39 = .ok (.newarray .int, 2) := by decide +kernel
theorem dX2_init_41 : decode cX2_init 41 = .ok (.putfield 24, 3) := by decide +kernel
theorem dX2_init_44 : decode cX2_init 44 = .ok (.aload_n 0, 1) := by decide +kernel
theorem dX2_init_45 : decode cX2_init 45 = .ok (.new 27, 3) := by decide +kernel
theorem dX2_init_48 : decode cX2_init 48 = .ok (.dup, 1) := by decide +kernel
theorem dX2_init_49 : decode cX2_init 49 = .ok (.invokespecial 29, 3) := by decide +kernel
theorem dX2_init_52 : decode cX2_init 52 = .ok (.putfield 30, 3) := by decide +kernel
theorem dX2_init_55 : decode cX2_init 55 = .ok (.aload_n 0, 1) := by decide +kernel
theorem dX2_init_56 : decode cX2_init 56 = .ok (.getfield 21, 3) := by decide +kernel
theorem dX2_init_59 : decode cX2_init 59 = .ok (.iconst (-1), 1) := by decide +kernel
theorem dX2_init_60 : decode cX2_init 60 = .ok (.invokestatic 34, 3) := by decide +kernel
theorem dX2_init_63 : decode cX2_init 63 = .ok (.aload_n 0, 1) := by decide +kernel
theorem dX2_init_64 : decode cX2_init 64 = .ok (.getfield 24, 3) := by decide +kernel
theorem dX2_init_67 : decode cX2_init 67 = .ok (.iconst (-1), 1) := by decide +kernel
theorem dX2_init_68 : decode cX2_init 68 = .ok (.invokestatic 34, 3) := by decide +kernel
theorem dX2_init_71 : decode cX2_init 71 = .ok (.aload_n 0, 1) := by decide +kernel
theorem dX2_init_72 : decode cX2_init 72 = .ok (.iconst 1, 1) := by decide +kernel
theorem dX2_init_73 : decode cX2_init 73 = .ok (.putfield 40, 3) := by decide +kernel
theorem dX2_init_76 : decode cX2_init 76 = .ok (.aload_n 0, 1) := by decide +kernel
theorem dX2_init_77 : decode cX2_init 77 = .ok (.iconst 0, 1) := by decide +kernel
theorem dX2_init_78 : decode cX2_init 78 = .ok (.iconst 1, 1) := by decide +kernel
theorem dX2_init_79 : decode cX2_init 79 = .ok (.bipush 32, 2) := by decide +kernel
theorem dX2_init_81 : decode cX2_init 81 = .ok (.iconst (-1), 1) := by decide +kernel
theorem dX2_init_82 : decode cX2_init 82 = .ok (.invokevirtual 44, 3) := by decide +kernel
theorem dX2_init_85 : decode cX2_init 85 = .ok (.return_, 1) := by decide +kernel
theorem dX2_becomeLike_0 : decode cX2_becomeLike 0 = .ok (.aload_n 1, 1) := by decide +kernel
theorem dX2_becomeLike_1 : decode cX2_becomeLike 1 = .ok (.getfield 9, 3) := by decide +kernel
theorem dX2_becomeLike_4 : decode cX2_becomeLike 4 = .ok (.iconst 0, 1) := by decide +kernel
theorem dX2_becomeLike_5 : decode cX2_becomeLike 5 = .ok (.aload_n 0, 1) := by decide +kernel
theorem dX2_becomeLike_6 : decode cX2_becomeLike 6 = .ok (.getfield 9, 3) := by decide +kernel
theorem dX2_becomeLike_9 : decode cX2_becomeLike 9 = .ok (.iconst 0, 1) := by decide +kernel
theorem dX2_becomeLike_10 : decode cX2_becomeLike 10 = .ok (.bipush 65, 2) := by decide +kernel
theorem dX2_becomeLike_12 : decode cX2_becomeLike 12 = .ok (.invokestatic 48, 3) := by decide +kernel
theorem dX2_becomeLike_15 : decode cX2_becomeLike 15 = .ok (.aload_n 1, 1) := by decide +kernel
theorem dX2_becomeLike_16 : decode cX2_becomeLike 16 = .ok (.getfield 15, 3) := by decide +kernel
theorem dX2_becomeLike_19 : decode cX2_becomeLike 19 = .ok (.iconst 0, 1) := by decide +kernel
theorem dX2_becomeLike_20 : decode cX2_becomeLike 20 = .ok (.aload_n 0, 1) := by decide +kernel
theorem dX2_becomeLike_21 : decode cX2_becomeLike 21 = .ok (.getfield 15, 3) := by decide +kernel
theorem dX2_becomeLike_24 : decode cX2_becomeLike 24 = .ok (.iconst 0, 1) := by decide +kernel
theorem dX2_becomeLike_25 : decode cX2_becomeLike 25 = .ok (.bipush 65, 2) := by decide +kernel
theorem dX2_becomeLike_27 : decode cX2_becomeLike 27 = .ok (.invokestatic 48, 3) := by decide +kernel
theorem dX2_becomeLike_30 : decode cX2_becomeLike 30 = .ok (.aload_n 1, 1) := by decide +kernel
theorem dX2_becomeLike_31 : decode cX2_becomeLike 31 = .ok (.getfield 18, 3) := by decide +kernel
theorem dX2_becomeLike_34 : decode cX2_becomeLike 34 = .ok (.iconst 0, 1) := by decide +kernel
theorem dX2_becomeLike_35 : decode cX2_becomeLike 35 = .ok (.aload_n 0, 1) := by decide +kernel
theorem dX2_becomeLike_36 : decode cX2_becomeLike 36 = .ok (.getfield 18, 3) := by decide +kernel
theorem dX2_becomeLike_39 : decode cX2_becomeLike 39 = .ok (.iconst 0, 1) := by decide +kernel
theorem dX2_becomeLike_40 : decode cX2_becomeLike 40 = .ok (.bipush 65, 2) := by decide +kernel
theorem dX2_becomeLike_42 : decode cX2_becomeLike 42 = .ok (.invokestatic 48, 3) := by decide +kernel
theorem dX2_becomeLike_45 : decode cX2_becomeLike 45 = .ok (.aload_n 1, 1) := by decide +kernel
theorem dX2_becomeLike_46 : decode cX2_becomeLike 46 = .ok (.getfield 21, 3) := by decide +kernel
theorem dX2_becomeLike_49 : decode cX2_becomeLike 49 = .ok (.iconst 0, 1) := by decide +kernel
theorem dX2_becomeLike_50 : decode cX2_becomeLike 50 = .ok (.aload_n 0, 1) := by decide +kernel
theorem dX2_becomeLike_51 : decode cX2_becomeLike 51 = .ok (.getfield 21, 3) := by decide +kernel
theorem dX2_becomeLike_54 : decode cX2_becomeLike 54 = .ok (.iconst 0, 1) := by decide +kernel
theorem dX2_becomeLike_55 : decode cX2_becomeLike 55 = .ok (.bipush 65, 2) := by decide +kernel
theorem dX2_becomeLike_57 : decode cX2_becomeLike 57 = .ok (.invokestatic 48, 3) := by decide +kernel
theorem dX2_becomeLike_60 : decode cX2_becomeLike 60 = .ok (.aload_n 1, 1) := by decide +kernel
theorem dX2_becomeLike_61 : decode cX2_becomeLike 61 = .ok (.getfield 24, 3) := by decide +kernel
theorem dX2_becomeLike_64 : decode cX2_becomeLike 64 = .ok (.iconst 0, 1) := by decide +kernel
theorem dX2_becomeLike_65 : decode cX2_becomeLike 65 = .ok (.aload_n 0, 1) := by decide +kernel
theorem dX2_becomeLike_66 : decode cX2_becomeLike 66 = .ok (.getfield 24, 3) := by decide +kernel
theorem dX2_becomeLike_69 : decode cX2_becomeLike 69 = .ok (.iconst 0, 1) := by decide +kernel
theorem dX2_becomeLike_70 : decode cX2_becomeLike 70 = .ok (.bipush 33, 2) := by decide +kernel
theorem dX2_becomeLike_72 : decode cX2_becomeLike 72 = .ok (.invokestatic 48, 3) := by decide +kernel
theorem dX2_becomeLike_75 : decode cX2_becomeLike 75 = .ok (.aload_n 0, 1) := by decide +kernel
theorem dX2_becomeLike_76 : decode cX2_becomeLike 76 = .ok (.aload_n 1, 1) := by decide +kernel
theorem dX2_becomeLike_77 : decode cX2_becomeLike 77 = .ok (.getfield 40, 3) := by decide +kernel
theorem dX2_becomeLike_80 : decode cX2_becomeLike 80 = .ok (.putfield 40, 3) := by decide +kernel
theorem dX2_becomeLike_83 : decode cX2_becomeLike 83 = .ok (.return_, 1) := by decide +kernel
set_option maxRecDepth 20000 in
theorem ggX2_knows_X3_at : GoodIn wsX2_knows wsX3_at := goodIn_r _ [4] (by decide +kernel) (by decide +kernel)
set_option maxRecDepth 20000 in
theorem gX2_knows_X3_at_n54 : GoodIn wsX2_knows (wsX3_at) := ggX2_knows_X3_at
theorem dX2_knows_0 : decode cX2_knows 0 = .ok (.aload_n 0, 1) := by decide +kernel
theorem dX2_knows_1 : decode cX2_knows 1 = .ok (.getfield 24, 3) := by decide +kernel
theorem dX2_knows_4 : decode cX2_knows 4 = .ok (.iload_n 1, 1) := by decide +kernel
theorem dX2_knows_5 : decode cX2_knows 5 = .ok (.invokestatic 54, 3) := by decide +kernel
theorem dX2_knows_8 : decode cX2_knows 8 = .ok (.iconst (-1), 1) := by decide +kernel
theorem dX2_knows_9 : decode cX2_knows 9 = .ok (.if_icmp .eq 7, 3) := by decide +kernel
theorem dX2_knows_12 : decode cX2_knows 12 = .ok (.iconst 1, 1) := by decide +kernel
theorem dX2_knows_13 : decode cX2_knows 13 = .ok (.goto 4, 3) := by decide +kernel
theorem dX2_knows_16 : decode cX2_knows 16 = .ok (.iconst 0, 1) := by decide +kernel
theorem dX2_knows_17 : decode cX2_knows 17 = .ok (.ireturn, 1) := by decide +kernel
theorem dX2_knownLasts_0 : decode cX2_knownLasts 0 = .ok (.aload_n 0, 1) := by decide +kernel
theorem dX2_knownLasts_1 : decode cX2_knownLasts 1 = .ok (.getfield 40, 3) := by decide +kernel
theorem dX2_knownLasts_4 : decode cX2_knownLasts 4 = .ok (.iconst 1, 1) := by decide +kernel
theorem dX2_knownLasts_5 : decode cX2_knownLasts 5 = .ok (.isub, 1) := by decide +kernel
theorem dX2_knownLasts_6 : decode cX2_knownLasts 6 = .ok (.iconst 2, 1) := by decide +kernel
theorem dX2_knownLasts_7 : decode cX2_knownLasts 7 = .ok (.idiv, 1) := by decide +kernel
theorem dX2_knownLasts_8 : decode cX2_knownLasts 8 = .ok (.ireturn, 1) := by decide +kernel
set_option maxRecDepth 20000 in
theorem ggX2_weightOfRoot_X3_at : GoodIn wsX2_weightOfRoot wsX3_at := goodIn_r _ [4] (by decide +kernel) (by decide +kernel)
set_option maxRecDepth 20000 in
theorem gX2_weightOfRoot_X3_at_n54 : GoodIn wsX2_weightOfRoot (wsX3_at) := ggX2_weightOfRoot_X3_at
theorem dX2_weightOfRoot_0 : decode cX2_weightOfRoot 0 = .ok (.aload_n 0, 1) := by decide +kernel
theorem dX2_weightOfRoot_1 : decode cX2_weightOfRoot 1 = .ok (.getfield 9, 3) := by decide +kernel
theorem dX2_weightOfRoot_4 : decode cX2_weightOfRoot 4 = .ok (.iconst 0, 1) := by decide +kernel
theorem dX2_weightOfRoot_5 : decode cX2_weightOfRoot 5 = .ok (.invokestatic 54, 3) := by decide +kernel
theorem dX2_weightOfRoot_8 : decode cX2_weightOfRoot 8 = .ok (.ireturn, 1) := by decide +kernel
set_option maxRecDepth 20000 in
theorem ggX2_factOfNode_X3_at : GoodIn wsX2_factOfNode wsX3_at := goodIn_r _ [7] (by decide +kernel) (by decide +kernel)
set_option maxRecDepth 20000 in
theorem gX2_factOfNode_X3_at_n54 : GoodIn wsX2_factOfNode (wsX3_at) := ggX2_factOfNode_X3_at
theorem dX2_factOfNode_0 : decode cX2_factOfNode 0 = .ok (.iload_n 2, 1) := by decide +kernel
theorem dX2_factOfNode_1 : decode cX2_factOfNode 1 = .ok (.tableswitch 54 0 2 #[27, 36, 45], 27) := by decide +kernel
theorem dX2_factOfNode_28 : decode cX2_factOfNode 28 = .ok (.aload_n 0, 1) := by decide +kernel
theorem dX2_factOfNode_29 : decode cX2_factOfNode 29 = .ok (.getfield 9, 3) := by decide +kernel
theorem dX2_factOfNode_32 : decode cX2_factOfNode 32 = .ok (.iload_n 1, 1) := by decide +kernel
theorem dX2_factOfNode_33 : decode cX2_factOfNode 33 = .ok (.invokestatic 54, 3) := by decide +kernel
theorem dX2_factOfNode_36 : decode cX2_factOfNode 36 = .ok (.ireturn, 1) := by decide +kernel
theorem dX2_factOfNode_37 : decode cX2_factOfNode 37 = .ok (.aload_n 0, 1) := by decide +kernel
theorem dX2_factOfNode_38 : decode cX2_factOfNode 38 = .ok (.getfield 15, 3) := by decide +kernel
theorem dX2_factOfNode_41 : decode cX2_factOfNode 41 = .ok (.iload_n 1, 1) := by decide +kernel
theorem dX2_factOfNode_42 : decode cX2_factOfNode 42 = .ok (.invokestatic 54, 3) := by decide +kernel
theorem dX2_factOfNode_45 : decode cX2_factOfNode 45 = .ok (.ireturn, 1) := by decide +kernel
theorem dX2_factOfNode_46 : decode cX2_factOfNode 46 = .ok (.aload_n 0, 1) := by decide +kernel
theorem dX2_factOfNode_47 : decode cX2_factOfNode 47 = .ok (.getfield 21, 3) := by decide +kernel
theorem dX2_factOfNode_50 : decode cX2_factOfNode 50 = .ok (.iload_n 1, 1) := by decide +kernel
theorem dX2_factOfNode_51 : decode cX2_factOfNode 51 = .ok (.invokestatic 54, 3) := by decide +kernel
theorem dX2_factOfNode_54 : decode cX2_factOfNode 54 = .ok (.ireturn, 1) := by decide +kernel
theorem dX2_factOfNode_55 : decode cX2_factOfNode 55 = .ok (.aload_n 0, 1) := by decide +kernel
theorem dX2_factOfNode_56 : decode cX2_factOfNode 56 = .ok (.getfield 18, 3) := by decide +kernel
theorem dX2_factOfNode_59 : decode cX2_factOfNode 59 = .ok (.iload_n 1, 1) := by decide +kernel
theorem dX2_factOfNode_60 : decode cX2_factOfNode 60 = .ok (.invokestatic 54, 3) := by decide +kernel
theorem dX2_factOfNode_63 : decode cX2_factOfNode 63 = .ok (.ireturn, 1) := by decide +kernel
set_option maxRecDepth 20000 in
theorem ggX2_factOfLeaf_X3_at : GoodIn wsX2_factOfLeaf wsX3_at := goodIn_r _ [5] (by decide +kernel) (by decide +kernel)
set_option maxRecDepth 20000 in
theorem gX2_factOfLeaf_X3_at_n54 : GoodIn wsX2_factOfLeaf (wsX3_at) := ggX2_factOfLeaf_X3_at
set_option maxRecDepth 20000 in
theorem ggX2_factOfLeaf_X2_lengthOf : GoodIn wsX2_factOfLeaf wsX2_lengthOf := goodIn_r _ [10, 11, 1, 3, 4, 5, 21, 22, 23, 24, 25, 26, 27, 28, 29] (by decide +kernel) (by decide +kernel)
set_option maxRecDepth 20000 in
theorem gX2_factOfLeaf_X2_lengthOf : GoodIn wsX2_factOfLeaf (wsV RX2 58 RX2 yX2_lengthOf wsX2_lengthOf) := goodIn_app (goodIn_of _ (by decide +kernel)) ggX2_factOfLeaf_X2_lengthOf
set_option maxRecDepth 20000 in
theorem ggX2_factOfLeaf_X2_codeOf : GoodIn wsX2_factOfLeaf wsX2_codeOf := goodIn_r _ [15, 1, 11, 16, 3, 4, 5, 21, 22, 23, 24, 25, 26, 27, 28, 29] (by decide +kernel) (by decide +kernel)
set_option maxRecDepth 20000 in
theorem gX2_factOfLeaf_X2_codeOf : GoodIn wsX2_factOfLeaf (wsV RX2 62 RX2 yX2_codeOf wsX2_codeOf) := goodIn_app (goodIn_of _ (by decide +kernel)) ggX2_factOfLeaf_X2_codeOf
set_option maxRecDepth 20000 in
theorem ggX2_factOfLeaf_X2_codeByLengths : GoodIn wsX2_factOfLeaf wsX2_codeByLengths := goodIn_r _ [20, 1, 6, 7, 8, 9, 10, 11, 3, 4, 5, 21, 22, 23, 24, 25, 26, 27, 28, 29] (by decide +kernel) (by decide +kernel)
set_option maxRecDepth 20000 in
theorem gX2_factOfLeaf_X2_codeByLengths : GoodIn wsX2_factOfLeaf (wsV RX2 65 RX2 yX2_codeByLengths wsX2_codeByLengths) := goodIn_app (goodIn_of _ (by decide +kernel)) ggX2_factOfLeaf_X2_codeByLengths
theorem dX2_factOfLeaf_0 : decode cX2_factOfLeaf 0 = .ok (.aload_n 0, 1) := by decide +kernel
theorem dX2_factOfLeaf_1 : decode cX2_factOfLeaf 1 = .ok (.getfield 24, 3) := by decide +kernel
theorem dX2_factOfLeaf_4 : decode cX2_factOfLeaf 4 = .ok (.iload_n 1, 1) := by decide +kernel
theorem dX2_factOfLeaf_5 : decode cX2_factOfLeaf 5 = .ok (.invokestatic 54, 3) := by decide +kernel
theorem dX2_factOfLeaf_8 : decode cX2_factOfLeaf 8 = .ok (.istore_n 3, 1) := by decide +kernel
theorem dX2_factOfLeaf_9 : decode cX2_factOfLeaf 9 = .ok (.iload_n 3, 1) := by decide +kernel
theorem dX2_factOfLeaf_10 : decode cX2_factOfLeaf 10 = .ok (.iconst (-1), 1) := by decide +kernel
theorem dX2_factOfLeaf_11 : decode cX2_factOfLeaf 11 = .ok (.if_icmp .ne 5, 3) := by decide +kernel
theorem dX2_factOfLeaf_14 : decode cX2_factOfLeaf 14 = .ok (.iconst (-1), 1) := by decide +kernel
theorem dX2_factOfLeaf_15 : decode cX2_factOfLeaf 15 = .ok (.ireturn, 1) := by decide +kernel
theorem dX2_factOfLeaf_16 : decode cX2_factOfLeaf 16 = .ok (.iload_n 2, 1) := by decide +kernel
theorem dX2_factOfLeaf_17 : decode cX2_factOfLeaf 17 = .ok (.tableswitch 58 0 3 #[31, 40, 46, 52], 31) := by decide +kernel
theorem dX2_factOfLeaf_48 : decode cX2_factOfLeaf 48 = .ok (.aload_n 0, 1) := by decide +kernel
theorem dX2_factOfLeaf_49 : decode cX2_factOfLeaf 49 = .ok (.getfield 9, 3) := by decide +kernel
theorem dX2_factOfLeaf_52 : decode cX2_factOfLeaf 52 = .ok (.iload_n 3, 1) := by decide +kernel
theorem dX2_factOfLeaf_53 : decode cX2_factOfLeaf 53 = .ok (.invokestatic 54, 3) := by decide +kernel
theorem dX2_factOfLeaf_56 : decode cX2_factOfLeaf 56 = .ok (.ireturn, 1) := by decide +kernel
theorem dX2_factOfLeaf_57 : decode cX2_factOfLeaf 57 = .ok (.aload_n 0, 1) := by decide +kernel
theorem dX2_factOfLeaf_58 : decode cX2_factOfLeaf 58 = .ok (.iload_n 1, 1) := by decide +kernel
theorem dX2_factOfLeaf_59 : decode cX2_factOfLeaf 59 = .ok (.invokevirtual 58, 3) := by decide +kernel
theorem dX2_factOfLeaf_62 : decode cX2_factOfLeaf 62 = .ok (.ireturn, 1) := by decide +kernel
theorem dX2_factOfLeaf_63 : decode cX2_factOfLeaf 63 = .ok (.aload_n 0, 1) := by decide +kernel
theorem dX2_factOfLeaf_64 : decode cX2_factOfLeaf 64 = .ok (.iload_n 1, 1) := by decide +kernel
theorem dX2_factOfLeaf_65 : decode cX2_factOfLeaf 65 = .ok (.invokevirtual 62, 3) := by decide +kernel
theorem dX2_factOfLeaf_68 : decode cX2_factOfLeaf 68 = .ok (.ireturn, 1) := by decide +kernel
theorem dX2_factOfLeaf_69 : decode cX2_factOfLeaf 69 = .ok (.aload_n 0, 1) := by decide +kernel
theorem dX2_factOfLeaf_70 : decode cX2_factOfLeaf 70 = .ok (.iload_n 1, 1) := by decide +kernel
theorem dX2_factOfLeaf_71 : decode cX2_factOfLeaf 71 = .ok (.invokevirtual 65, 3) := by decide +kernel
theorem dX2_factOfLeaf_74 : decode cX2_factOfLeaf 74 = .ok (.ireturn, 1) := by decide +kernel
theorem dX2_factOfLeaf_75 : decode cX2_factOfLeaf 75 = .ok (.iload_n 3, 1) := by decide +kernel
theorem dX2_factOfLeaf_76 : decode cX2_factOfLeaf 76 = .ok (.ireturn, 1) := by decide +kernel
set_option maxRecDepth 20000 in
theorem ggX2_lengthOf_X3_at : GoodIn wsX2_lengthOf wsX3_at := goodIn_r _ [5] (by decide +kernel) (by decide +kernel)
set_option maxRecDepth 20000 in
theorem gX2_lengthOf_X3_at_n54 : GoodIn wsX2_lengthOf (wsX3_at) := ggX2_lengthOf_X3_at
theorem dX2_lengthOf_0 : decode cX2_lengthOf 0 = .ok (.iconst 0, 1) := by decide +kernel
theorem dX2_lengthOf_1 : decode cX2_lengthOf 1 = .ok (.istore_n 2, 1) := by decide +kernel
theorem dX2_lengthOf_2 : decode cX2_lengthOf 2 = .ok (.aload_n 0, 1) := by decide +kernel
theorem dX2_lengthOf_3 : decode cX2_lengthOf 3 = .ok (.getfield 21, 3) := by decide +kernel
theorem dX2_lengthOf_6 : decode cX2_lengthOf 6 = .ok (.aload_n 0, 1) := by decide +kernel
theorem dX2_lengthOf_7 : decode cX2_lengthOf 7 = .ok (.getfield 24, 3) := by decide +kernel
theorem dX2_lengthOf_10 : decode cX2_lengthOf 10 = .ok (.iload_n 1, 1) := by decide +kernel
theorem dX2_lengthOf_11 : decode cX2_lengthOf 11 = .ok (.invokestatic 54, 3) := by decide +kernel
theorem dX2_lengthOf_14 : decode cX2_lengthOf 14 = .ok (.invokestatic 54, 3) := by decide +kernel
theorem dX2_lengthOf_17 : decode cX2_lengthOf 17 = .ok (.istore_n 3, 1) := by decide +kernel
theorem dX2_lengthOf_18 : decode cX2_lengthOf 18 = .ok (.iload_n 3, 1) := by decide +kernel
theorem dX2_lengthOf_19 : decode cX2_lengthOf 19 = .ok (.iconst (-1), 1) := by decide +kernel
theorem dX2_lengthOf_20 : decode cX2_lengthOf 20 = .ok (.if_icmp .eq 24, 3) := by decide +kernel
theorem dX2_lengthOf_23 : decode cX2_lengthOf 23 = .ok (.iload_n 2, 1) := by decide +kernel
theorem dX2_lengthOf_24 : decode cX2_lengthOf 24 = .ok (.bipush 65, 2) := by decide +kernel
theorem dX2_lengthOf_26 : decode cX2_lengthOf 26 = .ok (.if_icmp .ge 18, 3) := by decide +kernel
theorem dX2_lengthOf_29 : decode cX2_lengthOf 29 = .ok (.iinc 2 1, 3) := by decide +kernel
theorem dX2_lengthOf_32 : decode cX2_lengthOf 32 = .ok (.aload_n 0, 1) := by decide +kernel
theorem dX2_lengthOf_33 : decode cX2_lengthOf 33 = .ok (.getfield 21, 3) := by decide +kernel
theorem dX2_lengthOf_36 : decode cX2_lengthOf 36 = .ok (.iload_n 3, 1) := by decide +kernel
theorem dX2_lengthOf_37 : decode cX2_lengthOf 37 = .ok (.invokestatic 54, 3) := by decide +kernel
theorem dX2_lengthOf_40 : decode cX2_lengthOf 40 = .ok (.istore_n 3, 1) := by decide +kernel
theorem dX2_lengthOf_41 : decode cX2_lengthOf 41 = .ok (.goto (-23), 3) := by decide +kernel
theorem dX2_lengthOf_44 : decode cX2_lengthOf 44 = .ok (.iload_n 2, 1) := by decide +kernel
theorem dX2_lengthOf_45 : decode cX2_lengthOf 45 = .ok (.ireturn, 1) := by decide +kernel
set_option maxRecDepth 20000 in
theorem ggX2_codeOf_X3_at : GoodIn wsX2_codeOf wsX3_at := goodIn_r _ [6] (by decide +kernel) (by decide +kernel)
set_option maxRecDepth 20000 in
theorem gX2_codeOf_X3_at_n54 : GoodIn wsX2_codeOf (wsX3_at) := ggX2_codeOf_X3_at
theorem dX2_codeOf_0 : decode cX2_codeOf 0 = .ok (.iconst 0, 1) := by decide +kernel
theorem dX2_codeOf_1 : decode cX2_codeOf 1 = .ok (.istore_n 2, 1) := by decide +kernel
theorem dX2_codeOf_2 : decode cX2_codeOf 2 = .ok (.aload_n 0, 1) := by decide +kernel
theorem dX2_codeOf_3 : decode cX2_codeOf 3 = .ok (.getfield 24, 3) := by decide +kernel
theorem dX2_codeOf_6 : decode cX2_codeOf 6 = .ok (.iload_n 1, 1) := by decide +kernel
theorem dX2_codeOf_7 : decode cX2_codeOf 7 = .ok (.invokestatic 54, 3) := by decide +kernel
theorem dX2_codeOf_10 : decode cX2_codeOf 10 = .ok (.istore_n 3, 1) := by decide +kernel
theorem dX2_codeOf_11 : decode cX2_codeOf 11 = .ok (.aload_n 0, 1) := by decide +kernel
theorem dX2_codeOf_12 : decode cX2_codeOf 12 = .ok (.getfield 21, 3) := by decide +kernel
theorem dX2_codeOf_15 : decode cX2_codeOf 15 = .ok (.iload_n 3, 1) := by decide +kernel
theorem dX2_codeOf_16 : decode cX2_codeOf 16 = .ok (.invokestatic 54, 3) := by decide +kernel
theorem dX2_codeOf_19 : decode cX2_codeOf 19 = .ok (.istore 4, 2) := by decide +kernel
theorem dX2_codeOf_21 : decode cX2_codeOf 21 = .ok (.iconst 0, 1) := by decide +kernel
theorem dX2_codeOf_22 : decode cX2_codeOf 22 = .ok (.istore 5, 2) := by decide +kernel
theorem dX2_codeOf_24 : decode cX2_codeOf 24 = .ok (.iload 4, 2) := by decide +kernel
theorem dX2_codeOf_26 : decode cX2_codeOf 26 = .ok (.iconst (-1), 1) := by decide +kernel
theorem dX2_codeOf_27 : decode cX2_codeOf 27 = .ok (.if_icmp .eq 49, 3) := by decide +kernel
theorem dX2_codeOf_30 : decode cX2_codeOf 30 = .ok (.iload 5, 2) := by decide +kernel
theorem dX2_codeOf_32 : decode cX2_codeOf 32 = .ok (.bipush 65, 2) := by decide +kernel
theorem dX2_codeOf_34 : decode cX2_codeOf 34 = .ok (.if_icmp .ge 42, 3) := by decide +kernel
theorem dX2_codeOf_37 : decode cX2_codeOf 37 = .ok (.iload_n 3, 1) := by decide +kernel
theorem dX2_codeOf_38 : decode cX2_codeOf 38 = .ok (.aload_n 0, 1) := by decide +kernel
theorem dX2_codeOf_39 : decode cX2_codeOf 39 = .ok (.getfield 18, 3) := by decide +kernel
theorem dX2_codeOf_42 : decode cX2_codeOf 42 = .ok (.iload 4, 2) := by decide +kernel
theorem dX2_codeOf_44 : decode cX2_codeOf 44 = .ok (.invokestatic 54, 3) := by decide +kernel
theorem dX2_codeOf_47 : decode cX2_codeOf 47 = .ok (.if_icmp .eq 10, 3) := by decide +kernel
theorem dX2_codeOf_50 : decode cX2_codeOf 50 = .ok (.iload_n 2, 1) := by decide +kernel
theorem dX2_codeOf_51 : decode cX2_codeOf 51 = .ok (.iconst 1, 1) := by decide +kernel
theorem dX2_codeOf_52 : decode cX2_codeOf 52 = .ok (.iload 5, 2) := by decide +kernel
theorem dX2_codeOf_54 : decode cX2_codeOf 54 = .ok (.ishl, 1) := by decide +kernel
theorem dX2_codeOf_55 : decode cX2_codeOf 55 = .ok (.ior, 1) := by decide +kernel
theorem dX2_codeOf_56 : decode cX2_codeOf 56 = .ok (.istore_n 2, 1) := by decide +kernel
theorem dX2_codeOf_57 : decode cX2_codeOf 57 = .ok (.iload 4, 2) := by decide +kernel
theorem dX2_codeOf_59 : decode cX2_codeOf 59 = .ok (.istore_n 3, 1) := by decide +kernel
theorem dX2_codeOf_60 : decode cX2_codeOf 60 = .ok (.aload_n 0, 1) := by decide +kernel
theorem dX2_codeOf_61 : decode cX2_codeOf 61 = .ok (.getfield 21, 3) := by decide +kernel
theorem dX2_codeOf_64 : decode cX2_codeOf 64 = .ok (.iload_n 3, 1) := by decide +kernel
theorem dX2_codeOf_65 : decode cX2_codeOf 65 = .ok (.invokestatic 54, 3) := by decide +kernel
theorem dX2_codeOf_68 : decode cX2_codeOf 68 = .ok (.istore 4, 2) := by decide +kernel
theorem dX2_codeOf_70 : decode cX2_codeOf 70 = .ok (.iinc 5 1, 3) := by decide +kernel
theorem dX2_codeOf_73 : decode cX2_codeOf 73 = .ok (.goto (-49), 3) := by decide +kernel
theorem dX2_codeOf_76 : decode cX2_codeOf 76 = .ok (.iload_n 2, 1) := by decide +kernel
theorem dX2_codeOf_77 : decode cX2_codeOf 77 = .ok (.ireturn, 1) := by decide +kernel
set_option maxRecDepth 20000 in
theorem ggX2_codeByLengths_X2_lengthOf : GoodIn wsX2_codeByLengths wsX2_lengthOf := goodIn_r _ [6, 7, 1, 8, 9, 10, 11, 12, 13, 14, 15, 16, 17, 18, 19] (by decide +kernel) (by decide +kernel)
set_option maxRecDepth 20000 in
theorem gX2_codeByLengths_X2_lengthOf : GoodIn wsX2_codeByLengths (wsV RX2 58 RX2 yX2_lengthOf wsX2_lengthOf) := goodIn_app (goodIn_of _ (by decide +kernel)) ggX2_codeByLengths_X2_lengthOf
set_option maxRecDepth 20000 in
theorem ggX2_codeByLengths_X3_at : GoodIn wsX2_codeByLengths wsX3_at := goodIn_r _ [10] (by decide +kernel) (by decide +kernel)
set_option maxRecDepth 20000 in
theorem gX2_codeByLengths_X3_at_n54 : GoodIn wsX2_codeByLengths (wsX3_at) := ggX2_codeByLengths_X3_at
theorem dX2_codeByLengths_0 : decode cX2_codeByLengths 0 = .ok (.iconst 0, 1) := by decide +kernel
theorem dX2_codeByLengths_1 : decode cX2_codeByLengths 1 = .ok (.istore_n 2, 1) := by decide +kernel
theorem dX2_codeByLengths_2 : decode cX2_codeByLengths 2 = .ok (.aload_n 0, 1) := by decide +kernel
theorem dX2_codeByLengths_3 : decode cX2_codeByLengths 3 = .ok (.iload_n 1, 1) := by decide +kernel
theorem dX2_codeByLengths_4 : decode cX2_codeByLengths 4 = .ok (.invokevirtual 58, 3) := by decide +kernel
theorem dX2_codeByLengths_7 : decode cX2_codeByLengths 7 = .ok (.istore_n 3, 1) := by decide +kernel
theorem dX2_codeByLengths_8 : decode cX2_codeByLengths 8 = .ok (.iconst 0, 1) := by decide +kernel
theorem dX2_codeByLengths_9 : decode cX2_codeByLengths 9 = .ok (.istore 4, 2) := by decide +kernel
theorem dX2_codeByLengths_11 : decode cX2_codeByLengths 11 = .ok (.iload 4, 2) := by decide +kernel
theorem dX2_codeByLengths_13 : decode cX2_codeByLengths 13 = .ok (.bipush 33, 2) := by decide +kernel
theorem dX2_codeByLengths_15 : decode cX2_codeByLengths 15 = .ok (.if_icmp .ge 55, 3) := by decide +kernel
theorem dX2_codeByLengths_18 : decode cX2_codeByLengths 18 = .ok (.aload_n 0, 1) := by decide +kernel
theorem dX2_codeByLengths_19 : decode cX2_codeByLengths 19 = .ok (.getfield 24, 3) := by decide +kernel
theorem dX2_codeByLengths_22 : decode cX2_codeByLengths 22 = .ok (.iload 4, 2) := by decide +kernel
theorem dX2_codeByLengths_24 : decode cX2_codeByLengths 24 = .ok (.invokestatic 54, 3) := by decide +kernel
theorem dX2_codeByLengths_27 : decode cX2_codeByLengths 27 = .ok (.iconst (-1), 1) := by decide +kernel
theorem dX2_codeByLengths_28 : decode cX2_codeByLengths 28 = .ok (.if_icmp .eq 36, 3) := by decide +kernel
theorem dX2_codeByLengths_31 : decode cX2_codeByLengths 31 = .ok (.iload_n 3, 1) := by decide +kernel
theorem dX2_codeByLengths_32 : decode cX2_codeByLengths 32 = .ok (.aload_n 0, 1) := by decide +kernel
theorem dX2_codeByLengths_33 : decode cX2_codeByLengths 33 = .ok (.iload 4, 2) := by decide +kernel
theorem dX2_codeByLengths_35 : decode cX2_codeByLengths 35 = .ok (.invokevirtual 58, 3) := by decide +kernel
theorem dX2_codeByLengths_38 : decode cX2_codeByLengths 38 = .ok (.isub, 1) := by decide +kernel
theorem dX2_codeByLengths_39 : decode cX2_codeByLengths 39 = .ok (.istore 5, 2) := by decide +kernel
theorem dX2_codeByLengths_41 : decode cX2_codeByLengths 41 = .ok (.iload 5, 2) := by decide +kernel
theorem dX2_codeByLengths_43 : decode cX2_codeByLengths 43 = .ok (.ifCond .gt 14, 3) := by decide +kernel
theorem dX2_codeByLengths_46 : decode cX2_codeByLengths 46 = .ok (.iload 5, 2) := by decide +kernel
theorem dX2_codeByLengths_48 : decode cX2_codeByLengths 48 = .ok (.ifCond .ne 16, 3) := by decide +kernel
theorem dX2_codeByLengths_51 : decode cX2_codeByLengths 51 = .ok (.iload 4, 2) := by decide +kernel
theorem dX2_codeByLengths_53 : decode cX2_codeByLengths 53 = .ok (.iload_n 1, 1) := by decide +kernel
theorem dX2_codeByLengths_54 : decode cX2_codeByLengths 54 = .ok (.if_icmp .ge 10, 3) := by decide +kernel
theorem dX2_codeByLengths_57 : decode cX2_codeByLengths 57 = .ok (.iload_n 2, 1) := by decide +kernel
theorem dX2_codeByLengths_58 : decode cX2_codeByLengths 58 = .ok (.iconst 1, 1) := by decide +kernel
theorem dX2_codeByLengths_59 : decode cX2_codeByLengths 59 = .ok (.iload 5, 2) := by decide +kernel
theorem dX2_codeByLengths_61 : decode cX2_codeByLengths 61 = .ok (.ishl, 1) := by decide +kernel
theorem dX2_codeByLengths_62 : decode cX2_codeByLengths 62 = .ok (.iadd, 1) := by decide +kernel
theorem dX2_codeByLengths_63 : decode cX2_codeByLengths 63 = .ok (.istore_n 2, 1) := by decide +kernel
theorem dX2_codeByLengths_64 : decode cX2_codeByLengths 64 = .ok (.iinc 4 1, 3) := by decide +kernel
theorem dX2_codeByLengths_67 : decode cX2_codeByLengths 67 = .ok (.goto (-56), 3) := by decide +kernel
theorem dX2_codeByLengths_70 : decode cX2_codeByLengths 70 = .ok (.iload_n 2, 1) := by decide +kernel
theorem dX2_codeByLengths_71 : decode cX2_codeByLengths 71 = .ok (.ireturn, 1) := by decide +kernel
set_option maxRecDepth 20000 in
theorem ggX2_firstWritten_X3_at : GoodIn wsX2_firstWritten wsX3_at := goodIn_r _ [5] (by decide +kernel) (by decide +kernel)
set_option maxRecDepth 20000 in
theorem gX2_firstWritten_X3_at_n54 : GoodIn wsX2_firstWritten (wsX3_at) := ggX2_firstWritten_X3_at
theorem dX2_firstWritten_0 : decode cX2_firstWritten 0 = .ok (.iconst 0, 1) := by decide +kernel
theorem dX2_firstWritten_1 : decode cX2_firstWritten 1 = .ok (.istore_n 3, 1) := by decide +kernel
theorem dX2_firstWritten_2 : decode cX2_firstWritten 2 = .ok (.iload_n 2, 1) := by decide +kernel
theorem dX2_firstWritten_3 : decode cX2_firstWritten 3 = .ok (.istore 4, 2) := by decide +kernel
theorem dX2_firstWritten_5 : decode cX2_firstWritten 5 = .ok (.iload 4, 2) := by decide +kernel
theorem dX2_firstWritten_7 : decode cX2_firstWritten 7 = .ok (.ifCond .le 37, 3) := by decide +kernel
theorem dX2_firstWritten_10 : decode cX2_firstWritten 10 = .ok (.aload_n 0, 1) := by decide +kernel
theorem dX2_firstWritten_11 : decode cX2_firstWritten 11 = .ok (.getfield 18, 3) := by decide +kernel
theorem dX2_firstWritten_14 : decode cX2_firstWritten 14 = .ok (.iload_n 3, 1) := by decide +kernel
theorem dX2_firstWritten_15 : decode cX2_firstWritten 15 = .ok (.invokestatic 54, 3) := by decide +kernel
theorem dX2_firstWritten_18 : decode cX2_firstWritten 18 = .ok (.iconst (-1), 1) := by decide +kernel
theorem dX2_firstWritten_19 : decode cX2_firstWritten 19 = .ok (.if_icmp .eq 25, 3) := by decide +kernel
theorem dX2_firstWritten_22 : decode cX2_firstWritten 22 = .ok (.iinc 4 (-1), 3) := by decide +kernel
theorem dX2_firstWritten_25 : decode cX2_firstWritten 25 = .ok (.aload_n 0, 1) := by decide +kernel
theorem dX2_firstWritten_26 : decode cX2_firstWritten 26 = .ok (.getfield 18, 3) := by decide +kernel
theorem dX2_firstWritten_29 : decode cX2_firstWritten 29 = .ok (.iload_n 3, 1) := by decide +kernel
theorem dX2_firstWritten_30 : decode cX2_firstWritten 30 = .ok (.invokestatic 54, 3) := by decide +kernel
theorem dX2_firstWritten_33 : decode cX2_firstWritten 33 = .ok (.iload_n 1, 1) := by decide +kernel
theorem dX2_firstWritten_34 : decode cX2_firstWritten 34 = .ok (.iload 4, 2) := by decide +kernel
theorem dX2_firstWritten_36 : decode cX2_firstWritten 36 = .ok (.ishr, 1) := by decide +kernel
theorem dX2_firstWritten_37 : decode cX2_firstWritten 37 = .ok (.iconst 1, 1) := by decide +kernel
theorem dX2_firstWritten_38 : decode cX2_firstWritten 38 = .ok (.iand, 1) := by decide +kernel
theorem dX2_firstWritten_39 : decode cX2_firstWritten 39 = .ok (.iadd, 1) := by decide +kernel
theorem dX2_firstWritten_40 : decode cX2_firstWritten 40 = .ok (.istore_n 3, 1) := by decide +kernel
theorem dX2_firstWritten_41 : decode cX2_firstWritten 41 = .ok (.goto (-36), 3) := by decide +kernel
theorem dX2_firstWritten_44 : decode cX2_firstWritten 44 = .ok (.aload_n 0, 1) := by decide +kernel
theorem dX2_firstWritten_45 : decode cX2_firstWritten 45 = .ok (.getfield 15, 3) := by decide +kernel
theorem dX2_firstWritten_48 : decode cX2_firstWritten 48 = .ok (.iload_n 3, 1) := by decide +kernel
theorem dX2_firstWritten_49 : decode cX2_firstWritten 49 = .ok (.invokestatic 54, 3) := by decide +kernel
theorem dX2_firstWritten_52 : decode cX2_firstWritten 52 = .ok (.istore 5, 2) := by decide +kernel
theorem dX2_firstWritten_54 : decode cX2_firstWritten 54 = .ok (.iload 5, 2) := by decide +kernel
theorem dX2_firstWritten_56 : decode cX2_firstWritten 56 = .ok (.bipush 32, 2) := by decide +kernel
theorem dX2_firstWritten_58 : decode cX2_firstWritten 58 = .ok (.if_icmp .eq 6, 3) := by decide +kernel
theorem dX2_firstWritten_61 : decode cX2_firstWritten 61 = .ok (.iload 5, 2) := by decide +kernel
theorem dX2_firstWritten_63 : decode cX2_firstWritten 63 = .ok (.ireturn, 1) := by decide +kernel
theorem dX2_firstWritten_64 : decode cX2_firstWritten 64 = .ok (.iload 4, 2) := by decide +kernel
theorem dX2_firstWritten_66 : decode cX2_firstWritten 66 = .ok (.iconst 5, 1) := by decide +kernel
theorem dX2_firstWritten_67 : decode cX2_firstWritten 67 = .ok (.if_icmp .ge 5, 3) := by decide +kernel
theorem dX2_firstWritten_70 : decode cX2_firstWritten 70 = .ok (.iconst (-1), 1) := by decide +kernel
theorem dX2_firstWritten_71 : decode cX2_firstWritten 71 = .ok (.ireturn, 1) := by decide +kernel
theorem dX2_firstWritten_72 : decode cX2_firstWritten 72 = .ok (.bipush 100, 2) := by decide +kernel
theorem dX2_firstWritten_74 : decode cX2_firstWritten 74 = .ok (.iload_n 1, 1) := by decide +kernel
theorem dX2_firstWritten_75 : decode cX2_firstWritten 75 = .ok (.iload 4, 2) := by decide +kernel
theorem dX2_firstWritten_77 : decode cX2_firstWritten 77 = .ok (.iconst 5, 1) := by decide +kernel
theorem dX2_firstWritten_78 : decode cX2_firstWritten 78 = .ok (.isub, 1) := by decide +kernel
theorem dX2_firstWritten_79 : decode cX2_firstWritten 79 = .ok (.ishr, 1) := by decide +kernel
theorem dX2_firstWritten_80 : decode cX2_firstWritten 80 = .ok (.bipush 31, 2) := by decide +kernel
theorem dX2_firstWritten_82 : decode cX2_firstWritten 82 = .ok (.iand, 1) := by decide +kernel
theorem dX2_firstWritten_83 : decode cX2_firstWritten 83 = .ok (.iadd, 1) := by decide +kernel
theorem dX2_firstWritten_84 : decode cX2_firstWritten 84 = .ok (.ireturn, 1) := by decide +kernel
set_option maxRecDepth 20000 in
theorem ggX2_putNode_X3_put : GoodIn wsX2_putNode wsX3_put := goodIn_r _ [8] (by decide +kernel) (by decide +kernel)
set_option maxRecDepth 20000 in
theorem gX2_putNode_X3_put_n68 : GoodIn wsX2_putNode (wsX3_put) := ggX2_putNode_X3_put
theorem dX2_putNode_0 : decode cX2_putNode 0 = .ok (.aload_n 0, 1) := by decide +kernel
theorem dX2_putNode_1 : decode cX2_putNode 1 = .ok (.getfield 9, 3) := by decide +kernel
theorem dX2_putNode_4 : decode cX2_putNode 4 = .ok (.iload_n 1, 1) := by decide +kernel
theorem dX2_putNode_5 : decode cX2_putNode 5 = .ok (.iload_n 2, 1) := by decide +kernel
theorem dX2_putNode_6 : decode cX2_putNode 6 = .ok (.invokestatic 68, 3) := by decide +kernel
theorem dX2_putNode_9 : decode cX2_putNode 9 = .ok (.aload_n 0, 1) := by decide +kernel
theorem dX2_putNode_10 : decode cX2_putNode 10 = .ok (.getfield 15, 3) := by decide +kernel
theorem dX2_putNode_13 : decode cX2_putNode 13 = .ok (.iload_n 1, 1) := by decide +kernel
theorem dX2_putNode_14 : decode cX2_putNode 14 = .ok (.iload_n 3, 1) := by decide +kernel
theorem dX2_putNode_15 : decode cX2_putNode 15 = .ok (.invokestatic 68, 3) := by decide +kernel
theorem dX2_putNode_18 : decode cX2_putNode 18 = .ok (.aload_n 0, 1) := by decide +kernel
theorem dX2_putNode_19 : decode cX2_putNode 19 = .ok (.getfield 18, 3) := by decide +kernel
theorem dX2_putNode_22 : decode cX2_putNode 22 = .ok (.iload_n 1, 1) := by decide +kernel
theorem dX2_putNode_23 : decode cX2_putNode 23 = .ok (.iload 4, 2) := by decide +kernel
theorem dX2_putNode_25 : decode cX2_putNode 25 = .ok (.invokestatic 68, 3) := by decide +kernel
theorem dX2_putNode_28 : decode cX2_putNode 28 = .ok (.iload 4, 2) := by decide +kernel
theorem dX2_putNode_30 : decode cX2_putNode 30 = .ok (.iconst (-1), 1) := by decide +kernel
theorem dX2_putNode_31 : decode cX2_putNode 31 = .ok (.if_icmp .ne 15, 3) := by decide +kernel
theorem dX2_putNode_34 : decode cX2_putNode 34 = .ok (.aload_n 0, 1) := by decide +kernel
theorem dX2_putNode_35 : decode cX2_putNode 35 = .ok (.getfield 24, 3) := by decide +kernel
theorem dX2_putNode_38 : decode cX2_putNode 38 = .ok (.iload_n 3, 1) := by decide +kernel
theorem dX2_putNode_39 : decode cX2_putNode 39 = .ok (.iload_n 1, 1) := by decide +kernel
theorem dX2_putNode_40 : decode cX2_putNode 40 = .ok (.invokestatic 68, 3) := by decide +kernel
theorem dX2_putNode_43 : decode cX2_putNode 43 = .ok (.goto 25, 3) := by decide +kernel
theorem dX2_putNode_46 : decode cX2_putNode 46 = .ok (.aload_n 0, 1) := by decide +kernel
theorem dX2_putNode_47 : decode cX2_putNode 47 = .ok (.getfield 21, 3) := by decide +kernel
theorem dX2_putNode_50 : decode cX2_putNode 50 = .ok (.iload 4, 2) := by decide +kernel
theorem dX2_putNode_52 : decode cX2_putNode 52 = .ok (.iload_n 1, 1) := by decide +kernel
theorem dX2_putNode_53 : decode cX2_putNode 53 = .ok (.invokestatic 68, 3) := by decide +kernel
theorem dX2_putNode_56 : decode cX2_putNode 56 = .ok (.aload_n 0, 1) := by decide +kernel
theorem dX2_putNode_57 : decode cX2_putNode 57 = .ok (.getfield 21, 3) := by decide +kernel
theorem dX2_putNode_60 : decode cX2_putNode 60 = .ok (.iload 4, 2) := by decide +kernel
theorem dX2_putNode_62 : decode cX2_putNode 62 = .ok (.iconst 1, 1) := by decide +kernel
theorem dX2_putNode_63 : decode cX2_putNode 63 = .ok (.iadd, 1) := by decide +kernel
theorem dX2_putNode_64 : decode cX2_putNode 64 = .ok (.iload_n 1, 1) := by decide +kernel
theorem dX2_putNode_65 : decode cX2_putNode 65 = .ok (.invokestatic 68, 3) := by decide +kernel
theorem dX2_putNode_68 : decode cX2_putNode 68 = .ok (.return_, 1) := by decide +kernel
set_option maxRecDepth 20000 in
theorem ggX2_learn_X3_at : GoodIn wsX2_learn wsX3_at := goodIn_r _ [5] (by decide +kernel) (by decide +kernel)
set_option maxRecDepth 20000 in
theorem gX2_learn_X3_at_n54 : GoodIn wsX2_learn (wsX3_at) := ggX2_learn_X3_at
set_option maxRecDepth 20000 in
theorem ggX2_learn_X2_putNode : GoodIn wsX2_learn wsX2_putNode := goodIn_r _ [10, 11, 12, 13, 1, 14, 15, 4, 16, 17, 18, 19, 20, 21, 22, 23, 24, 25] (by decide +kernel) (by decide +kernel)
set_option maxRecDepth 20000 in
theorem gX2_learn_X2_putNode : GoodIn wsX2_learn (wsV RX2 44 RX2 yX2_putNode wsX2_putNode) := goodIn_app (goodIn_of _ (by decide +kernel)) ggX2_learn_X2_putNode
theorem dX2_learn_0 : decode cX2_learn 0 = .ok (.aload_n 0, 1) := by decide +kernel
theorem dX2_learn_1 : decode cX2_learn 1 = .ok (.getfield 24, 3) := by decide +kernel
theorem dX2_learn_4 : decode cX2_learn 4 = .ok (.bipush 32, 2) := by decide +kernel
theorem dX2_learn_6 : decode cX2_learn 6 = .ok (.invokestatic 54, 3) := by decide +kernel
theorem dX2_learn_9 : decode cX2_learn 9 = .ok (.istore_n 2, 1) := by decide +kernel
theorem dX2_learn_10 : decode cX2_learn 10 = .ok (.aload_n 0, 1) := by decide +kernel
theorem dX2_learn_11 : decode cX2_learn 11 = .ok (.getfield 40, 3) := by decide +kernel
theorem dX2_learn_14 : decode cX2_learn 14 = .ok (.istore_n 3, 1) := by decide +kernel
theorem dX2_learn_15 : decode cX2_learn 15 = .ok (.aload_n 0, 1) := by decide +kernel
theorem dX2_learn_16 : decode cX2_learn 16 = .ok (.dup, 1) := by decide +kernel
theorem dX2_learn_17 : decode cX2_learn 17 = .ok (.getfield 40, 3) := by decide +kernel
theorem dX2_learn_20 : decode cX2_learn 20 = .ok (.iconst 2, 1) := by decide +kernel
theorem dX2_learn_21 : decode cX2_learn 21 = .ok (.iadd, 1) := by decide +kernel
theorem dX2_learn_22 : decode cX2_learn 22 = .ok (.putfield 40, 3) := by decide +kernel
theorem dX2_learn_25 : decode cX2_learn 25 = .ok (.aload_n 0, 1) := by decide +kernel
theorem dX2_learn_26 : decode cX2_learn 26 = .ok (.iload_n 2, 1) := by decide +kernel
theorem dX2_learn_27 : decode cX2_learn 27 = .ok (.iconst 1, 1) := by decide +kernel
theorem dX2_learn_28 : decode cX2_learn 28 = .ok (.iconst (-1), 1) := by decide +kernel
theorem dX2_learn_29 : decode cX2_learn 29 = .ok (.iload_n 3, 1) := by decide +kernel
theorem dX2_learn_30 : decode cX2_learn 30 = .ok (.invokevirtual 44, 3) := by decide +kernel
theorem dX2_learn_33 : decode cX2_learn 33 = .ok (.aload_n 0, 1) := by decide +kernel
theorem dX2_learn_34 : decode cX2_learn 34 = .ok (.iload_n 3, 1) := by decide +kernel
theorem dX2_learn_35 : decode cX2_learn 35 = .ok (.iconst 1, 1) := by decide +kernel
theorem dX2_learn_36 : decode cX2_learn 36 = .ok (.bipush 32, 2) := by decide +kernel
theorem dX2_learn_38 : decode cX2_learn 38 = .ok (.iconst (-1), 1) := by decide +kernel
theorem dX2_learn_39 : decode cX2_learn 39 = .ok (.invokevirtual 44, 3) := by decide +kernel
theorem dX2_learn_42 : decode cX2_learn 42 = .ok (.aload_n 0, 1) := by decide +kernel
theorem dX2_learn_43 : decode cX2_learn 43 = .ok (.iload_n 3, 1) := by decide +kernel
theorem dX2_learn_44 : decode cX2_learn 44 = .ok (.iconst 1, 1) := by decide +kernel
theorem dX2_learn_45 : decode cX2_learn 45 = .ok (.iadd, 1) := by decide +kernel
theorem dX2_learn_46 : decode cX2_learn 46 = .ok (.iconst 0, 1) := by decide +kernel
theorem dX2_learn_47 : decode cX2_learn 47 = .ok (.iload_n 1, 1) := by decide +kernel
theorem dX2_learn_48 : decode cX2_learn 48 = .ok (.iconst (-1), 1) := by decide +kernel
theorem dX2_learn_49 : decode cX2_learn 49 = .ok (.invokevirtual 44, 3) := by decide +kernel
theorem dX2_learn_52 : decode cX2_learn 52 = .ok (.return_, 1) := by decide +kernel
set_option maxRecDepth 20000 in
theorem ggX2_makeHeavier_X3_at : GoodIn wsX2_makeHeavier wsX3_at := goodIn_r _ [7] (by decide +kernel) (by decide +kernel)
set_option maxRecDepth 20000 in
theorem gX2_makeHeavier_X3_at_n54 : GoodIn wsX2_makeHeavier (wsX3_at) := ggX2_makeHeavier_X3_at
set_option maxRecDepth 20000 in
theorem ggX2_makeHeavier_X2_firstAsHeavyAs : GoodIn wsX2_makeHeavier wsX2_firstAsHeavyAs := goodIn_r _ [12, 3, 5, 6, 7, 25, 26, 27, 28, 29, 30, 31, 32, 33] (by decide +kernel) (by decide +kernel)
set_option maxRecDepth 20000 in
theorem gX2_makeHeavier_X2_firstAsHeavyAs : GoodIn wsX2_makeHeavier (wsV RX2 72 RX2 yX2_firstAsHeavyAs wsX2_firstAsHeavyAs) := goodIn_app (goodIn_of _ (by decide +kernel)) ggX2_makeHeavier_X2_firstAsHeavyAs
set_option maxRecDepth 20000 in
theorem ggX2_makeHeavier_X2_exchange : GoodIn wsX2_makeHeavier wsX2_exchange := goodIn_r _ [16, 3, 17, 18, 5, 6, 7, 19, 20, 21, 11, 22, 1, 4, 23, 24, 25, 26, 27, 28, 29, 30, 31, 32, 33] (by decide +kernel) (by decide +kernel)
set_option maxRecDepth 20000 in
theorem gX2_makeHeavier_X2_exchange : GoodIn wsX2_makeHeavier (wsV RX2 75 RX2 yX2_exchange wsX2_exchange) := goodIn_app (goodIn_of _ (by decide +kernel)) ggX2_makeHeavier_X2_exchange
set_option maxRecDepth 20000 in
theorem ggX2_makeHeavier_X3_put : GoodIn wsX2_makeHeavier wsX3_put := goodIn_r _ [24] (by decide +kernel) (by decide +kernel)
set_option maxRecDepth 20000 in
theorem gX2_makeHeavier_X3_put_n68 : GoodIn wsX2_makeHeavier (wsX3_put) := ggX2_makeHeavier_X3_put
theorem dX2_makeHeavier_0 : decode cX2_makeHeavier 0 = .ok (.aload_n 0, 1) := by decide +kernel
theorem dX2_makeHeavier_1 : decode cX2_makeHeavier 1 = .ok (.getfield 24, 3) := by decide +kernel
theorem dX2_makeHeavier_4 : decode cX2_makeHeavier 4 = .ok (.iload_n 1, 1) := by decide +kernel
theorem dX2_makeHeavier_5 : decode cX2_makeHeavier 5 = .ok (.invokestatic 54, 3) := by decide +kernel
theorem dX2_makeHeavier_8 : decode cX2_makeHeavier 8 = .ok (.istore_n 2, 1) := by decide +kernel
theorem dX2_makeHeavier_9 : decode cX2_makeHeavier 9 = .ok (.iconst 0, 1) := by decide +kernel
theorem dX2_makeHeavier_10 : decode cX2_makeHeavier 10 = .ok (.istore_n 3, 1) := by decide +kernel
theorem dX2_makeHeavier_11 : decode cX2_makeHeavier 11 = .ok (.iload_n 2, 1) := by decide +kernel
theorem dX2_makeHeavier_12 : decode cX2_makeHeavier 12 = .ok (.iconst (-1), 1) := by decide +kernel
theorem dX2_makeHeavier_13 : decode cX2_makeHeavier 13 = .ok (.if_icmp .eq 75, 3) := by decide +kernel
theorem dX2_makeHeavier_16 : decode cX2_makeHeavier 16 = .ok (.iload_n 3, 1) := by decide +kernel
theorem dX2_makeHeavier_17 : decode cX2_makeHeavier 17 = .ok (.bipush 65, 2) := by decide +kernel
theorem dX2_makeHeavier_19 : decode cX2_makeHeavier 19 = .ok (.if_icmp .ge 69, 3) := by decide +kernel
theorem dX2_makeHeavier_22 : decode cX2_makeHeavier 22 = .ok (.aload_n 0, 1) := by decide +kernel
theorem dX2_makeHeavier_23 : decode cX2_makeHeavier 23 = .ok (.iload_n 2, 1) := by decide +kernel
theorem dX2_makeHeavier_24 : decode cX2_makeHeavier 24 = .ok (.invokevirtual 72, 3) := by decide +kernel
theorem dX2_makeHeavier_27 : decode cX2_makeHeavier 27 = .ok (.istore 4, 2) := by decide +kernel
theorem dX2_makeHeavier_29 : decode cX2_makeHeavier 29 = .ok (.iload 4, 2) := by decide +kernel
theorem dX2_makeHeavier_31 : decode cX2_makeHeavier 31 = .ok (.iload_n 2, 1) := by decide +kernel
theorem dX2_makeHeavier_32 : decode cX2_makeHeavier 32 = .ok (.if_icmp .eq 20, 3) := by decide +kernel
theorem dX2_makeHeavier_35 : decode cX2_makeHeavier 35 = .ok (.aload_n 0, 1) := by decide +kernel
theorem dX2_makeHeavier_36 : decode cX2_makeHeavier 36 = .ok (.iload_n 2, 1) := by decide +kernel
theorem dX2_makeHeavier_37 : decode cX2_makeHeavier 37 = .ok (.iload 4, 2) := by decide +kernel
theorem dX2_makeHeavier_39 : decode cX2_makeHeavier 39 = .ok (.invokevirtual 75, 3) := by decide +kernel
theorem dX2_makeHeavier_42 : decode cX2_makeHeavier 42 = .ok (.aload_n 0, 1) := by decide +kernel
theorem dX2_makeHeavier_43 : decode cX2_makeHeavier 43 = .ok (.dup, 1) := by decide +kernel
theorem dX2_makeHeavier_44 : decode cX2_makeHeavier 44 = .ok (.getfield 79, 3) := by decide +kernel
theorem dX2_makeHeavier_47 : decode cX2_makeHeavier 47 = .ok (.iconst 1, 1) := by decide +kernel
theorem dX2_makeHeavier_48 : decode cX2_makeHeavier 48 = .ok (.iadd, 1) := by decide +kernel
theorem dX2_makeHeavier_49 : decode cX2_makeHeavier 49 = .ok (.putfield 79, 3) := by decide +kernel
theorem dX2_makeHeavier_52 : decode cX2_makeHeavier 52 = .ok (.aload_n 0, 1) := by decide +kernel
theorem dX2_makeHeavier_53 : decode cX2_makeHeavier 53 = .ok (.getfield 9, 3) := by decide +kernel
theorem dX2_makeHeavier_56 : decode cX2_makeHeavier 56 = .ok (.iload 4, 2) := by decide +kernel
theorem dX2_makeHeavier_58 : decode cX2_makeHeavier 58 = .ok (.aload_n 0, 1) := by decide +kernel
theorem dX2_makeHeavier_59 : decode cX2_makeHeavier 59 = .ok (.getfield 9, 3) := by decide +kernel
theorem dX2_makeHeavier_62 : decode cX2_makeHeavier 62 = .ok (.iload 4, 2) := by decide +kernel
theorem dX2_makeHeavier_64 : decode cX2_makeHeavier 64 = .ok (.invokestatic 54, 3) := by decide +kernel
theorem dX2_makeHeavier_67 : decode cX2_makeHeavier 67 = .ok (.iconst 1, 1) := by decide +kernel
theorem dX2_makeHeavier_68 : decode cX2_makeHeavier 68 = .ok (.iadd, 1) := by decide +kernel
theorem dX2_makeHeavier_69 : decode cX2_makeHeavier 69 = .ok (.invokestatic 68, 3) := by decide +kernel
theorem dX2_makeHeavier_72 : decode cX2_makeHeavier 72 = .ok (.aload_n 0, 1) := by decide +kernel
theorem dX2_makeHeavier_73 : decode cX2_makeHeavier 73 = .ok (.getfield 21, 3) := by decide +kernel
theorem dX2_makeHeavier_76 : decode cX2_makeHeavier 76 = .ok (.iload 4, 2) := by decide +kernel
theorem dX2_makeHeavier_78 : decode cX2_makeHeavier 78 = .ok (.invokestatic 54, 3) := by decide +kernel
theorem dX2_makeHeavier_81 : decode cX2_makeHeavier 81 = .ok (.istore_n 2, 1) := by decide +kernel
theorem dX2_makeHeavier_82 : decode cX2_makeHeavier 82 = .ok (.iinc 3 1, 3) := by decide +kernel
theorem dX2_makeHeavier_85 : decode cX2_makeHeavier 85 = .ok (.goto (-74), 3) := by decide +kernel
theorem dX2_makeHeavier_88 : decode cX2_makeHeavier 88 = .ok (.return_, 1) := by decide +kernel
set_option maxRecDepth 20000 in
theorem ggX2_firstAsHeavyAs_X3_at : GoodIn wsX2_firstAsHeavyAs wsX3_at := goodIn_r _ [4] (by decide +kernel) (by decide +kernel)
set_option maxRecDepth 20000 in
theorem gX2_firstAsHeavyAs_X3_at_n54 : GoodIn wsX2_firstAsHeavyAs (wsX3_at) := ggX2_firstAsHeavyAs_X3_at
theorem dX2_firstAsHeavyAs_0 : decode cX2_firstAsHeavyAs 0 = .ok (.aload_n 0, 1) := by decide +kernel
theorem dX2_firstAsHeavyAs_1 : decode cX2_firstAsHeavyAs 1 = .ok (.getfield 9, 3) := by decide +kernel
theorem dX2_firstAsHeavyAs_4 : decode cX2_firstAsHeavyAs 4 = .ok (.iload_n 1, 1) := by decide +kernel
theorem dX2_firstAsHeavyAs_5 : decode cX2_firstAsHeavyAs 5 = .ok (.invokestatic 54, 3) := by decide +kernel
theorem dX2_firstAsHeavyAs_8 : decode cX2_firstAsHeavyAs 8 = .ok (.istore_n 2, 1) := by decide +kernel
theorem dX2_firstAsHeavyAs_9 : decode cX2_firstAsHeavyAs 9 = .ok (.iconst 0, 1) := by decide +kernel
theorem dX2_firstAsHeavyAs_10 : decode cX2_firstAsHeavyAs 10 = .ok (.istore_n 3, 1) := by decide +kernel
theorem dX2_firstAsHeavyAs_11 : decode cX2_firstAsHeavyAs 11 = .ok (.iload_n 3, 1) := by decide +kernel
theorem dX2_firstAsHeavyAs_12 : decode cX2_firstAsHeavyAs 12 = .ok (.iload_n 1, 1) := by decide +kernel
theorem dX2_firstAsHeavyAs_13 : decode cX2_firstAsHeavyAs 13 = .ok (.if_icmp .ge 23, 3) := by decide +kernel
theorem dX2_firstAsHeavyAs_16 : decode cX2_firstAsHeavyAs 16 = .ok (.aload_n 0, 1) := by decide +kernel
theorem dX2_firstAsHeavyAs_17 : decode cX2_firstAsHeavyAs 17 = .ok (.getfield 9, 3) := by decide +kernel
theorem dX2_firstAsHeavyAs_20 : decode cX2_firstAsHeavyAs 20 = .ok (.iload_n 3, 1) := by decide +kernel
theorem dX2_firstAsHeavyAs_21 : decode cX2_firstAsHeavyAs 21 = .ok (.invokestatic 54, 3) := by decide +kernel
theorem dX2_firstAsHeavyAs_24 : decode cX2_firstAsHeavyAs 24 = .ok (.iload_n 2, 1) := by decide +kernel
theorem dX2_firstAsHeavyAs_25 : decode cX2_firstAsHeavyAs 25 = .ok (.if_icmp .ne 5, 3) := by decide +kernel
theorem dX2_firstAsHeavyAs_28 : decode cX2_firstAsHeavyAs 28 = .ok (.iload_n 3, 1) := by decide +kernel
theorem dX2_firstAsHeavyAs_29 : decode cX2_firstAsHeavyAs 29 = .ok (.ireturn, 1) := by decide +kernel
theorem dX2_firstAsHeavyAs_30 : decode cX2_firstAsHeavyAs 30 = .ok (.iinc 3 1, 3) := by decide +kernel
theorem dX2_firstAsHeavyAs_33 : decode cX2_firstAsHeavyAs 33 = .ok (.goto (-22), 3) := by decide +kernel
theorem dX2_firstAsHeavyAs_36 : decode cX2_firstAsHeavyAs 36 = .ok (.iload_n 1, 1) := by decide +kernel
theorem dX2_firstAsHeavyAs_37 : decode cX2_firstAsHeavyAs 37 = .ok (.ireturn, 1) := by decide +kernel
set_option maxRecDepth 20000 in
theorem ggX2_exchange_X3_at : GoodIn wsX2_exchange wsX3_at := goodIn_r _ [6] (by decide +kernel) (by decide +kernel)
set_option maxRecDepth 20000 in
theorem gX2_exchange_X3_at_n54 : GoodIn wsX2_exchange (wsX3_at) := ggX2_exchange_X3_at
set_option maxRecDepth 20000 in
theorem ggX2_exchange_X2_putNode : GoodIn wsX2_exchange wsX2_putNode := goodIn_r _ [11, 1, 2, 3, 12, 13, 14, 5, 15, 16, 17, 18, 19, 20, 21, 22, 23, 24] (by decide +kernel) (by decide +kernel)
set_option maxRecDepth 20000 in
theorem gX2_exchange_X2_putNode : GoodIn wsX2_exchange (wsV RX2 44 RX2 yX2_putNode wsX2_putNode) := goodIn_app (goodIn_of _ (by decide +kernel)) ggX2_exchange_X2_putNode
theorem dX2_exchange_0 : decode cX2_exchange 0 = .ok (.aload_n 0, 1) := by decide +kernel
theorem dX2_exchange_1 : decode cX2_exchange 1 = .ok (.getfield 9, 3) := by decide +kernel
theorem dX2_exchange_4 : decode cX2_exchange 4 = .ok (.iload_n 1, 1) := by decide +kernel
theorem dX2_exchange_5 : decode cX2_exchange 5 = .ok (.invokestatic 54, 3) := by decide +kernel
theorem dX2_exchange_8 : decode cX2_exchange 8 = .ok (.istore_n 3, 1) := by decide +kernel
theorem dX2_exchange_9 : decode cX2_exchange 9 = .ok (.aload_n 0, 1) := by decide +kernel
theorem dX2_exchange_10 : decode cX2_exchange 10 = .ok (.getfield 15, 3) := by decide +kernel
theorem dX2_exchange_13 : decode cX2_exchange 13 = .ok (.iload_n 1, 1) := by decide +kernel
theorem dX2_exchange_14 : decode cX2_exchange 14 = .ok (.invokestatic 54, 3) := by decide +kernel
theorem dX2_exchange_17 : decode cX2_exchange 17 = .ok (.istore 4, 2) := by decide +kernel
theorem dX2_exchange_19 : decode cX2_exchange 19 = .ok (.aload_n 0, 1) := by decide +kernel
theorem dX2_exchange_20 : decode cX2_exchange 20 = .ok (.getfield 18, 3) := by decide +kernel
theorem dX2_exchange_23 : decode cX2_exchange 23 = .ok (.iload_n 1, 1) := by decide +kernel
theorem dX2_exchange_24 : decode cX2_exchange 24 = .ok (.invokestatic 54, 3) := by decide +kernel
theorem dX2_exchange_27 : decode cX2_exchange 27 = .ok (.istore 5, 2) := by decide +kernel
theorem dX2_exchange_29 : decode cX2_exchange 29 = .ok (.aload_n 0, 1) := by decide +kernel
theorem dX2_exchange_30 : decode cX2_exchange 30 = .ok (.iload_n 1, 1) := by decide +kernel
theorem dX2_exchange_31 : decode cX2_exchange 31 = .ok (.aload_n 0, 1) := by decide +kernel
theorem dX2_exchange_32 : decode cX2_exchange 32 = .ok (.getfield 9, 3) := by decide +kernel
theorem dX2_exchange_35 : decode cX2_exchange 35 = .ok (.iload_n 2, 1) := by decide +kernel
theorem dX2_exchange_36 : decode cX2_exchange 36 = .ok (.invokestatic 54, 3) := by decide +kernel
theorem dX2_exchange_39 : decode cX2_exchange 39 = .ok (.aload_n 0, 1) := by decide +kernel
theorem dX2_exchange_40 : decode cX2_exchange 40 = .ok (.getfield 15, 3) := by decide +kernel
theorem dX2_exchange_43 : decode cX2_exchange 43 = .ok (.iload_n 2, 1) := by decide +kernel
theorem dX2_exchange_44 : decode cX2_exchange 44 = .ok (.invokestatic 54, 3) := by decide +kernel
theorem dX2_exchange_47 : decode cX2_exchange 47 = .ok (.aload_n 0, 1) := by decide +kernel
theorem dX2_exchange_48 : decode cX2_exchange 48 = .ok (.getfield 18, 3) := by decide +kernel
theorem dX2_exchange_51 : decode cX2_exchange 51 = .ok (.iload_n 2, 1) := by decide +kernel
theorem dX2_exchange_52 : decode cX2_exchange 52 = .ok (.invokestatic 54, 3) := by decide +kernel
theorem dX2_exchange_55 : decode cX2_exchange 55 = .ok (.invokevirtual 44, 3) := by decide +kernel
theorem dX2_exchange_58 : decode cX2_exchange 58 = .ok (.aload_n 0, 1) := by decide +kernel
theorem dX2_exchange_59 : decode cX2_exchange 59 = .ok (.iload_n 2, 1) := by decide +kernel
theorem dX2_exchange_60 : decode cX2_exchange 60 = .ok (.iload_n 3, 1) := by decide +kernel
theorem dX2_exchange_61 : decode cX2_exchange 61 = .ok (.iload 4, 2) := by decide +kernel
theorem dX2_exchange_63 : decode cX2_exchange 63 = .ok (.iload 5, 2) := by decide +kernel
theorem dX2_exchange_65 : decode cX2_exchange 65 = .ok (.invokevirtual 44, 3) := by decide +kernel
theorem dX2_exchange_68 : decode cX2_exchange 68 = .ok (.return_, 1) := by decide +kernel
set_option maxRecDepth 20000 in
theorem ggX2_wearDown_X2_fillHeap : GoodIn wsX2_wearDown wsX2_fillHeap := goodIn_r _ [8, 2, 9, 10, 11, 12, 13, 14, 15, 16, 17, 18, 19, 20, 21, 22, 23, 24, 25, 26, 27, 7, 28, 29, 30, 48, 49, 50, 51, 52, 53, 54, 55, 56, 57, 58, 59, 60] (by decide +kernel) (by decide +kernel)
set_option maxRecDepth 20000 in
theorem gX2_wearDown_X2_fillHeap : GoodIn wsX2_wearDown (wsV RX2 82 RX2 yX2_fillHeap wsX2_fillHeap) := goodIn_app (goodIn_of _ (by decide +kernel)) ggX2_wearDown_X2_fillHeap
set_option maxRecDepth 20000 in
theorem ggX2_wearDown_X2_takeLightest : GoodIn wsX2_wearDown wsX2_takeLightest := goodIn_r _ [34, 2, 35, 12, 36, 37, 15, 19, 29, 23, 30, 38, 39, 40, 7, 41, 9, 42, 43, 10, 44, 22, 24, 45, 46, 47, 48, 49, 50, 51, 52, 53, 54, 55, 56, 57, 58, 59, 60] (by decide +kernel) (by decide +kernel)
set_option maxRecDepth 20000 in
theorem gX2_wearDown_X2_takeLightest : GoodIn wsX2_wearDown (wsV RX2 86 RX2 yX2_takeLightest wsX2_takeLightest) := goodIn_app (goodIn_of _ (by decide +kernel)) ggX2_wearDown_X2_takeLightest
set_option maxRecDepth 20000 in
theorem ggX2_wearDown_X0_add : GoodIn wsX2_wearDown wsX0_add := goodIn_r _ [18, 19, 15, 20, 21, 22, 23, 24, 57, 58, 59, 60] (by decide +kernel) (by decide +kernel)
set_option maxRecDepth 20000 in
theorem gX2_wearDown_X0_add_n89 : GoodIn wsX2_wearDown (wsX0_add) := ggX2_wearDown_X0_add
theorem dX2_wearDown_0 : decode cX2_wearDown 0 = .ok (.aload_n 0, 1) := by decide +kernel
theorem dX2_wearDown_1 : decode cX2_wearDown 1 = .ok (.invokevirtual 82, 3) := by decide +kernel
theorem dX2_wearDown_4 : decode cX2_wearDown 4 = .ok (.istore_n 1, 1) := by decide +kernel
theorem dX2_wearDown_5 : decode cX2_wearDown 5 = .ok (.aload_n 0, 1) := by decide +kernel
theorem dX2_wearDown_6 : decode cX2_wearDown 6 = .ok (.dup, 1) := by decide +kernel
theorem dX2_wearDown_7 : decode cX2_wearDown 7 = .ok (.getfield 40, 3) := by decide +kernel
theorem dX2_wearDown_10 : decode cX2_wearDown 10 = .ok (.iconst 2, 1) := by decide +kernel
theorem dX2_wearDown_11 : decode cX2_wearDown 11 = .ok (.iload_n 1, 1) := by decide +kernel
theorem dX2_wearDown_12 : decode cX2_wearDown 12 = .ok (.imul, 1) := by decide +kernel
theorem dX2_wearDown_13 : decode cX2_wearDown 13 = .ok (.isub, 1) := by decide +kernel
theorem dX2_wearDown_14 : decode cX2_wearDown 14 = .ok (.putfield 40, 3) := by decide +kernel
theorem dX2_wearDown_17 : decode cX2_wearDown 17 = .ok (.aload_n 0, 1) := by decide +kernel
theorem dX2_wearDown_18 : decode cX2_wearDown 18 = .ok (.getfield 40, 3) := by decide +kernel
theorem dX2_wearDown_21 : decode cX2_wearDown 21 = .ok (.iconst 1, 1) := by decide +kernel
theorem dX2_wearDown_22 : decode cX2_wearDown 22 = .ok (.isub, 1) := by decide +kernel
theorem dX2_wearDown_23 : decode cX2_wearDown 23 = .ok (.istore_n 2, 1) := by decide +kernel
theorem dX2_wearDown_24 : decode cX2_wearDown 24 = .ok (.iload_n 2, 1) := by decide +kernel
theorem dX2_wearDown_25 : decode cX2_wearDown 25 = .ok (.ifCond .le 39, 3) := by decide +kernel
theorem dX2_wearDown_28 : decode cX2_wearDown 28 = .ok (.aload_n 0, 1) := by decide +kernel
theorem dX2_wearDown_29 : decode cX2_wearDown 29 = .ok (.iload_n 2, 1) := by decide +kernel
theorem dX2_wearDown_30 : decode cX2_wearDown 30 = .ok (.invokevirtual 86, 3) := by decide +kernel
theorem dX2_wearDown_33 : decode cX2_wearDown 33 = .ok (.istore_n 3, 1) := by decide +kernel
theorem dX2_wearDown_34 : decode cX2_wearDown 34 = .ok (.aload_n 0, 1) := by decide +kernel
theorem dX2_wearDown_35 : decode cX2_wearDown 35 = .ok (.iload_n 2, 1) := by decide +kernel
theorem dX2_wearDown_36 : decode cX2_wearDown 36 = .ok (.iconst 1, 1) := by decide +kernel
theorem dX2_wearDown_37 : decode cX2_wearDown 37 = .ok (.isub, 1) := by decide +kernel
theorem dX2_wearDown_38 : decode cX2_wearDown 38 = .ok (.invokevirtual 86, 3) := by decide +kernel
theorem dX2_wearDown_41 : decode cX2_wearDown 41 = .ok (.istore 4, 2) := by decide +kernel
theorem dX2_wearDown_43 : decode cX2_wearDown 43 = .ok (.aload_n 0, 1) := by decide +kernel
theorem dX2_wearDown_44 : decode cX2_wearDown 44 = .ok (.getfield 30, 3) := by decide +kernel
theorem dX2_wearDown_47 : decode cX2_wearDown 47 = .ok (.iload_n 3, 1) := by decide +kernel
theorem dX2_wearDown_48 : decode cX2_wearDown 48 = .ok (.iload 4, 2) := by decide +kernel
theorem dX2_wearDown_50 : decode cX2_wearDown 50 = .ok (.iadd, 1) := by decide +kernel
theorem dX2_wearDown_51 : decode cX2_wearDown 51 = .ok (.iconst (-1), 1) := by decide +kernel
theorem dX2_wearDown_52 : decode cX2_wearDown 52 = .ok (.iload_n 2, 1) := by decide +kernel
theorem dX2_wearDown_53 : decode cX2_wearDown 53 = .ok (.iconst 1, 1) := by decide +kernel
theorem dX2_wearDown_54 : decode cX2_wearDown 54 = .ok (.isub, 1) := by decide +kernel
theorem dX2_wearDown_55 : decode cX2_wearDown 55 = .ok (.invokevirtual 89, 3) := by decide +kernel
theorem dX2_wearDown_58 : decode cX2_wearDown 58 = .ok (.iinc 2 (-2), 3) := by decide +kernel
theorem dX2_wearDown_61 : decode cX2_wearDown 61 = .ok (.goto (-37), 3) := by decide +kernel
theorem dX2_wearDown_64 : decode cX2_wearDown 64 = .ok (.aload_n 0, 1) := by decide +kernel
theorem dX2_wearDown_65 : decode cX2_wearDown 65 = .ok (.iconst 0, 1) := by decide +kernel
theorem dX2_wearDown_66 : decode cX2_wearDown 66 = .ok (.invokevirtual 86, 3) := by decide +kernel
theorem dX2_wearDown_69 : decode cX2_wearDown 69 = .ok (.pop, 1) := by decide +kernel
theorem dX2_wearDown_70 : decode cX2_wearDown 70 = .ok (.aload_n 0, 1) := by decide +kernel
theorem dX2_wearDown_71 : decode cX2_wearDown 71 = .ok (.dup, 1) := by decide +kernel
theorem dX2_wearDown_72 : decode cX2_wearDown 72 = .ok (.getfield 93, 3) := by decide +kernel
theorem dX2_wearDown_75 : decode cX2_wearDown 75 = .ok (.iconst 1, 1) := by decide +kernel
theorem dX2_wearDown_76 : decode cX2_wearDown 76 = .ok (.iadd, 1) := by decide +kernel
theorem dX2_wearDown_77 : decode cX2_wearDown 77 = .ok (.putfield 93, 3) := by decide +kernel
theorem dX2_wearDown_80 : decode cX2_wearDown 80 = .ok (.iload_n 1, 1) := by decide +kernel
theorem dX2_wearDown_81 : decode cX2_wearDown 81 = .ok (.ireturn, 1) := by decide +kernel
set_option maxRecDepth 20000 in
theorem ggX2_fillHeap_X0_clear : GoodIn wsX2_fillHeap wsX0_clear := goodIn_r _ [7, 8, 34, 35, 36, 37] (by decide +kernel) (by decide +kernel)
set_option maxRecDepth 20000 in
theorem gX2_fillHeap_X0_clear_n96 : GoodIn wsX2_fillHeap (wsX0_clear) := ggX2_fillHeap_X0_clear
set_option maxRecDepth 20000 in
theorem ggX2_fillHeap_X0_add : GoodIn wsX2_fillHeap wsX0_add := goodIn_r _ [11, 12, 8, 13, 14, 15, 16, 17, 34, 35, 36, 37] (by decide +kernel) (by decide +kernel)
set_option maxRecDepth 20000 in
theorem gX2_fillHeap_X0_add_n89 : GoodIn wsX2_fillHeap (wsX0_add) := ggX2_fillHeap_X0_add
set_option maxRecDepth 20000 in
theorem ggX2_fillHeap_X2_knows : GoodIn wsX2_fillHeap wsX2_knows := goodIn_r _ [22, 3, 23, 16, 24, 25, 26, 27, 28, 29, 30, 31, 32, 33] (by decide +kernel) (by decide +kernel)
set_option maxRecDepth 20000 in
theorem gX2_fillHeap_X2_knows : GoodIn wsX2_fillHeap (wsV RX2 99 RX2 yX2_knows wsX2_knows) := goodIn_app (goodIn_of _ (by decide +kernel)) ggX2_fillHeap_X2_knows
set_option maxRecDepth 20000 in
theorem ggX2_fillHeap_X3_at : GoodIn wsX2_fillHeap wsX3_at := goodIn_r _ [24] (by decide +kernel) (by decide +kernel)
set_option maxRecDepth 20000 in
theorem gX2_fillHeap_X3_at_n54 : GoodIn wsX2_fillHeap (wsX3_at) := ggX2_fillHeap_X3_at
set_option maxRecDepth 20000 in
theorem ggX2_fillHeap_X3_put : GoodIn wsX2_fillHeap wsX3_put := goodIn_r _ [17] (by decide +kernel) (by decide +kernel)
set_option maxRecDepth 20000 in
theorem gX2_fillHeap_X3_put_n68 : GoodIn wsX2_fillHeap (wsX3_put) := ggX2_fillHeap_X3_put
theorem dX2_fillHeap_0 : decode cX2_fillHeap 0 = .ok (.iconst 0, 1) := by decide +kernel
theorem dX2_fillHeap_1 : decode cX2_fillHeap 1 = .ok (.istore_n 1, 1) := by decide +kernel
theorem dX2_fillHeap_2 : decode cX2_fillHeap 2 = .ok (.aload_n 0, 1) := by decide +kernel
theorem dX2_fillHeap_3 : decode cX2_fillHeap 3 = .ok (.getfield 30, 3) := by decide +kernel
theorem dX2_fillHeap_6 : decode cX2_fillHeap 6 = .ok (.invokevirtual 96, 3) := by decide +kernel
theorem dX2_fillHeap_9 : decode cX2_fillHeap 9 = .ok (.aload_n 0, 1) := by decide +kernel
theorem dX2_fillHeap_10 : decode cX2_fillHeap 10 = .ok (.getfield 30, 3) := by decide +kernel
theorem dX2_fillHeap_13 : decode cX2_fillHeap 13 = .ok (.iconst 1, 1) := by decide +kernel
theorem dX2_fillHeap_14 : decode cX2_fillHeap 14 = .ok (.bipush 32, 2) := by decide +kernel
theorem dX2_fillHeap_16 : decode cX2_fillHeap 16 = .ok (.iconst (-1), 1) := by decide +kernel
theorem dX2_fillHeap_17 : decode cX2_fillHeap 17 = .ok (.invokevirtual 89, 3) := by decide +kernel
theorem dX2_fillHeap_20 : decode cX2_fillHeap 20 = .ok (.iconst 0, 1) := by decide +kernel
theorem dX2_fillHeap_21 : decode cX2_fillHeap 21 = .ok (.istore_n 2, 1) := by decide +kernel
theorem dX2_fillHeap_22 : decode cX2_fillHeap 22 = .ok (.iload_n 2, 1) := by decide +kernel
theorem dX2_fillHeap_23 : decode cX2_fillHeap 23 = .ok (.bipush 32, 2) := by decide +kernel
theorem dX2_fillHeap_25 : decode cX2_fillHeap 25 = .ok (.if_icmp .ge 64, 3) := by decide +kernel
theorem dX2_fillHeap_28 : decode cX2_fillHeap 28 = .ok (.aload_n 0, 1) := by decide +kernel
theorem dX2_fillHeap_29 : decode cX2_fillHeap 29 = .ok (.iload_n 2, 1) := by decide +kernel
theorem dX2_fillHeap_30 : decode cX2_fillHeap 30 = .ok (.invokevirtual 99, 3) := by decide +kernel
theorem dX2_fillHeap_33 : decode cX2_fillHeap 33 = .ok (.ifCond .eq 50, 3) := by decide +kernel
theorem dX2_fillHeap_36 : decode cX2_fillHeap 36 = .ok (.aload_n 0, 1) := by decide +kernel
theorem dX2_fillHeap_37 : decode cX2_fillHeap 37 = .ok (.getfield 9, 3) := by decide +kernel
theorem dX2_fillHeap_40 : decode cX2_fillHeap 40 = .ok (.aload_n 0, 1) := by decide +kernel
theorem dX2_fillHeap_41 : decode cX2_fillHeap 41 = .ok (.getfield 24, 3) := by decide +kernel
theorem dX2_fillHeap_44 : decode cX2_fillHeap 44 = .ok (.iload_n 2, 1) := by decide +kernel
theorem dX2_fillHeap_45 : decode cX2_fillHeap 45 = .ok (.invokestatic 54, 3) := by decide +kernel
theorem dX2_fillHeap_48 : decode cX2_fillHeap 48 = .ok (.invokestatic 54, 3) := by decide +kernel
theorem dX2_fillHeap_51 : decode cX2_fillHeap 51 = .ok (.iconst 2, 1) := by decide +kernel
theorem dX2_fillHeap_52 : decode cX2_fillHeap 52 = .ok (.idiv, 1) := by decide +kernel
theorem dX2_fillHeap_53 : decode cX2_fillHeap 53 = .ok (.istore_n 3, 1) := by decide +kernel
theorem dX2_fillHeap_54 : decode cX2_fillHeap 54 = .ok (.iload_n 3, 1) := by decide +kernel
theorem dX2_fillHeap_55 : decode cX2_fillHeap 55 = .ok (.ifCond .le 16, 3) := by decide +kernel
theorem dX2_fillHeap_58 : decode cX2_fillHeap 58 = .ok (.aload_n 0, 1) := by decide +kernel
theorem dX2_fillHeap_59 : decode cX2_fillHeap 59 = .ok (.getfield 30, 3) := by decide +kernel
theorem dX2_fillHeap_62 : decode cX2_fillHeap 62 = .ok (.iload_n 3, 1) := by decide +kernel
theorem dX2_fillHeap_63 : decode cX2_fillHeap 63 = .ok (.iload_n 2, 1) := by decide +kernel
theorem dX2_fillHeap_64 : decode cX2_fillHeap 64 = .ok (.iconst (-1), 1) := by decide +kernel
theorem dX2_fillHeap_65 : decode cX2_fillHeap 65 = .ok (.invokevirtual 89, 3) := by decide +kernel
theorem dX2_fillHeap_68 : decode cX2_fillHeap 68 = .ok (.goto 15, 3) := by decide +kernel
theorem dX2_fillHeap_71 : decode cX2_fillHeap 71 = .ok (.aload_n 0, 1) := by decide +kernel
theorem dX2_fillHeap_72 : decode cX2_fillHeap 72 = .ok (.getfield 24, 3) := by decide +kernel
theorem dX2_fillHeap_75 : decode cX2_fillHeap 75 = .ok (.iload_n 2, 1) := by decide +kernel
theorem dX2_fillHeap_76 : decode cX2_fillHeap 76 = .ok (.iconst (-1), 1) := by decide +kernel
theorem dX2_fillHeap_77 : decode cX2_fillHeap 77 = .ok (.invokestatic 68, 3) := by decide +kernel
theorem dX2_fillHeap_80 : decode cX2_fillHeap 80 = .ok (.iinc 1 1, 3) := by decide +kernel
theorem dX2_fillHeap_83 : decode cX2_fillHeap 83 = .ok (.iinc 2 1, 3) := by decide +kernel
theorem dX2_fillHeap_86 : decode cX2_fillHeap 86 = .ok (.goto (-64), 3) := by decide +kernel
theorem dX2_fillHeap_89 : decode cX2_fillHeap 89 = .ok (.iload_n 1, 1) := by decide +kernel
theorem dX2_fillHeap_90 : decode cX2_fillHeap 90 = .ok (.ireturn, 1) := by decide +kernel
set_option maxRecDepth 20000 in
theorem ggX2_takeLightest_X0_lightest : GoodIn wsX2_takeLightest wsX0_lightest := goodIn_r _ [5, 6, 7, 8, 9, 10, 35, 36, 37, 38] (by decide +kernel) (by decide +kernel)
set_option maxRecDepth 20000 in
theorem gX2_takeLightest_X0_lightest_n103 : GoodIn wsX2_takeLightest (wsX0_lightest) := ggX2_takeLightest_X0_lightest
set_option maxRecDepth 20000 in
theorem ggX2_takeLightest_X3_at : GoodIn wsX2_takeLightest wsX3_at := goodIn_r _ [10] (by decide +kernel) (by decide +kernel)
set_option maxRecDepth 20000 in
theorem gX2_takeLightest_X3_at_n54 : GoodIn wsX2_takeLightest (wsX3_at) := ggX2_takeLightest_X3_at
set_option maxRecDepth 20000 in
theorem ggX2_takeLightest_X2_putNode : GoodIn wsX2_takeLightest wsX2_putNode := goodIn_r _ [15, 16, 17, 18, 19, 20, 21, 9, 22, 26, 27, 28, 29, 30, 31, 32, 33, 34] (by decide +kernel) (by decide +kernel)
set_option maxRecDepth 20000 in
theorem gX2_takeLightest_X2_putNode : GoodIn wsX2_takeLightest (wsV RX2 44 RX2 yX2_putNode wsX2_putNode) := goodIn_app (goodIn_of _ (by decide +kernel)) ggX2_takeLightest_X2_putNode
set_option maxRecDepth 20000 in
theorem ggX2_takeLightest_X0_drop : GoodIn wsX2_takeLightest wsX0_drop := goodIn_r _ [25, 7, 21, 9, 22, 35, 36, 37, 38] (by decide +kernel) (by decide +kernel)
set_option maxRecDepth 20000 in
theorem gX2_takeLightest_X0_drop_n109 : GoodIn wsX2_takeLightest (wsX0_drop) := ggX2_takeLightest_X0_drop
theorem dX2_takeLightest_0 : decode cX2_takeLightest 0 = .ok (.aload_n 0, 1) := by decide +kernel
theorem dX2_takeLightest_1 : decode cX2_takeLightest 1 = .ok (.getfield 30, 3) := by decide +kernel
theorem dX2_takeLightest_4 : decode cX2_takeLightest 4 = .ok (.invokevirtual 103, 3) := by decide +kernel
theorem dX2_takeLightest_7 : decode cX2_takeLightest 7 = .ok (.istore_n 2, 1) := by decide +kernel
theorem dX2_takeLightest_8 : decode cX2_takeLightest 8 = .ok (.aload_n 0, 1) := by decide +kernel
theorem dX2_takeLightest_9 : decode cX2_takeLightest 9 = .ok (.getfield 30, 3) := by decide +kernel
theorem dX2_takeLightest_12 : decode cX2_takeLightest 12 = .ok (.getfield 106, 3) := by decide +kernel
theorem dX2_takeLightest_15 : decode cX2_takeLightest 15 = .ok (.iload_n 2, 1) := by decide +kernel
theorem dX2_takeLightest_16 : decode cX2_takeLightest 16 = .ok (.invokestatic 54, 3) := by decide +kernel
theorem dX2_takeLightest_19 : decode cX2_takeLightest 19 = .ok (.istore_n 3, 1) := by decide +kernel
theorem dX2_takeLightest_20 : decode cX2_takeLightest 20 = .ok (.aload_n 0, 1) := by decide +kernel
theorem dX2_takeLightest_21 : decode cX2_takeLightest 21 = .ok (.iload_n 1, 1) := by decide +kernel
theorem dX2_takeLightest_22 : decode cX2_takeLightest 22 = .ok (.iload_n 3, 1) := by decide +kernel
theorem dX2_takeLightest_23 : decode cX2_takeLightest 23 = .ok (.aload_n 0, 1) := by decide +kernel
theorem dX2_takeLightest_24 : decode cX2_takeLightest 24 = .ok (.getfield 30, 3) := by decide +kernel
theorem dX2_takeLightest_27 : decode cX2_takeLightest 27 = .ok (.getfield 107, 3) := by decide +kernel
theorem dX2_takeLightest_30 : decode cX2_takeLightest 30 = .ok (.iload_n 2, 1) := by decide +kernel
theorem dX2_takeLightest_31 : decode cX2_takeLightest 31 = .ok (.invokestatic 54, 3) := by decide +kernel
theorem dX2_takeLightest_34 : decode cX2_takeLightest 34 = .ok (.aload_n 0, 1) := by decide +kernel
theorem dX2_takeLightest_35 : decode cX2_takeLightest 35 = .ok (.getfield 30, 3) := by decide +kernel
theorem dX2_takeLightest_38 : decode cX2_takeLightest 38 = .ok (.getfield 108, 3) := by decide +kernel
theorem dX2_takeLightest_41 : decode cX2_takeLightest 41 = .ok (.iload_n 2, 1) := by decide +kernel
theorem dX2_takeLightest_42 : decode cX2_takeLightest 42 = .ok (.invokestatic 54, 3) := by decide +kernel
theorem dX2_takeLightest_45 : decode cX2_takeLightest 45 = .ok (.invokevirtual 44, 3) := by decide +kernel
theorem dX2_takeLightest_48 : decode cX2_takeLightest 48 = .ok (.aload_n 0, 1) := by decide +kernel
theorem dX2_takeLightest_49 : decode cX2_takeLightest 49 = .ok (.getfield 30, 3) := by decide +kernel
theorem dX2_takeLightest_52 : decode cX2_takeLightest 52 = .ok (.iload_n 2, 1) := by decide +kernel
theorem dX2_takeLightest_53 : decode cX2_takeLightest 53 = .ok (.invokevirtual 109, 3) := by decide +kernel
theorem dX2_takeLightest_56 : decode cX2_takeLightest 56 = .ok (.iload_n 3, 1) := by decide +kernel
theorem dX2_takeLightest_57 : decode cX2_takeLightest 57 = .ok (.ireturn, 1) := by decide +kernel
set_option maxRecDepth 20000 in
theorem ggX3_init_X1_init : GoodIn wsX3_init wsX1_init := goodIn_r _ [10, 11, 2, 3, 12, 13, 14, 15, 16, 17, 18, 19, 20, 21, 22, 23, 24, 25, 26, 27, 28, 29, 30, 31, 32, 33, 34, 35, 36, 37, 38, 39, 40, 41, 42, 43, 44, 45, 46, 47, 54, 55, 56, 57, 58, 59, 60, 61, 62, 48, 49, 50, 51, 63, 64, 65, 66] (by decide +kernel) (by decide +kernel)
set_option maxRecDepth 20000 in
theorem gX3_init_X1_init_n11 : GoodIn wsX3_init (wsX1_init) := ggX3_init_X1_init
theorem dX3_init_0 : decode cX3_init 0 = .ok (.aload_n 0, 1) := by decide +kernel
theorem dX3_init_1 : decode cX3_init 1 = .ok (.invokespecial 3, 3) := by decide +kernel
theorem dX3_init_4 : decode cX3_init 4 = .ok (.aload_n 0, 1) := by decide +kernel
theorem dX3_init_5 : decode cX3_init 5 = .ok (.new 9, 3) := by decide +kernel
theorem dX3_init_8 : decode cX3_init 8 = .ok (.dup, 1) := by decide +kernel
theorem dX3_init_9 : decode cX3_init 9 = .ok (.invokespecial 11, 3) := by decide +kernel
theorem dX3_init_12 : decode cX3_init 12 = .ok (.putfield 12, 3) := by decide +kernel
theorem dX3_init_15 : decode cX3_init 15 = .ok (.aload_n 0, 1) := by decide +kernel
theorem dX3_init_16 : decode cX3_init 16 = .ok (.new 9, 3) := by decide +kernel
theorem dX3_init_19 : decode cX3_init 19 = .ok (.dup, 1) := by decide +kernel
theorem dX3_init_20 : decode cX3_init 20 = .ok (.invokespecial 11, 3) := by decide +kernel
theorem dX3_init_23 : decode cX3_init 23 = .ok (.putfield 16, 3) := by decide +kernel
theorem dX3_init_26 : decode cX3_init 26 = .ok (.return_, 1) := by decide +kernel
set_option maxRecDepth 20000 in
theorem ggX3_use_X3_requireIndex : GoodIn wsX3_use wsX3_requireIndex := goodIn_ca (goodIn_r _ [5, 6, 7] (by decide +kernel) (by decide +kernel)) (goodIn_sub (fun _ h => List.mem_cons_of_mem _ (List.mem_append_right _ h)) (by decide +kernel))
set_option maxRecDepth 20000 in
theorem gX3_use_X3_requireIndex : GoodIn wsX3_use (va_wsS RX3 19 yX3_requireIndex wsX3_requireIndex) := goodIn_app (goodIn_of _ (by decide +kernel)) ggX3_use_X3_requireIndex
set_option maxRecDepth 20000 in
theorem ggX3_use_X1_takeOne : GoodIn wsX3_use wsX1_takeOne := goodIn_r _ [11, 12, 13, 14, 15, 16, 17, 18, 9, 19, 20, 21, 22, 23, 24, 25, 4, 26, 27, 28, 29, 30, 31, 32, 33, 34, 35, 36, 37, 38, 39, 40, 41, 42, 43, 44, 45, 46, 47, 48, 49, 50, 51, 52, 53, 54, 55, 56, 57, 58, 59, 60, 61, 62, 63, 64, 65, 66, 67, 68, 69, 70, 71, 72, 73, 74, 75, 76, 77, 78, 79, 80, 81, 82, 83, 84, 85, 86, 87, 88, 89, 92, 93, 94, 95, 96, 97, 98, 99, 100, 101, 102, 103, 104, 105, 106, 107, 108] (by decide +kernel) (by decide +kernel)
set_option maxRecDepth 20000 in
theorem gX3_use_X1_takeOne_n23 : GoodIn wsX3_use (wsX1_takeOne) := ggX3_use_X1_takeOne
theorem dX3_use_0 : decode cX3_use 0 = .ok (.iload_n 1, 1) := by decide +kernel
theorem dX3_use_1 : decode cX3_use 1 = .ok (.bipush 32, 2) := by decide +kernel
theorem dX3_use_3 : decode cX3_use 3 = .ok (.invokestatic 19, 3) := by decide +kernel
theorem dX3_use_6 : decode cX3_use 6 = .ok (.aload_n 0, 1) := by decide +kernel
theorem dX3_use_7 : decode cX3_use 7 = .ok (.getfield 12, 3) := by decide +kernel
theorem dX3_use_10 : decode cX3_use 10 = .ok (.iload_n 1, 1) := by decide +kernel
theorem dX3_use_11 : decode cX3_use 11 = .ok (.invokevirtual 23, 3) := by decide +kernel
theorem dX3_use_14 : decode cX3_use 14 = .ok (.ireturn, 1) := by decide +kernel
set_option maxRecDepth 20000 in
theorem ggX3_useAll_X3_requireRow : GoodIn wsX3_useAll wsX3_requireRow := goodIn_ca (goodIn_ca (goodIn_r _ [5, 6, 7, 8, 9, 4, 10, 11, 12] (by decide +kernel) (by decide +kernel)) (goodIn_sub (fun _ h => List.mem_cons_of_mem _ (List.mem_append_left _ (List.mem_append_right _ h))) (by decide +kernel))) (goodIn_sub (fun _ h => List.mem_cons_of_mem _ (List.mem_append_right _ h)) (by decide +kernel))
set_option maxRecDepth 20000 in
theorem gX3_useAll_X3_requireRow : GoodIn wsX3_useAll (va_wsS RX3 27 yX3_requireRow wsX3_requireRow) := goodIn_app (goodIn_of _ (by decide +kernel)) ggX3_useAll_X3_requireRow
set_option maxRecDepth 20000 in
theorem ggX3_useAll_X1_takeRow : GoodIn wsX3_useAll wsX1_takeRow := goodIn_r _ [16, 17, 18, 19, 14, 20, 21, 22, 23, 24, 25, 26, 27, 28, 29, 30, 31, 32, 33, 34, 4, 35, 36, 37, 38, 39, 40, 41, 42, 43, 44, 45, 46, 47, 48, 49, 50, 51, 52, 53, 54, 55, 56, 57, 58, 59, 60, 61, 62, 63, 64, 65, 66, 67, 68, 69, 70, 71, 72, 73, 74, 75, 76, 77, 78, 79, 80, 81, 82, 83, 84, 85, 86, 87, 88, 89, 90, 91, 92, 93, 94, 95, 96, 97, 98, 101, 102, 103, 104, 105, 106, 107, 108, 109, 110, 111, 112, 113, 114, 115, 116, 117] (by decide +kernel) (by decide +kernel)
set_option maxRecDepth 20000 in
theorem gX3_useAll_X1_takeRow_n31 : GoodIn wsX3_useAll (wsX1_takeRow) := ggX3_useAll_X1_takeRow
theorem dX3_useAll_0 : decode cX3_useAll 0 = .ok (.iload_n 1, 1) := by decide +kernel
theorem dX3_useAll_1 : decode cX3_useAll 1 = .ok (.iload_n 2, 1) := by decide +kernel
theorem dX3_useAll_2 : decode cX3_useAll 2 = .ok (.iload_n 3, 1) := by decide +kernel
theorem dX3_useAll_3 : decode cX3_useAll 3 = .ok (.invokestatic 27, 3) := by decide +kernel
theorem dX3_useAll_6 : decode cX3_useAll 6 = .ok (.aload_n 0, 1) := by decide +kernel
theorem dX3_useAll_7 : decode cX3_useAll 7 = .ok (.getfield 12, 3) := by decide +kernel
theorem dX3_useAll_10 : decode cX3_useAll 10 = .ok (.iload_n 1, 1) := by decide +kernel
theorem dX3_useAll_11 : decode cX3_useAll 11 = .ok (.iload_n 2, 1) := by decide +kernel
theorem dX3_useAll_12 : decode cX3_useAll 12 = .ok (.iload_n 3, 1) := by decide +kernel
theorem dX3_useAll_13 : decode cX3_useAll 13 = .ok (.invokevirtual 31, 3) := by decide +kernel
theorem dX3_useAll_16 : decode cX3_useAll 16 = .ok (.ireturn, 1) := by decide +kernel
theorem dX3_setLimit_0 : decode cX3_setLimit 0 = .ok (.iload_n 1, 1) := by decide +kernel
theorem dX3_setLimit_1 : decode cX3_setLimit 1 = .ok (.iconst 4, 1) := by decide +kernel
theorem dX3_setLimit_2 : decode cX3_setLimit 2 = .ok (.if_icmp .lt 10, 3) := by decide +kernel
theorem dX3_setLimit_5 : decode cX3_setLimit 5 = .ok (.iload_n 1, 1) := by decide +kernel
theorem dX3_setLimit_6 : decode cX3_setLimit 6 = .ok (.sipush 400, 3) := by decide +kernel
theorem dX3_setLimit_9 : decode cX3_setLimit 9 = .ok (.if_icmp .le 13, 3) := by decide +kernel
theorem dX3_setLimit_12 : decode cX3_setLimit 12 = .ok (.new 35, 3) := by decide +kernel
theorem dX3_setLimit_15 : decode cX3_setLimit 15 = .ok (.dup, 1) := by decide +kernel
theorem dX3_setLimit_16 : decode cX3_setLimit 16 = .ok (.ldc 37, 2) := by decide +kernel
theorem dX3_setLimit_18 : decode cX3_setLimit 18 = .ok (.invokespecial 39, 3) := by decide +kernel
theorem dX3_setLimit_21 : decode cX3_setLimit 21 = .ok (.athrow, 1) := by decide +kernel
theorem dX3_setLimit_22 : decode cX3_setLimit 22 = .ok (.aload_n 0, 1) := by decide +kernel
theorem dX3_setLimit_23 : decode cX3_setLimit 23 = .ok (.getfield 12, 3) := by decide +kernel
theorem dX3_setLimit_26 : decode cX3_setLimit 26 = .ok (.getfield 42, 3) := by decide +kernel
theorem dX3_setLimit_29 : decode cX3_setLimit 29 = .ok (.istore_n 2, 1) := by decide +kernel
theorem dX3_setLimit_30 : decode cX3_setLimit 30 = .ok (.aload_n 0, 1) := by decide +kernel
theorem dX3_setLimit_31 : decode cX3_setLimit 31 = .ok (.getfield 12, 3) := by decide +kernel
theorem dX3_setLimit_34 : decode cX3_setLimit 34 = .ok (.iload_n 1, 1) := by decide +kernel
theorem dX3_setLimit_35 : decode cX3_setLimit 35 = .ok (.putfield 42, 3) := by decide +kernel
theorem dX3_setLimit_38 : decode cX3_setLimit 38 = .ok (.iload_n 2, 1) := by decide +kernel
theorem dX3_setLimit_39 : decode cX3_setLimit 39 = .ok (.ireturn, 1) := by decide +kernel
set_option maxRecDepth 20000 in
theorem ggX3_wear_X2_knownLasts : GoodIn wsX3_wear wsX2_knownLasts := goodIn_r _ [7, 8, 63, 64, 65, 66, 67, 68, 69, 70, 71] (by decide +kernel) (by decide +kernel)
set_option maxRecDepth 20000 in
theorem gX3_wear_X2_knownLasts_n50 : GoodIn wsX3_wear (wsX2_knownLasts) := ggX3_wear_X2_knownLasts
set_option maxRecDepth 20000 in
theorem ggX3_wear_X2_wearDown : GoodIn wsX3_wear wsX2_wearDown := goodIn_r _ [11, 8, 12, 13, 14, 15, 16, 5, 17, 18, 19, 20, 21, 22, 23, 24, 25, 26, 27, 28, 29, 30, 31, 32, 33, 34, 35, 36, 37, 38, 39, 40, 41, 42, 43, 44, 45, 46, 47, 48, 49, 50, 51, 52, 53, 54, 55, 56, 63, 64, 65, 66, 67, 68, 69, 70, 71, 72, 73, 74, 75] (by decide +kernel) (by decide +kernel)
set_option maxRecDepth 20000 in
theorem gX3_wear_X2_wearDown_n61 : GoodIn wsX3_wear (wsX2_wearDown) := ggX3_wear_X2_wearDown
theorem dX3_wear_0 : decode cX3_wear 0 = .ok (.aload_n 0, 1) := by decide +kernel
theorem dX3_wear_1 : decode cX3_wear 1 = .ok (.getfield 12, 3) := by decide +kernel
theorem dX3_wear_4 : decode cX3_wear 4 = .ok (.getfield 46, 3) := by decide +kernel
theorem dX3_wear_7 : decode cX3_wear 7 = .ok (.invokevirtual 50, 3) := by decide +kernel
theorem dX3_wear_10 : decode cX3_wear 10 = .ok (.ifCond .ne 13, 3) := by decide +kernel
theorem dX3_wear_13 : decode cX3_wear 13 = .ok (.new 56, 3) := by decide +kernel
theorem dX3_wear_16 : decode cX3_wear 16 = .ok (.dup, 1) := by decide +kernel
theorem dX3_wear_17 : decode cX3_wear 17 = .ok (.ldc 58, 2) := by decide +kernel
theorem dX3_wear_19 : decode cX3_wear 19 = .ok (.invokespecial 60, 3) := by decide +kernel
theorem dX3_wear_22 : decode cX3_wear 22 = .ok (.athrow, 1) := by decide +kernel
theorem dX3_wear_23 : decode cX3_wear 23 = .ok (.aload_n 0, 1) := by decide +kernel
theorem dX3_wear_24 : decode cX3_wear 24 = .ok (.getfield 12, 3) := by decide +kernel
theorem dX3_wear_27 : decode cX3_wear 27 = .ok (.getfield 46, 3) := by decide +kernel
theorem dX3_wear_30 : decode cX3_wear 30 = .ok (.invokevirtual 61, 3) := by decide +kernel
theorem dX3_wear_33 : decode cX3_wear 33 = .ok (.ireturn, 1) := by decide +kernel
set_option maxRecDepth 20000 in
theorem ggX3_told_X3_requireIndex : GoodIn wsX3_told wsX3_requireIndex := goodIn_ca (goodIn_r _ [5, 6, 7] (by decide +kernel) (by decide +kernel)) (goodIn_sub (fun _ h => List.mem_cons_of_mem _ (List.mem_append_right _ h)) (by decide +kernel))
set_option maxRecDepth 20000 in
theorem gX3_told_X3_requireIndex : GoodIn wsX3_told (va_wsS RX3 19 yX3_requireIndex wsX3_requireIndex) := goodIn_app (goodIn_of _ (by decide +kernel)) ggX3_told_X3_requireIndex
set_option maxRecDepth 20000 in
theorem ggX3_told_X1_bitsFor : GoodIn wsX3_told wsX1_bitsFor := goodIn_r _ [11, 12, 13, 14, 15, 16, 17, 18, 4, 19, 20, 21, 22, 23, 40, 41, 42, 43, 44, 45, 46, 47, 48, 49, 50, 51, 52] (by decide +kernel) (by decide +kernel)
set_option maxRecDepth 20000 in
theorem gX3_told_X1_bitsFor_n64 : GoodIn wsX3_told (wsX1_bitsFor) := ggX3_told_X1_bitsFor
set_option maxRecDepth 20000 in
theorem ggX3_told_X2_factOfLeaf : GoodIn wsX3_told wsX2_factOfLeaf := goodIn_r _ [26, 17, 27, 18, 4, 19, 28, 20, 21, 14, 22, 23, 29, 30, 31, 32, 33, 34, 35, 36, 37, 44, 45, 46, 47, 48, 49, 50, 51, 52] (by decide +kernel) (by decide +kernel)
set_option maxRecDepth 20000 in
theorem gX3_told_X2_factOfLeaf_n67 : GoodIn wsX3_told (wsX2_factOfLeaf) := ggX3_told_X2_factOfLeaf
theorem dX3_told_0 : decode cX3_told 0 = .ok (.iload_n 1, 1) := by decide +kernel
theorem dX3_told_1 : decode cX3_told 1 = .ok (.bipush 32, 2) := by decide +kernel
theorem dX3_told_3 : decode cX3_told 3 = .ok (.invokestatic 19, 3) := by decide +kernel
theorem dX3_told_6 : decode cX3_told 6 = .ok (.iload_n 2, 1) := by decide +kernel
theorem dX3_told_7 : decode cX3_told 7 = .ok (.bipush 6, 2) := by decide +kernel
theorem dX3_told_9 : decode cX3_told 9 = .ok (.invokestatic 19, 3) := by decide +kernel
theorem dX3_told_12 : decode cX3_told 12 = .ok (.iload_n 2, 1) := by decide +kernel
theorem dX3_told_13 : decode cX3_told 13 = .ok (.iconst 5, 1) := by decide +kernel
theorem dX3_told_14 : decode cX3_told 14 = .ok (.if_icmp .ne 14, 3) := by decide +kernel
theorem dX3_told_17 : decode cX3_told 17 = .ok (.aload_n 0, 1) := by decide +kernel
theorem dX3_told_18 : decode cX3_told 18 = .ok (.getfield 12, 3) := by decide +kernel
theorem dX3_told_21 : decode cX3_told 21 = .ok (.iload_n 1, 1) := by decide +kernel
theorem dX3_told_22 : decode cX3_told 22 = .ok (.invokevirtual 64, 3) := by decide +kernel
theorem dX3_told_25 : decode cX3_told 25 = .ok (.goto 15, 3) := by decide +kernel
theorem dX3_told_28 : decode cX3_told 28 = .ok (.aload_n 0, 1) := by decide +kernel
theorem dX3_told_29 : decode cX3_told 29 = .ok (.getfield 12, 3) := by decide +kernel
theorem dX3_told_32 : decode cX3_told 32 = .ok (.getfield 46, 3) := by decide +kernel
theorem dX3_told_35 : decode cX3_told 35 = .ok (.iload_n 1, 1) := by decide +kernel
theorem dX3_told_36 : decode cX3_told 36 = .ok (.iload_n 2, 1) := by decide +kernel
theorem dX3_told_37 : decode cX3_told 37 = .ok (.invokevirtual 67, 3) := by decide +kernel
theorem dX3_told_40 : decode cX3_told 40 = .ok (.ireturn, 1) := by decide +kernel
set_option maxRecDepth 20000 in
theorem ggX3_sole_X3_requireIndex : GoodIn wsX3_sole wsX3_requireIndex := goodIn_ca (goodIn_r _ [5, 6, 7] (by decide +kernel) (by decide +kernel)) (goodIn_sub (fun _ h => List.mem_cons_of_mem _ (List.mem_append_right _ h)) (by decide +kernel))
set_option maxRecDepth 20000 in
theorem gX3_sole_X3_requireIndex : GoodIn wsX3_sole (va_wsS RX3 19 yX3_requireIndex wsX3_requireIndex) := goodIn_app (goodIn_of _ (by decide +kernel)) ggX3_sole_X3_requireIndex
set_option maxRecDepth 20000 in
theorem ggX3_sole_X2_factOfLeaf : GoodIn wsX3_sole wsX2_factOfLeaf := goodIn_r _ [11, 12, 13, 14, 4, 15, 16, 17, 18, 9, 19, 20, 21, 22, 23, 24, 25, 26, 27, 28, 29, 36, 37, 38, 39, 40, 41, 42, 43, 44] (by decide +kernel) (by decide +kernel)
set_option maxRecDepth 20000 in
theorem gX3_sole_X2_factOfLeaf_n67 : GoodIn wsX3_sole (wsX2_factOfLeaf) := ggX3_sole_X2_factOfLeaf
theorem dX3_sole_0 : decode cX3_sole 0 = .ok (.iload_n 1, 1) := by decide +kernel
theorem dX3_sole_1 : decode cX3_sole 1 = .ok (.iconst 5, 1) := by decide +kernel
theorem dX3_sole_2 : decode cX3_sole 2 = .ok (.invokestatic 19, 3) := by decide +kernel
theorem dX3_sole_5 : decode cX3_sole 5 = .ok (.aload_n 0, 1) := by decide +kernel
theorem dX3_sole_6 : decode cX3_sole 6 = .ok (.getfield 12, 3) := by decide +kernel
theorem dX3_sole_9 : decode cX3_sole 9 = .ok (.getfield 46, 3) := by decide +kernel
theorem dX3_sole_12 : decode cX3_sole 12 = .ok (.bipush 32, 2) := by decide +kernel
theorem dX3_sole_14 : decode cX3_sole 14 = .ok (.iload_n 1, 1) := by decide +kernel
theorem dX3_sole_15 : decode cX3_sole 15 = .ok (.invokevirtual 67, 3) := by decide +kernel
theorem dX3_sole_18 : decode cX3_sole 18 = .ok (.ireturn, 1) := by decide +kernel
set_option maxRecDepth 20000 in
theorem ggX3_node_X3_requireIndex : GoodIn wsX3_node wsX3_requireIndex := goodIn_ca (goodIn_r _ [5, 6, 7] (by decide +kernel) (by decide +kernel)) (goodIn_sub (fun _ h => List.mem_cons_of_mem _ (List.mem_append_right _ h)) (by decide +kernel))
set_option maxRecDepth 20000 in
theorem gX3_node_X3_requireIndex : GoodIn wsX3_node (va_wsS RX3 19 yX3_requireIndex wsX3_requireIndex) := goodIn_app (goodIn_of _ (by decide +kernel)) ggX3_node_X3_requireIndex
set_option maxRecDepth 20000 in
theorem ggX3_node_X2_factOfNode : GoodIn wsX3_node wsX2_factOfNode := goodIn_r _ [11, 12, 13, 14, 15, 16, 4, 17, 24, 25, 26, 27, 28, 29, 30, 31, 32] (by decide +kernel) (by decide +kernel)
set_option maxRecDepth 20000 in
theorem gX3_node_X2_factOfNode_n74 : GoodIn wsX3_node (wsX2_factOfNode) := ggX3_node_X2_factOfNode
theorem dX3_node_0 : decode cX3_node 0 = .ok (.iload_n 1, 1) := by decide +kernel
theorem dX3_node_1 : decode cX3_node 1 = .ok (.aload_n 0, 1) := by decide +kernel
theorem dX3_node_2 : decode cX3_node 2 = .ok (.getfield 12, 3) := by decide +kernel
theorem dX3_node_5 : decode cX3_node 5 = .ok (.getfield 46, 3) := by decide +kernel
theorem dX3_node_8 : decode cX3_node 8 = .ok (.getfield 71, 3) := by decide +kernel
theorem dX3_node_11 : decode cX3_node 11 = .ok (.invokestatic 19, 3) := by decide +kernel
theorem dX3_node_14 : decode cX3_node 14 = .ok (.iload_n 2, 1) := by decide +kernel
theorem dX3_node_15 : decode cX3_node 15 = .ok (.iconst 4, 1) := by decide +kernel
theorem dX3_node_16 : decode cX3_node 16 = .ok (.invokestatic 19, 3) := by decide +kernel
theorem dX3_node_19 : decode cX3_node 19 = .ok (.aload_n 0, 1) := by decide +kernel
theorem dX3_node_20 : decode cX3_node 20 = .ok (.getfield 12, 3) := by decide +kernel
theorem dX3_node_23 : decode cX3_node 23 = .ok (.getfield 46, 3) := by decide +kernel
theorem dX3_node_26 : decode cX3_node 26 = .ok (.iload_n 1, 1) := by decide +kernel
theorem dX3_node_27 : decode cX3_node 27 = .ok (.iload_n 2, 1) := by decide +kernel
theorem dX3_node_28 : decode cX3_node 28 = .ok (.invokevirtual 74, 3) := by decide +kernel
theorem dX3_node_31 : decode cX3_node 31 = .ok (.ireturn, 1) := by decide +kernel
set_option maxRecDepth 20000 in
theorem ggX3_count_X3_requireIndex : GoodIn wsX3_count wsX3_requireIndex := goodIn_ca (goodIn_r _ [5, 6, 7] (by decide +kernel) (by decide +kernel)) (goodIn_sub (fun _ h => List.mem_cons_of_mem _ (List.mem_append_right _ h)) (by decide +kernel))
set_option maxRecDepth 20000 in
theorem gX3_count_X3_requireIndex : GoodIn wsX3_count (va_wsS RX3 19 yX3_requireIndex wsX3_requireIndex) := goodIn_app (goodIn_of _ (by decide +kernel)) ggX3_count_X3_requireIndex
set_option maxRecDepth 20000 in
theorem ggX3_count_X1_factOfShop : GoodIn wsX3_count wsX1_factOfShop := goodIn_r _ [11, 12, 13, 14, 15, 16, 17, 18, 19, 20, 21, 22, 23, 24, 25, 4, 26, 29, 30, 31, 32, 33, 34, 35, 36, 37, 38, 39, 40, 41] (by decide +kernel) (by decide +kernel)
set_option maxRecDepth 20000 in
theorem gX3_count_X1_factOfShop_n77 : GoodIn wsX3_count (wsX1_factOfShop) := ggX3_count_X1_factOfShop
theorem dX3_count_0 : decode cX3_count 0 = .ok (.iload_n 1, 1) := by decide +kernel
theorem dX3_count_1 : decode cX3_count 1 = .ok (.bipush 8, 2) := by decide +kernel
theorem dX3_count_3 : decode cX3_count 3 = .ok (.invokestatic 19, 3) := by decide +kernel
theorem dX3_count_6 : decode cX3_count 6 = .ok (.aload_n 0, 1) := by decide +kernel
theorem dX3_count_7 : decode cX3_count 7 = .ok (.getfield 12, 3) := by decide +kernel
theorem dX3_count_10 : decode cX3_count 10 = .ok (.iload_n 1, 1) := by decide +kernel
theorem dX3_count_11 : decode cX3_count 11 = .ok (.invokevirtual 77, 3) := by decide +kernel
theorem dX3_count_14 : decode cX3_count 14 = .ok (.ireturn, 1) := by decide +kernel
set_option maxRecDepth 20000 in
theorem ggX3_read_X2_firstWritten : GoodIn wsX3_read wsX2_firstWritten := goodIn_r _ [7, 8, 9, 10, 11, 12, 19, 20, 21, 22, 23, 24, 25, 26, 27] (by decide +kernel) (by decide +kernel)
set_option maxRecDepth 20000 in
theorem gX3_read_X2_firstWritten_n84 : GoodIn wsX3_read (wsX2_firstWritten) := ggX3_read_X2_firstWritten
theorem dX3_read_0 : decode cX3_read 0 = .ok (.iload_n 2, 1) := by decide +kernel
theorem dX3_read_1 : decode cX3_read 1 = .ok (.iconst 1, 1) := by decide +kernel
theorem dX3_read_2 : decode cX3_read 2 = .ok (.if_icmp .lt 9, 3) := by decide +kernel
theorem dX3_read_5 : decode cX3_read 5 = .ok (.iload_n 2, 1) := by decide +kernel
theorem dX3_read_6 : decode cX3_read 6 = .ok (.bipush 30, 2) := by decide +kernel
theorem dX3_read_8 : decode cX3_read 8 = .ok (.if_icmp .le 13, 3) := by decide +kernel
theorem dX3_read_11 : decode cX3_read 11 = .ok (.new 35, 3) := by decide +kernel
theorem dX3_read_14 : decode cX3_read 14 = .ok (.dup, 1) := by decide +kernel
theorem dX3_read_15 : decode cX3_read 15 = .ok (.ldc 80, 2) := by decide +kernel
theorem dX3_read_17 : decode cX3_read 17 = .ok (.invokespecial 39, 3) := by decide +kernel
theorem dX3_read_20 : decode cX3_read 20 = .ok (.athrow, 1) := by decide +kernel
theorem dX3_read_21 : decode cX3_read 21 = .ok (.iload_n 1, 1) := by decide +kernel
theorem dX3_read_22 : decode cX3_read 22 = .ok (.ifCond .lt 10, 3) := by decide +kernel
theorem dX3_read_25 : decode cX3_read 25 = .ok (.iload_n 1, 1) := by decide +kernel
theorem dX3_read_26 : decode cX3_read 26 = .ok (.iconst 1, 1) := by decide +kernel
theorem dX3_read_27 : decode cX3_read 27 = .ok (.iload_n 2, 1) := by decide +kernel
theorem dX3_read_28 : decode cX3_read 28 = .ok (.ishl, 1) := by decide +kernel
theorem dX3_read_29 : decode cX3_read 29 = .ok (.if_icmp .lt 13, 3) := by decide +kernel
theorem dX3_read_32 : decode cX3_read 32 = .ok (.new 35, 3) := by decide +kernel
theorem dX3_read_35 : decode cX3_read 35 = .ok (.dup, 1) := by decide +kernel
theorem dX3_read_36 : decode cX3_read 36 = .ok (.ldc 82, 2) := by decide +kernel
theorem dX3_read_38 : decode cX3_read 38 = .ok (.invokespecial 39, 3) := by decide +kernel
theorem dX3_read_41 : decode cX3_read 41 = .ok (.athrow, 1) := by decide +kernel
theorem dX3_read_42 : decode cX3_read 42 = .ok (.aload_n 0, 1) := by decide +kernel
theorem dX3_read_43 : decode cX3_read 43 = .ok (.getfield 12, 3) := by decide +kernel
theorem dX3_read_46 : decode cX3_read 46 = .ok (.getfield 46, 3) := by decide +kernel
theorem dX3_read_49 : decode cX3_read 49 = .ok (.iload_n 1, 1) := by decide +kernel
theorem dX3_read_50 : decode cX3_read 50 = .ok (.iload_n 2, 1) := by decide +kernel
theorem dX3_read_51 : decode cX3_read 51 = .ok (.invokevirtual 84, 3) := by decide +kernel
theorem dX3_read_54 : decode cX3_read 54 = .ok (.ireturn, 1) := by decide +kernel
set_option maxRecDepth 20000 in
theorem ggX3_cheapest_X2_knows : GoodIn wsX3_cheapest wsX2_knows := goodIn_r _ [5, 6, 7, 8, 9, 25, 26, 27, 28, 29, 30, 31, 32, 33] (by decide +kernel) (by decide +kernel)
set_option maxRecDepth 20000 in
theorem gX3_cheapest_X2_knows_n87 : GoodIn wsX3_cheapest (wsX2_knows) := ggX3_cheapest_X2_knows
set_option maxRecDepth 20000 in
theorem ggX3_cheapest_X1_bitsFor : GoodIn wsX3_cheapest wsX1_bitsFor := goodIn_r _ [13, 14, 2, 3, 4, 5, 6, 7, 8, 9, 15, 16, 17, 18, 21, 22, 23, 24, 25, 26, 27, 28, 29, 30, 31, 32, 33] (by decide +kernel) (by decide +kernel)
set_option maxRecDepth 20000 in
theorem gX3_cheapest_X1_bitsFor_n64 : GoodIn wsX3_cheapest (wsX1_bitsFor) := ggX3_cheapest_X1_bitsFor
theorem dX3_cheapest_0 : decode cX3_cheapest 0 = .ok (.iconst (-1), 1) := by decide +kernel
theorem dX3_cheapest_1 : decode cX3_cheapest 1 = .ok (.istore_n 1, 1) := by decide +kernel
theorem dX3_cheapest_2 : decode cX3_cheapest 2 = .ok (.iconst 0, 1) := by decide +kernel
theorem dX3_cheapest_3 : decode cX3_cheapest 3 = .ok (.istore_n 2, 1) := by decide +kernel
theorem dX3_cheapest_4 : decode cX3_cheapest 4 = .ok (.iload_n 2, 1) := by decide +kernel
theorem dX3_cheapest_5 : decode cX3_cheapest 5 = .ok (.bipush 32, 2) := by decide +kernel
theorem dX3_cheapest_7 : decode cX3_cheapest 7 = .ok (.if_icmp .ge 49, 3) := by decide +kernel
theorem dX3_cheapest_10 : decode cX3_cheapest 10 = .ok (.aload_n 0, 1) := by decide +kernel
theorem dX3_cheapest_11 : decode cX3_cheapest 11 = .ok (.getfield 12, 3) := by decide +kernel
theorem dX3_cheapest_14 : decode cX3_cheapest 14 = .ok (.getfield 46, 3) := by decide +kernel
theorem dX3_cheapest_17 : decode cX3_cheapest 17 = .ok (.iload_n 2, 1) := by decide +kernel
theorem dX3_cheapest_18 : decode cX3_cheapest 18 = .ok (.invokevirtual 87, 3) := by decide +kernel
theorem dX3_cheapest_21 : decode cX3_cheapest 21 = .ok (.ifCond .eq 29, 3) := by decide +kernel
theorem dX3_cheapest_24 : decode cX3_cheapest 24 = .ok (.iload_n 1, 1) := by decide +kernel
theorem dX3_cheapest_25 : decode cX3_cheapest 25 = .ok (.iconst (-1), 1) := by decide +kernel
theorem dX3_cheapest_26 : decode cX3_cheapest 26 = .ok (.if_icmp .eq 22, 3) := by decide +kernel
theorem dX3_cheapest_29 : decode cX3_cheapest 29 = .ok (.aload_n 0, 1) := by decide +kernel
theorem dX3_cheapest_30 : decode cX3_cheapest 30 = .ok (.getfield 12, 3) := by decide +kernel
theorem dX3_cheapest_33 : decode cX3_cheapest 33 = .ok (.iload_n 2, 1) := by decide +kernel
theorem dX3_cheapest_34 : decode cX3_cheapest 34 = .ok (.invokevirtual 64, 3) := by decide +kernel
theorem dX3_cheapest_37 : decode cX3_cheapest 37 = .ok (.aload_n 0, 1) := by decide +kernel
theorem dX3_cheapest_38 : decode cX3_cheapest 38 = .ok (.getfield 12, 3) := by decide +kernel
theorem dX3_cheapest_41 : decode cX3_cheapest 41 = .ok (.iload_n 1, 1) := by decide +kernel
theorem dX3_cheapest_42 : decode cX3_cheapest 42 = .ok (.invokevirtual 64, 3) := by decide +kernel
theorem dX3_cheapest_45 : decode cX3_cheapest 45 = .ok (.if_icmp .ge 5, 3) := by decide +kernel
theorem dX3_cheapest_48 : decode cX3_cheapest 48 = .ok (.iload_n 2, 1) := by decide +kernel
theorem dX3_cheapest_49 : decode cX3_cheapest 49 = .ok (.istore_n 1, 1) := by decide +kernel
theorem dX3_cheapest_50 : decode cX3_cheapest 50 = .ok (.iinc 2 1, 3) := by decide +kernel
theorem dX3_cheapest_53 : decode cX3_cheapest 53 = .ok (.goto (-49), 3) := by decide +kernel
theorem dX3_cheapest_56 : decode cX3_cheapest 56 = .ok (.iload_n 1, 1) := by decide +kernel
theorem dX3_cheapest_57 : decode cX3_cheapest 57 = .ok (.ireturn, 1) := by decide +kernel
set_option maxRecDepth 20000 in
theorem ggX3_would_X3_requireRow : GoodIn wsX3_would wsX3_requireRow := goodIn_ca (goodIn_ca (goodIn_r _ [6, 7, 8, 9, 10, 5, 11, 12, 13] (by decide +kernel) (by decide +kernel)) (goodIn_sub (fun _ h => List.mem_cons_of_mem _ (List.mem_append_left _ (List.mem_append_right _ h))) (by decide +kernel))) (goodIn_sub (fun _ h => List.mem_cons_of_mem _ (List.mem_append_right _ h)) (by decide +kernel))
set_option maxRecDepth 20000 in
theorem gX3_would_X3_requireRow : GoodIn wsX3_would (va_wsS RX3 27 yX3_requireRow wsX3_requireRow) := goodIn_app (goodIn_of _ (by decide +kernel)) ggX3_would_X3_requireRow
set_option maxRecDepth 20000 in
theorem ggX3_would_X1_startLike : GoodIn wsX3_would wsX1_startLike := goodIn_r _ [17, 18, 19, 20, 21, 22, 23, 24, 25, 26, 27, 28, 29, 30, 31, 32, 33, 112, 113, 114, 115, 116, 117, 118, 119, 120, 121, 122, 123, 124] (by decide +kernel) (by decide +kernel)
set_option maxRecDepth 20000 in
theorem gX3_would_X1_startLike_n91 : GoodIn wsX3_would (wsX1_startLike) := ggX3_would_X1_startLike
set_option maxRecDepth 20000 in
theorem ggX3_would_X1_takeRow : GoodIn wsX3_would wsX1_takeRow := goodIn_r _ [36, 37, 38, 39, 15, 40, 18, 41, 42, 19, 43, 44, 45, 46, 47, 21, 48, 49, 32, 50, 5, 51, 52, 53, 54, 31, 55, 56, 57, 33, 58, 59, 60, 61, 24, 29, 30, 62, 63, 64, 65, 66, 67, 68, 69, 70, 71, 72, 73, 74, 75, 76, 77, 78, 79, 80, 81, 82, 83, 84, 85, 86, 87, 88, 89, 90, 91, 92, 93, 94, 95, 96, 97, 98, 99, 100, 101, 102, 103, 104, 105, 106, 107, 108, 109, 112, 113, 114, 115, 116, 117, 118, 119, 120, 121, 122, 123, 124, 125, 126, 127, 128] (by decide +kernel) (by decide +kernel)
set_option maxRecDepth 20000 in
theorem gX3_would_X1_takeRow_n31 : GoodIn wsX3_would (wsX1_takeRow) := ggX3_would_X1_takeRow
theorem dX3_would_0 : decode cX3_would 0 = .ok (.iload_n 1, 1) := by decide +kernel
theorem dX3_would_1 : decode cX3_would 1 = .ok (.iload_n 2, 1) := by decide +kernel
theorem dX3_would_2 : decode cX3_would 2 = .ok (.iload_n 3, 1) := by decide +kernel
theorem dX3_would_3 : decode cX3_would 3 = .ok (.invokestatic 27, 3) := by decide +kernel
theorem dX3_would_6 : decode cX3_would 6 = .ok (.aload_n 0, 1) := by decide +kernel
theorem dX3_would_7 : decode cX3_would 7 = .ok (.getfield 16, 3) := by decide +kernel
theorem dX3_would_10 : decode cX3_would 10 = .ok (.aload_n 0, 1) := by decide +kernel
theorem dX3_would_11 : decode cX3_would 11 = .ok (.getfield 12, 3) := by decide +kernel
theorem dX3_would_14 : decode cX3_would 14 = .ok (.invokevirtual 91, 3) := by decide +kernel
theorem dX3_would_17 : decode cX3_would 17 = .ok (.aload_n 0, 1) := by decide +kernel
theorem dX3_would_18 : decode cX3_would 18 = .ok (.getfield 16, 3) := by decide +kernel
theorem dX3_would_21 : decode cX3_would 21 = .ok (.iload_n 1, 1) := by decide +kernel
theorem dX3_would_22 : decode cX3_would 22 = .ok (.iload_n 2, 1) := by decide +kernel
theorem dX3_would_23 : decode cX3_would 23 = .ok (.iload_n 3, 1) := by decide +kernel
theorem dX3_would_24 : decode cX3_would 24 = .ok (.invokevirtual 31, 3) := by decide +kernel
theorem dX3_would_27 : decode cX3_would 27 = .ok (.ireturn, 1) := by decide +kernel
set_option maxRecDepth 20000 in
theorem ggX3_advise_X3_requireRow : GoodIn wsX3_advise wsX3_requireRow := goodIn_ca (goodIn_ca (goodIn_r _ [7, 8, 9, 10, 11, 6, 12, 13, 14] (by decide +kernel) (by decide +kernel)) (goodIn_sub (fun _ h => List.mem_cons_of_mem _ (List.mem_append_left _ (List.mem_append_right _ h))) (by decide +kernel))) (goodIn_sub (fun _ h => List.mem_cons_of_mem _ (List.mem_append_right _ h)) (by decide +kernel))
set_option maxRecDepth 20000 in
theorem gX3_advise_X3_requireRow : GoodIn wsX3_advise (va_wsS RX3 27 yX3_requireRow wsX3_requireRow) := goodIn_app (goodIn_of _ (by decide +kernel)) ggX3_advise_X3_requireRow
set_option maxRecDepth 20000 in
theorem ggX3_advise_X1_startLike : GoodIn wsX3_advise wsX1_startLike := goodIn_r _ [18, 19, 20, 21, 22, 23, 24, 25, 26, 27, 28, 29, 30, 31, 32, 33, 34, 113, 114, 115, 116, 117, 118, 119, 120, 121, 122, 123, 124, 125] (by decide +kernel) (by decide +kernel)
set_option maxRecDepth 20000 in
theorem gX3_advise_X1_startLike_n91 : GoodIn wsX3_advise (wsX1_startLike) := ggX3_advise_X1_startLike
set_option maxRecDepth 20000 in
theorem ggX3_advise_X1_takeRow : GoodIn wsX3_advise wsX1_takeRow := goodIn_r _ [37, 38, 39, 40, 16, 41, 19, 42, 43, 20, 44, 45, 46, 47, 48, 22, 49, 50, 33, 51, 6, 52, 53, 54, 55, 32, 56, 57, 58, 34, 59, 60, 61, 62, 25, 30, 31, 63, 64, 65, 66, 67, 68, 69, 70, 71, 72, 73, 74, 75, 76, 77, 78, 79, 80, 81, 82, 83, 84, 85, 86, 87, 88, 89, 90, 91, 92, 93, 94, 95, 96, 97, 98, 99, 100, 101, 102, 103, 104, 105, 106, 107, 108, 109, 110, 113, 114, 115, 116, 117, 118, 119, 120, 121, 122, 123, 124, 125, 126, 127, 128, 129] (by decide +kernel) (by decide +kernel)
set_option maxRecDepth 20000 in
theorem gX3_advise_X1_takeRow_n31 : GoodIn wsX3_advise (wsX1_takeRow) := ggX3_advise_X1_takeRow
theorem dX3_advise_0 : decode cX3_advise 0 = .ok (.iload_n 1, 1) := by decide +kernel
theorem dX3_advise_1 : decode cX3_advise 1 = .ok (.iload_n 2, 1) := by decide +kernel
theorem dX3_advise_2 : decode cX3_advise 2 = .ok (.iload_n 3, 1) := by decide +kernel
theorem dX3_advise_3 : decode cX3_advise 3 = .ok (.invokestatic 27, 3) := by decide +kernel
theorem dX3_advise_6 : decode cX3_advise 6 = .ok (.iconst (-1), 1) := by decide +kernel
theorem dX3_advise_7 : decode cX3_advise 7 = .ok (.istore 4, 2) := by decide +kernel
theorem dX3_advise_9 : decode cX3_advise 9 = .ok (.iconst 0, 1) := by decide +kernel
theorem dX3_advise_10 : decode cX3_advise 10 = .ok (.istore 5, 2) := by decide +kernel
theorem dX3_advise_12 : decode cX3_advise 12 = .ok (.getstatic 95, 3) := by decide +kernel
theorem dX3_advise_15 : decode cX3_advise 15 = .ok (.astore 6, 2) := by decide +kernel
theorem dX3_advise_17 : decode cX3_advise 17 = .ok (.aload 6, 2) := by decide +kernel
theorem dX3_advise_19 : decode cX3_advise 19 = .ok (.arraylength, 1) := by decide +kernel
theorem dX3_advise_20 : decode cX3_advise 20 = .ok (.istore 7, 2) := by decide +kernel
theorem dX3_advise_22 : decode cX3_advise 22 = .ok (.iconst 0, 1) := by decide +kernel
theorem dX3_advise_23 : decode cX3_advise 23 = .ok (.istore 8, 2) := by decide +kernel
theorem dX3_advise_25 : decode cX3_advise 25 = .ok (.iload 8, 2) := by decide +kernel
theorem dX3_advise_27 : decode cX3_advise 27 = .ok (.iload 7, 2) := by decide +kernel
theorem dX3_advise_29 : decode cX3_advise 29 = .ok (.if_icmp .ge 69, 3) := by decide +kernel
theorem dX3_advise_32 : decode cX3_advise 32 = .ok (.aload 6, 2) := by decide +kernel
theorem dX3_advise_34 : decode cX3_advise 34 = .ok (.iload 8, 2) := by decide +kernel
theorem dX3_advise_36 : decode cX3_advise 36 = .ok (.iaload, 1) := by decide +kernel
theorem dX3_advise_37 : decode cX3_advise 37 = .ok (.istore 9, 2) := by decide +kernel
theorem dX3_advise_39 : decode cX3_advise 39 = .ok (.aload_n 0, 1) := by decide +kernel
theorem dX3_advise_40 : decode cX3_advise 40 = .ok (.getfield 16, 3) := by decide +kernel
theorem dX3_advise_43 : decode cX3_advise 43 = .ok (.aload_n 0, 1) := by decide +kernel
theorem dX3_advise_44 : decode cX3_advise 44 = .ok (.getfield 12, 3) := by decide +kernel
theorem dX3_advise_47 : decode cX3_advise 47 = .ok (.invokevirtual 91, 3) := by decide +kernel
theorem dX3_advise_50 : decode cX3_advise 50 = .ok (.aload_n 0, 1) := by decide +kernel
theorem dX3_advise_51 : decode cX3_advise 51 = .ok (.getfield 16, 3) := by decide +kernel
theorem dX3_advise_54 : decode cX3_advise 54 = .ok (.iload 9, 2) := by decide +kernel
theorem dX3_advise_56 : decode cX3_advise 56 = .ok (.putfield 42, 3) := by decide +kernel
theorem dX3_advise_59 : decode cX3_advise 59 = .ok (.aload_n 0, 1) := by decide +kernel
theorem dX3_advise_60 : decode cX3_advise 60 = .ok (.getfield 16, 3) := by decide +kernel
theorem dX3_advise_63 : decode cX3_advise 63 = .ok (.iload_n 1, 1) := by decide +kernel
theorem dX3_advise_64 : decode cX3_advise 64 = .ok (.iload_n 2, 1) := by decide +kernel
theorem dX3_advise_65 : decode cX3_advise 65 = .ok (.iload_n 3, 1) := by decide +kernel
theorem dX3_advise_66 : decode cX3_advise 66 = .ok (.invokevirtual 31, 3) := by decide +kernel
theorem dX3_advise_69 : decode cX3_advise 69 = .ok (.istore 10, 2) := by decide +kernel
theorem dX3_advise_71 : decode cX3_advise 71 = .ok (.iload 4, 2) := by decide +kernel
theorem dX3_advise_73 : decode cX3_advise 73 = .ok (.iconst (-1), 1) := by decide +kernel
theorem dX3_advise_74 : decode cX3_advise 74 = .ok (.if_icmp .eq 10, 3) := by decide +kernel
theorem dX3_advise_77 : decode cX3_advise 77 = .ok (.iload 10, 2) := by decide +kernel
theorem dX3_advise_79 : decode cX3_advise 79 = .ok (.iload 5, 2) := by decide +kernel
theorem dX3_advise_81 : decode cX3_advise 81 = .ok (.if_icmp .ge 11, 3) := by decide +kernel
theorem dX3_advise_84 : decode cX3_advise 84 = .ok (.iload 9, 2) := by decide +kernel
theorem dX3_advise_86 : decode cX3_advise 86 = .ok (.istore 4, 2) := by decide +kernel
theorem dX3_advise_88 : decode cX3_advise 88 = .ok (.iload 10, 2) := by decide +kernel
theorem dX3_advise_90 : decode cX3_advise 90 = .ok (.istore 5, 2) := by decide +kernel
theorem dX3_advise_92 : decode cX3_advise 92 = .ok (.iinc 8 1, 3) := by decide +kernel
theorem dX3_advise_95 : decode cX3_advise 95 = .ok (.goto (-70), 3) := by decide +kernel
theorem dX3_advise_98 : decode cX3_advise 98 = .ok (.iload 4, 2) := by decide +kernel
theorem dX3_advise_100 : decode cX3_advise 100 = .ok (.ireturn, 1) := by decide +kernel
theorem dX3_saved_0 : decode cX3_saved 0 = .ok (.aload_n 0, 1) := by decide +kernel
theorem dX3_saved_1 : decode cX3_saved 1 = .ok (.getfield 12, 3) := by decide +kernel
theorem dX3_saved_4 : decode cX3_saved 4 = .ok (.getfield 99, 3) := by decide +kernel
theorem dX3_saved_7 : decode cX3_saved 7 = .ok (.iconst 5, 1) := by decide +kernel
theorem dX3_saved_8 : decode cX3_saved 8 = .ok (.imul, 1) := by decide +kernel
theorem dX3_saved_9 : decode cX3_saved 9 = .ok (.aload_n 0, 1) := by decide +kernel
theorem dX3_saved_10 : decode cX3_saved 10 = .ok (.getfield 12, 3) := by decide +kernel
theorem dX3_saved_13 : decode cX3_saved 13 = .ok (.getfield 102, 3) := by decide +kernel
theorem dX3_saved_16 : decode cX3_saved 16 = .ok (.isub, 1) := by decide +kernel
theorem dX3_saved_17 : decode cX3_saved 17 = .ok (.ireturn, 1) := by decide +kernel
theorem dX3_mean_0 : decode cX3_mean 0 = .ok (.aload_n 0, 1) := by decide +kernel
theorem dX3_mean_1 : decode cX3_mean 1 = .ok (.getfield 12, 3) := by decide +kernel
theorem dX3_mean_4 : decode cX3_mean 4 = .ok (.getfield 99, 3) := by decide +kernel
theorem dX3_mean_7 : decode cX3_mean 7 = .ok (.ifCond .ne 7, 3) := by decide +kernel
theorem dX3_mean_10 : decode cX3_mean 10 = .ok (.dconst 0, 1) := by decide +kernel
theorem dX3_mean_11 : decode cX3_mean 11 = .ok (.goto 20, 3) := by decide +kernel
theorem dX3_mean_14 : decode cX3_mean 14 = .ok (.aload_n 0, 1) := by decide +kernel
theorem dX3_mean_15 : decode cX3_mean 15 = .ok (.getfield 12, 3) := by decide +kernel
theorem dX3_mean_18 : decode cX3_mean 18 = .ok (.getfield 102, 3) := by decide +kernel
theorem dX3_mean_21 : decode cX3_mean 21 = .ok (.i2d, 1) := by decide +kernel
theorem dX3_mean_22 : decode cX3_mean 22 = .ok (.aload_n 0, 1) := by decide +kernel
theorem dX3_mean_23 : decode cX3_mean 23 = .ok (.getfield 12, 3) := by decide +kernel
theorem dX3_mean_26 : decode cX3_mean 26 = .ok (.getfield 99, 3) := by decide +kernel
theorem dX3_mean_29 : decode cX3_mean 29 = .ok (.i2d, 1) := by decide +kernel
theorem dX3_mean_30 : decode cX3_mean 30 = .ok (.ddiv, 1) := by decide +kernel
theorem dX3_mean_31 : decode cX3_mean 31 = .ok (.dreturn, 1) := by decide +kernel
set_option maxRecDepth 20000 in
theorem ggX3_digest_X1_factOfShop : GoodIn wsX3_digest wsX1_factOfShop := goodIn_r _ [7, 8, 9, 10, 11, 12, 13, 14, 15, 16, 17, 18, 19, 20, 21, 22, 23, 42, 43, 44, 45, 46, 47, 48, 49, 50, 51, 52, 53, 54] (by decide +kernel) (by decide +kernel)
set_option maxRecDepth 20000 in
theorem gX3_digest_X1_factOfShop_n77 : GoodIn wsX3_digest (wsX1_factOfShop) := ggX3_digest_X1_factOfShop
set_option maxRecDepth 20000 in
theorem ggX3_digest_X2_factOfNode : GoodIn wsX3_digest wsX2_factOfNode := goodIn_r _ [26, 20, 27, 28, 29, 21, 22, 23, 46, 47, 48, 49, 50, 51, 52, 53, 54] (by decide +kernel) (by decide +kernel)
set_option maxRecDepth 20000 in
theorem gX3_digest_X2_factOfNode_n74 : GoodIn wsX3_digest (wsX2_factOfNode) := ggX3_digest_X2_factOfNode
set_option maxRecDepth 20000 in
theorem ggX3_digest_X1_bitsFor : GoodIn wsX3_digest wsX1_bitsFor := goodIn_r _ [32, 8, 33, 13, 34, 35, 36, 21, 22, 23, 37, 38, 39, 28, 42, 43, 44, 45, 46, 47, 48, 49, 50, 51, 52, 53, 54] (by decide +kernel) (by decide +kernel)
set_option maxRecDepth 20000 in
theorem gX3_digest_X1_bitsFor_n64 : GoodIn wsX3_digest (wsX1_bitsFor) := ggX3_digest_X1_bitsFor
theorem dX3_digest_0 : decode cX3_digest 0 = .ok (.ldc2_w 105, 3) := by decide +kernel
theorem dX3_digest_3 : decode cX3_digest 3 = .ok (.lstore_n 1, 1) := by decide +kernel
theorem dX3_digest_4 : decode cX3_digest 4 = .ok (.iconst 0, 1) := by decide +kernel
theorem dX3_digest_5 : decode cX3_digest 5 = .ok (.istore_n 3, 1) := by decide +kernel
theorem dX3_digest_6 : decode cX3_digest 6 = .ok (.iload_n 3, 1) := by decide +kernel
theorem dX3_digest_7 : decode cX3_digest 7 = .ok (.bipush 8, 2) := by decide +kernel
theorem dX3_digest_9 : decode cX3_digest 9 = .ok (.if_icmp .ge 25, 3) := by decide +kernel
theorem dX3_digest_12 : decode cX3_digest 12 = .ok (.lload_n 1, 1) := by decide +kernel
theorem dX3_digest_13 : decode cX3_digest 13 = .ok (.ldc2_w 107, 3) := by decide +kernel
theorem dX3_digest_16 : decode cX3_digest 16 = .ok (.lmul, 1) := by decide +kernel
theorem dX3_digest_17 : decode cX3_digest 17 = .ok (.aload_n 0, 1) := by decide +kernel
theorem dX3_digest_18 : decode cX3_digest 18 = .ok (.getfield 12, 3) := by decide +kernel
theorem dX3_digest_21 : decode cX3_digest 21 = .ok (.iload_n 3, 1) := by decide +kernel
theorem dX3_digest_22 : decode cX3_digest 22 = .ok (.invokevirtual 77, 3) := by decide +kernel
theorem dX3_digest_25 : decode cX3_digest 25 = .ok (.i2l, 1) := by decide +kernel
theorem dX3_digest_26 : decode cX3_digest 26 = .ok (.ladd, 1) := by decide +kernel
theorem dX3_digest_27 : decode cX3_digest 27 = .ok (.lstore_n 1, 1) := by decide +kernel
theorem dX3_digest_28 : decode cX3_digest 28 = .ok (.iinc 3 1, 3) := by decide +kernel
theorem dX3_digest_31 : decode cX3_digest 31 = .ok (.goto (-25), 3) := by decide +kernel
theorem dX3_digest_34 : decode cX3_digest 34 = .ok (.aload_n 0, 1) := by decide +kernel
theorem dX3_digest_35 : decode cX3_digest 35 = .ok (.getfield 12, 3) := by decide +kernel
theorem dX3_digest_38 : decode cX3_digest 38 = .ok (.getfield 46, 3) := by decide +kernel
theorem dX3_digest_41 : decode cX3_digest 41 = .ok (.getfield 71, 3) := by decide +kernel
theorem dX3_digest_44 : decode cX3_digest 44 = .ok (.istore_n 3, 1) := by decide +kernel
theorem dX3_digest_45 : decode cX3_digest 45 = .ok (.iconst 0, 1) := by decide +kernel
theorem dX3_digest_46 : decode cX3_digest 46 = .ok (.istore 4, 2) := by decide +kernel
theorem dX3_digest_48 : decode cX3_digest 48 = .ok (.iload 4, 2) := by decide +kernel
theorem dX3_digest_50 : decode cX3_digest 50 = .ok (.iload_n 3, 1) := by decide +kernel
theorem dX3_digest_51 : decode cX3_digest 51 = .ok (.if_icmp .ge 46, 3) := by decide +kernel
theorem dX3_digest_54 : decode cX3_digest 54 = .ok (.iconst 0, 1) := by decide +kernel
theorem dX3_digest_55 : decode cX3_digest 55 = .ok (.istore 5, 2) := by decide +kernel
theorem dX3_digest_57 : decode cX3_digest 57 = .ok (.iload 5, 2) := by decide +kernel
theorem dX3_digest_59 : decode cX3_digest 59 = .ok (.iconst 4, 1) := by decide +kernel
theorem dX3_digest_60 : decode cX3_digest 60 = .ok (.if_icmp .ge 31, 3) := by decide +kernel
theorem dX3_digest_63 : decode cX3_digest 63 = .ok (.lload_n 1, 1) := by decide +kernel
theorem dX3_digest_64 : decode cX3_digest 64 = .ok (.ldc2_w 107, 3) := by decide +kernel
theorem dX3_digest_67 : decode cX3_digest 67 = .ok (.lmul, 1) := by decide +kernel
theorem dX3_digest_68 : decode cX3_digest 68 = .ok (.aload_n 0, 1) := by decide +kernel
theorem dX3_digest_69 : decode cX3_digest 69 = .ok (.getfield 12, 3) := by decide +kernel
theorem dX3_digest_72 : decode cX3_digest 72 = .ok (.getfield 46, 3) := by decide +kernel
theorem dX3_digest_75 : decode cX3_digest 75 = .ok (.iload 4, 2) := by decide +kernel
theorem dX3_digest_77 : decode cX3_digest 77 = .ok (.iload 5, 2) := by decide +kernel
theorem dX3_digest_79 : decode cX3_digest 79 = .ok (.invokevirtual 74, 3) := by decide +kernel
theorem dX3_digest_82 : decode cX3_digest 82 = .ok (.i2l, 1) := by decide +kernel
theorem dX3_digest_83 : decode cX3_digest 83 = .ok (.ladd, 1) := by decide +kernel
theorem dX3_digest_84 : decode cX3_digest 84 = .ok (.lstore_n 1, 1) := by decide +kernel
theorem dX3_digest_85 : decode cX3_digest 85 = .ok (.iinc 5 1, 3) := by decide +kernel
theorem dX3_digest_88 : decode cX3_digest 88 = .ok (.goto (-31), 3) := by decide +kernel
theorem dX3_digest_91 : decode cX3_digest 91 = .ok (.iinc 4 1, 3) := by decide +kernel
theorem dX3_digest_94 : decode cX3_digest 94 = .ok (.goto (-46), 3) := by decide +kernel
theorem dX3_digest_97 : decode cX3_digest 97 = .ok (.iconst 0, 1) := by decide +kernel
theorem dX3_digest_98 : decode cX3_digest 98 = .ok (.istore 4, 2) := by decide +kernel
theorem dX3_digest_100 : decode cX3_digest 100 = .ok (.iload 4, 2) := by decide +kernel
theorem dX3_digest_102 : decode cX3_digest 102 = .ok (.bipush 32, 2) := by decide +kernel
theorem dX3_digest_104 : decode cX3_digest 104 = .ok (.if_icmp .ge 26, 3) := by decide +kernel
theorem dX3_digest_107 : decode cX3_digest 107 = .ok (.lload_n 1, 1) := by decide +kernel
theorem dX3_digest_108 : decode cX3_digest 108 = .ok (.ldc2_w 107, 3) := by decide +kernel
theorem dX3_digest_111 : decode cX3_digest 111 = .ok (.lmul, 1) := by decide +kernel
theorem dX3_digest_112 : decode cX3_digest 112 = .ok (.aload_n 0, 1) := by decide +kernel
theorem dX3_digest_113 : decode cX3_digest 113 = .ok (.getfield 12, 3) := by decide +kernel
theorem dX3_digest_116 : decode cX3_digest 116 = .ok (.iload 4, 2) := by decide +kernel
theorem dX3_digest_118 : decode cX3_digest 118 = .ok (.invokevirtual 64, 3) := by decide +kernel
theorem dX3_digest_121 : decode cX3_digest 121 = .ok (.i2l, 1) := by decide +kernel
theorem dX3_digest_122 : decode cX3_digest 122 = .ok (.ladd, 1) := by decide +kernel
theorem dX3_digest_123 : decode cX3_digest 123 = .ok (.lstore_n 1, 1) := by decide +kernel
theorem dX3_digest_124 : decode cX3_digest 124 = .ok (.iinc 4 1, 3) := by decide +kernel
theorem dX3_digest_127 : decode cX3_digest 127 = .ok (.goto (-27), 3) := by decide +kernel
theorem dX3_digest_130 : decode cX3_digest 130 = .ok (.lload_n 1, 1) := by decide +kernel
theorem dX3_digest_131 : decode cX3_digest 131 = .ok (.lreturn, 1) := by decide +kernel
theorem dX3_requireIndex_0 : decode cX3_requireIndex 0 = .ok (.iload_n 0, 1) := by decide +kernel
theorem dX3_requireIndex_1 : decode cX3_requireIndex 1 = .ok (.ifCond .lt 8, 3) := by decide +kernel
theorem dX3_requireIndex_4 : decode cX3_requireIndex 4 = .ok (.iload_n 0, 1) := by decide +kernel
theorem dX3_requireIndex_5 : decode cX3_requireIndex 5 = .ok (.iload_n 1, 1) := by decide +kernel
theorem dX3_requireIndex_6 : decode cX3_requireIndex 6 = .ok (.if_icmp .lt 13, 3) := by decide +kernel
theorem dX3_requireIndex_9 : decode cX3_requireIndex 9 = .ok (.new 109, 3) := by decide +kernel
theorem dX3_requireIndex_12 : decode cX3_requireIndex 12 = .ok (.dup, 1) := by decide +kernel
theorem dX3_requireIndex_13 : decode cX3_requireIndex 13 = .ok (.ldc 111, 2) := by decide +kernel
theorem dX3_requireIndex_15 : decode cX3_requireIndex 15 = .ok (.invokespecial 113, 3) := by decide +kernel
theorem dX3_requireIndex_18 : decode cX3_requireIndex 18 = .ok (.athrow, 1) := by decide +kernel
theorem dX3_requireIndex_19 : decode cX3_requireIndex 19 = .ok (.return_, 1) := by decide +kernel
set_option maxRecDepth 20000 in
theorem ggX3_requireRow_X3_requireIndex : GoodIn wsX3_requireRow wsX3_requireIndex := goodIn_ca (goodIn_r _ [6, 7, 8] (by decide +kernel) (by decide +kernel)) (goodIn_sub (fun _ h => List.mem_cons_of_mem _ (List.mem_append_right _ h)) (by decide +kernel))
set_option maxRecDepth 20000 in
theorem gX3_requireRow_X3_requireIndex : GoodIn wsX3_requireRow (va_wsS RX3 19 yX3_requireIndex wsX3_requireIndex) := goodIn_app (goodIn_of _ (by decide +kernel)) ggX3_requireRow_X3_requireIndex
theorem dX3_requireRow_0 : decode cX3_requireRow 0 = .ok (.iload_n 0, 1) := by decide +kernel
theorem dX3_requireRow_1 : decode cX3_requireRow 1 = .ok (.bipush 32, 2) := by decide +kernel
theorem dX3_requireRow_3 : decode cX3_requireRow 3 = .ok (.invokestatic 19, 3) := by decide +kernel
theorem dX3_requireRow_6 : decode cX3_requireRow 6 = .ok (.iload_n 1, 1) := by decide +kernel
theorem dX3_requireRow_7 : decode cX3_requireRow 7 = .ok (.ifCond .lt 9, 3) := by decide +kernel
theorem dX3_requireRow_10 : decode cX3_requireRow 10 = .ok (.iload_n 1, 1) := by decide +kernel
theorem dX3_requireRow_11 : decode cX3_requireRow 11 = .ok (.bipush 32, 2) := by decide +kernel
theorem dX3_requireRow_13 : decode cX3_requireRow 13 = .ok (.if_icmp .lt 13, 3) := by decide +kernel
theorem dX3_requireRow_16 : decode cX3_requireRow 16 = .ok (.new 35, 3) := by decide +kernel
theorem dX3_requireRow_19 : decode cX3_requireRow 19 = .ok (.dup, 1) := by decide +kernel
theorem dX3_requireRow_20 : decode cX3_requireRow 20 = .ok (.ldc 114, 2) := by decide +kernel
theorem dX3_requireRow_22 : decode cX3_requireRow 22 = .ok (.invokespecial 39, 3) := by decide +kernel
theorem dX3_requireRow_25 : decode cX3_requireRow 25 = .ok (.athrow, 1) := by decide +kernel
theorem dX3_requireRow_26 : decode cX3_requireRow 26 = .ok (.iload_n 2, 1) := by decide +kernel
theorem dX3_requireRow_27 : decode cX3_requireRow 27 = .ok (.iconst 1, 1) := by decide +kernel
theorem dX3_requireRow_28 : decode cX3_requireRow 28 = .ok (.if_icmp .lt 9, 3) := by decide +kernel
theorem dX3_requireRow_31 : decode cX3_requireRow 31 = .ok (.iload_n 2, 1) := by decide +kernel
theorem dX3_requireRow_32 : decode cX3_requireRow 32 = .ok (.bipush 40, 2) := by decide +kernel
theorem dX3_requireRow_34 : decode cX3_requireRow 34 = .ok (.if_icmp .le 13, 3) := by decide +kernel
theorem dX3_requireRow_37 : decode cX3_requireRow 37 = .ok (.new 35, 3) := by decide +kernel
theorem dX3_requireRow_40 : decode cX3_requireRow 40 = .ok (.dup, 1) := by decide +kernel
theorem dX3_requireRow_41 : decode cX3_requireRow 41 = .ok (.ldc 116, 2) := by decide +kernel
theorem dX3_requireRow_43 : decode cX3_requireRow 43 = .ok (.invokespecial 39, 3) := by decide +kernel
theorem dX3_requireRow_46 : decode cX3_requireRow 46 = .ok (.athrow, 1) := by decide +kernel
theorem dX3_requireRow_47 : decode cX3_requireRow 47 = .ok (.return_, 1) := by decide +kernel
theorem dX3_at_0 : decode cX3_at 0 = .ok (.iload_n 1, 1) := by decide +kernel
theorem dX3_at_1 : decode cX3_at 1 = .ok (.ifCond .lt 15, 3) := by decide +kernel
theorem dX3_at_4 : decode cX3_at 4 = .ok (.iload_n 1, 1) := by decide +kernel
theorem dX3_at_5 : decode cX3_at 5 = .ok (.aload_n 0, 1) := by decide +kernel
theorem dX3_at_6 : decode cX3_at 6 = .ok (.arraylength, 1) := by decide +kernel
theorem dX3_at_7 : decode cX3_at 7 = .ok (.if_icmp .ge 9, 3) := by decide +kernel
theorem dX3_at_10 : decode cX3_at 10 = .ok (.aload_n 0, 1) := by decide +kernel
theorem dX3_at_11 : decode cX3_at 11 = .ok (.iload_n 1, 1) := by decide +kernel
theorem dX3_at_12 : decode cX3_at 12 = .ok (.iaload, 1) := by decide +kernel
theorem dX3_at_13 : decode cX3_at 13 = .ok (.goto 4, 3) := by decide +kernel
theorem dX3_at_16 : decode cX3_at 16 = .ok (.iconst (-1), 1) := by decide +kernel
theorem dX3_at_17 : decode cX3_at 17 = .ok (.ireturn, 1) := by decide +kernel
theorem dX3_put_0 : decode cX3_put 0 = .ok (.iload_n 1, 1) := by decide +kernel
theorem dX3_put_1 : decode cX3_put 1 = .ok (.ifCond .lt 13, 3) := by decide +kernel
theorem dX3_put_4 : decode cX3_put 4 = .ok (.iload_n 1, 1) := by decide +kernel
theorem dX3_put_5 : decode cX3_put 5 = .ok (.aload_n 0, 1) := by decide +kernel
theorem dX3_put_6 : decode cX3_put 6 = .ok (.arraylength, 1) := by decide +kernel
theorem dX3_put_7 : decode cX3_put 7 = .ok (.if_icmp .ge 7, 3) := by decide +kernel
theorem dX3_put_10 : decode cX3_put 10 = .ok (.aload_n 0, 1) := by decide +kernel
theorem dX3_put_11 : decode cX3_put 11 = .ok (.iload_n 1, 1) := by decide +kernel
theorem dX3_put_12 : decode cX3_put 12 = .ok (.iload_n 2, 1) := by decide +kernel
theorem dX3_put_13 : decode cX3_put 13 = .ok (.iastore, 1) := by decide +kernel
theorem dX3_put_14 : decode cX3_put 14 = .ok (.return_, 1) := by decide +kernel
set_option maxRecDepth 20000 in
theorem ggX4_init_X4_set : GoodIn wsX4_init wsX4_set := goodIn_r _ [15, 5, 6, 7, 16, 17, 18, 19, 20, 21, 22, 23, 24, 25, 26, 27] (by decide +kernel) (by decide +kernel)
set_option maxRecDepth 20000 in
theorem gX4_init_X4_set : GoodIn wsX4_init (wsV RX4 29 RX4 yX4_set wsX4_set) := goodIn_app (goodIn_of _ (by decide +kernel)) ggX4_init_X4_set
end
section
/-! CONTRACTS OF THE WALK: their starts, their ends, their calls. -/
def cb_nwL : List Cond := [.methodLinkNest RX3 11 yX1_init RX3, .methodLinkNest RX1 11 yX2_init RX3, .methodLinkNest RX2 29 yX0_init RX3, .methodLinkNest RX2 68 yX3_put RX3, .methodLinkNest RX3 87 yX2_knows RX3, .methodLinkNest RX2 54 yX3_at RX3, .methodLinkNest RX3 64 yX1_bitsFor RX3, .methodLinkNest RX1 26 yX2_knows RX3, .methodLinkNest RX1 30 yX2_lengthOf RX3, .methodLinkNest RX3 77 yX1_factOfShop RX3, .methodLinkNest RX1 60 yX2_knownLasts RX3, .methodLinkNest RX1 50 yX2_weightOfRoot RX3, .methodLinkNest RX3 74 yX2_factOfNode RX3, .methodLinkNest RX3 23 yX1_takeOne RX3, .methodLinkNest RX1 37 yX2_learn RX3, .methodLinkNest RX1 41 yX2_makeHeavier RX3, .methodLinkNest RX1 54 yX2_wearDown RX3, .methodLinkNest RX2 96 yX0_clear RX3, .methodLinkNest RX2 89 yX0_add RX3, .methodLinkNest RX0 25 yX3_put RX3, .methodLinkNest RX2 103 yX0_lightest RX3, .methodLinkNest RX0 29 yX3_at RX3, .methodLinkNest RX2 109 yX0_drop RX3, .methodLinkNest RX3 31 yX1_takeRow RX3, .methodLinkNest RX3 50 yX2_knownLasts RX3, .methodLinkNest RX3 61 yX2_wearDown RX3, .methodLinkNest RX3 67 yX2_factOfLeaf RX3, .methodLinkNest RX3 84 yX2_firstWritten RX3, .methodLinkNest RX3 91 yX1_startLike RX3, .methodLinkNest RX1 22 yX2_becomeLike RX3, .fieldLinkNest RX2 106 "CobblerCodes$Heap" "weight" "[I" RX3, .fieldLinkNest RX2 107 "CobblerCodes$Heap" "leaf" "[I" RX3, .fieldLinkNest RX2 108 "CobblerCodes$Heap" "firstPart" "[I" RX3, .fieldLinkNest RX1 63 "CobblerCodes$Tree" "size" "I" RX3, .fieldLinkNest RX3 71 "CobblerCodes$Tree" "size" "I" RX3, .fieldLinkNest RX1 66 "CobblerCodes$Tree" "exchanges" "I" RX3, .fieldLinkNest RX1 69 "CobblerCodes$Tree" "wears" "I" RX3, .fieldLinkNest RX3 46 "CobblerCodes$Shop" "tree" "LCobblerCodes$Tree;" RX3, .fieldLinkNest RX3 42 "CobblerCodes$Shop" "limit" "I" RX3, .fieldLinkNest RX3 99 "CobblerCodes$Shop" "uses" "I" RX3, .fieldLinkNest RX3 102 "CobblerCodes$Shop" "bits" "I" RX3]
def cb_nk : Cond → Bool
  | .methodLinkNest _ _ _ _ => true
  | .fieldLinkNest _ _ _ _ _ _ => true
  | _ => false
theorem cb_nwL_ok : ∀ w ∈ cb_nwL, cb_nk w = true := by decide +kernel
/-- the links between nest mates, as the tables have them -/
def cb_nw (U : State) : Prop := ∀ w ∈ cb_nwL, va_Nw w U
theorem cb_nw.warm {s U : State} (hW : s.WarmedH U.vm) (h : cb_nw s) : cb_nw U := by
  intro w hw
  have h1 := cb_nwL_ok w hw
  have h2 := h w hw
  cases w <;> first | exact va_Nw.warmM hW h2 | exact va_Nw.warmF hW h2 | exact absurd h1 (by simp [cb_nk])
theorem cb_nw.same {u U : State} (hvm : u.vm = U.vm) (h : cb_nw u) : cb_nw U := by
  intro w hw
  have h1 := cb_nwL_ok w hw
  have h2 := h w hw
  cases w <;> first | exact va_Nw.same rfl hvm h2 | exact absurd h1 (by simp [cb_nk])
abbrev cb_tys (cy : ClassId) : List (ClassId × FieldType) := [(cy, .int)]
/-- a start of a method that only reads -/
def cb_Pp (D : va_G) (tys : List (ClassId × FieldType)) (ws : va_W) (av : List Value) : Array Value → State → Prop := va_Pc av (fun U => va_P D vwCl ws U.heap ∧ va_K D vwCl tys U ∧ cb_nw U)
/-- a start of a method that writes -/
def cb_Pw (D : va_G) (tys : List (ClassId × FieldType)) (ws : va_W) (sz : Nat) (av : List Value) : Array Value → State → Prop := va_Pc av (fun U => U.heap.size = sz ∧ va_P D vwCl ws U.heap ∧ va_K D vwCl tys U ∧ va_D (fun _ => True) ws ∧ cb_nw U)
theorem cb_Pp.blind {D : va_G} {tys : List (ClassId × FieldType)} {ws : va_W} {av : List Value} : FrameBlind (cb_Pp D tys ws av) := by
  intro a U g mk q
  obtain ⟨q0, q1, q2, q3⟩ := q
  exact ⟨q0, q1, va_K.moved (u := U) (U := U.calling g mk a) (Vm.Alike.refl U.vm) q2, cb_nw.same (u := U) (U := U.calling g mk a) rfl q3⟩
theorem cb_Pw.blind {D : va_G} {tys : List (ClassId × FieldType)} {ws : va_W} {sz : Nat} {av : List Value} : FrameBlind (cb_Pw D tys ws sz av) := by
  intro a U g mk q
  obtain ⟨q0, q1, q2, q3, q4, q5⟩ := q
  exact ⟨q0, q1, q2, va_K.moved (u := U) (U := U.calling g mk a) (Vm.Alike.refl U.vm) q3, q4, cb_nw.same (u := U) (U := U.calling g mk a) rfl q5⟩
section CB
variable {p : Program} {l : Launch} {e : Env} {R : Room} {s : State} {m : MethodId} {args : Array Value} {below : List Frame} {meth : Method} {c : Code} {H : Heap} {locs : List Loc} {cells slots : Nat} {Q : State → Prop}
variable {D : va_G} {tys : List (ClassId × FieldType)} {ws wc wr wc' ws2 : va_W} {A : Nat → Prop} {cy : ClassId}
theorem cb_Pp.pv {C : String} {T : u_T} {N b ci q0 : Nat} {fs : List Value} {As : List Value} (hK : va_K D vwCl tys s) (hP : va_P D vwCl wc H) (hn : cb_nw s) (hc : vwCl[ci]? = some (C, T, N)) (he : wc[q0]? = some (b, .inr (ci, fs))) : PreV s H C b (cb_Pp D tys wc (.ref b :: As)) As :=
  ⟨cb_Pp.blind, va_recv hK hP hc he, fun U hU hW => ⟨rfl, by rw [hU]; exact hP, va_K.moved hW.alike hK, hn.warm hW⟩⟩
theorem cb_Pp.ps {As : List Value} (hK : va_K D vwCl tys s) (hP : va_P D vwCl wc H) (hn : cb_nw s) : PreS s H (cb_Pp D tys wc As) As :=
  ⟨cb_Pp.blind, fun U hU hW => ⟨rfl, by rw [hU]; exact hP, va_K.moved hW.alike hK, hn.warm hW⟩⟩
theorem cb_Pw.pv {C : String} {T : u_T} {N b ci q0 : Nat} {fs : List Value} {As : List Value} (hK : va_K D vwCl tys s) (hP : va_P D vwCl wc H) (hD : va_D A wc) (hn : cb_nw s) (hc : vwCl[ci]? = some (C, T, N)) (he : wc[q0]? = some (b, .inr (ci, fs))) : PreV s H C b (cb_Pw D tys wc H.size (.ref b :: As)) As :=
  ⟨cb_Pw.blind, va_recv hK hP hc he, fun U hU hW => ⟨rfl, by rw [hU], by rw [hU]; exact hP, va_K.moved hW.alike hK, hD.weaken (fun _ _ _ _ => trivial), hn.warm hW⟩⟩
theorem cb_Pw.ps {As : List Value} (hK : va_K D vwCl tys s) (hP : va_P D vwCl wc H) (hD : va_D A wc) (hn : cb_nw s) : PreS s H (cb_Pw D tys wc H.size As) As :=
  ⟨cb_Pw.blind, fun U hU hW => ⟨rfl, by rw [hU], by rw [hU]; exact hP, va_K.moved hW.alike hK, hD.weaken (fun _ _ _ _ => trivial), hn.warm hW⟩⟩
/-- the end of a method that only reads: this answer, and no cell has changed -/
def cb_Si (r0 : Int32) : Array Value → State → Outcome → State → Prop := fun _ st o t => o = .returned (some (.int r0)) ∧ t.heap = st.heap
def cb_Sl (r0 : Int64) : Array Value → State → Outcome → State → Prop := fun _ st o t => o = .returned (some (.long r0)) ∧ t.heap = st.heap
/-- what a method that writes leaves -/
def cb_B (D : va_G) (tys : List (ClassId × FieldType)) (A : Nat → Prop) (ws' : va_W) (t : State) : Prop := va_P D vwCl ws' t.heap ∧ va_K D vwCl tys t ∧ va_D A ws'
def cb_Qi (D : va_G) (tys : List (ClassId × FieldType)) (A : Nat → Prop) (ws' : va_W) (r0 : Int32) : Array Value → State → Outcome → State → Prop := va_Qi (fun (r : Int32) (_ : Unit) => r = r0) (fun _ t => cb_B D tys A ws' t) A
def cb_Qv (D : va_G) (tys : List (ClassId × FieldType)) (A : Nat → Prop) (ws' : va_W) : Array Value → State → Outcome → State → Prop := va_Qv (fun _ : Unit => True) (fun _ t => cb_B D tys A ws' t) A
variable {pc mc ms : Nat} {ls : Array Slot} {rest st0 : List Value} {a : Array Value}
theorem cb_callSi {r0 : Int32} (hr : va_Run p l e R s m args below meth c H locs cells slots 0 0 (F0 m pc ls st0) rest (cb_Si r0 a) (fun _ => False))
    (kk : W p l e R s m args below meth c H locs cells slots Q (F0 m (pc + 3) ls (.int r0 :: rest))) : W p l e R s m args below meth c H locs cells slots Q (F0 m pc ls st0) := by
  intro T hT X
  obtain ⟨v, st₀, t, T', L, h0, X', hL, e1, e2, ⟨hv, hh⟩, st⟩ := hr T hT X
  cases hv
  have hL0 : L = [] := by
    cases L with
    | nil => rfl
    | cons q L => exact absurd (hL q List.mem_cons_self) id
  subst hL0
  rw [List.append_nil] at X'
  obtain ⟨t2, a1, b1⟩ := kk T' (by rw [e1, hh, h0]) X'
  exact ⟨t2, st t2 a1, b1⟩
theorem cb_callSl {r0 : Int64} (hr : va_Run p l e R s m args below meth c H locs cells slots 0 0 (F0 m pc ls st0) rest (cb_Sl r0 a) (fun _ => False))
    (kk : W p l e R s m args below meth c H locs cells slots Q (F0 m (pc + 3) ls (.long r0 :: rest))) : W p l e R s m args below meth c H locs cells slots Q (F0 m pc ls st0) := by
  intro T hT X
  obtain ⟨v, st₀, t, T', L, h0, X', hL, e1, e2, ⟨hv, hh⟩, st⟩ := hr T hT X
  cases hv
  have hL0 : L = [] := by
    cases L with
    | nil => rfl
    | cons q L => exact absurd (hL q List.mem_cons_self) id
  subst hL0
  rw [List.append_nil] at X'
  obtain ⟨t2, a1, b1⟩ := kk T' (by rw [e1, hh, h0]) X'
  exact ⟨t2, st t2 a1, b1⟩
/-- behind a call that wrote: the cells in their old order -/
theorem cb_back (hP : va_P D vwCl ws H) (hD : va_D A ws) (hS : va_S A s.heap H locs) (hA : ∀ q, s.heap.size ≤ q → A q) (isC isR perm : List Nat)
    (hC : isC.map (fun i => ws[i]?) = wc.map some) (hR : isR.map (fun i => ws[i]?) = wr.map some) (hn : va_nd isR = true) (hdis : ∀ i ∈ isR, i ∉ isC) (hp : perm.map (fun i => (wr ++ wc')[i]?) = ws2.map some) (hpn : va_nd perm = true)
    {H1 : Heap} (hk : ∀ q : Nat, q < H.size → ¬ va_A wc H.size q → H1[q]? = H[q]?) (hP1 : va_P D vwCl wc' H1) (hD1 : va_D (va_A wc H.size) wc') : va_P D vwCl ws2 H1 ∧ va_D A ws2 := by
  obtain ⟨h1, h2⟩ := va_join (wr := wr) (w1 := wc') hP hD isC isR hC hR hn hdis hk (va_free hD hS hA isC hC) hP1 hD1
  refine ⟨h1.sub perm ?_, h2.sub perm hpn hp⟩
  have h3 : ∀ (l : List Nat) (l2 : va_W), l.map (fun i => (wr ++ wc')[i]?) = l2.map some → l.filterMap (fun i => (wr ++ wc')[i]?) = l2 := by
    intro l
    induction l with
    | nil =>
      intro l2 h
      cases l2 with
      | nil => rfl
      | cons x l2 => simp at h
    | cons i l ih =>
      intro l2 h
      cases l2 with
      | nil => simp at h
      | cons x l2 =>
        rw [List.map_cons, List.map_cons] at h
        injection h with ha hb
        rw [List.filterMap_cons, ha]
        show x :: _ = _
        rw [ih l2 hb]
  exact h3 perm ws2 hp
theorem cb_callQi {r0 : Int32} (hP : va_P D vwCl ws H) (hD : va_D A ws) (hS : va_S A s.heap H locs) (hA : ∀ q, s.heap.size ≤ q → A q) (isC isR perm : List Nat)
    (hr : va_Run p l e R s m args below meth c H locs cells slots mc ms (F0 m pc ls st0) rest (cb_Qi D tys (va_A wc H.size) wc' r0 a) (va_A wc H.size))
    (hC : isC.map (fun i => ws[i]?) = wc.map some) (hR : isR.map (fun i => ws[i]?) = wr.map some) (hn : va_nd isR = true) (hdis : ∀ i ∈ isR, i ∉ isC) (hp : perm.map (fun i => (wr ++ wc')[i]?) = ws2.map some) (hpn : va_nd perm = true)
    (kk : ∀ (H : Heap) (locs : List Loc), va_P D vwCl ws2 H → va_D A ws2 → va_S A s.heap H locs → W p l e R s m args below meth c H locs (cells + mc) (slots + ms) Q (F0 m (pc + 3) ls (.int r0 :: rest))) : W p l e R s m args below meth c H locs cells slots Q (F0 m pc ls st0) := by
  have hF := va_free (wc := wc) hD hS hA isC hC
  refine va_calli hr hS (fun q _ h => hF q h) hF (fun r u t H1 locs1 ht hvm hw hB hz1 hk1 hS1 => ?_)
  obtain ⟨hP1, hK1, hD1⟩ := hB
  rw [ht] at hP1
  obtain ⟨h1, h2⟩ := cb_back hP hD hS hA isC isR perm hC hR hn hdis hp hpn hk1 hP1 hD1
  cases hw
  exact kk H1 locs1 h1 h2 hS1
theorem cb_callQv (hP : va_P D vwCl ws H) (hD : va_D A ws) (hS : va_S A s.heap H locs) (hA : ∀ q, s.heap.size ≤ q → A q) (isC isR perm : List Nat)
    (hr : va_Run p l e R s m args below meth c H locs cells slots mc ms (F0 m pc ls st0) rest (cb_Qv D tys (va_A wc H.size) wc' a) (va_A wc H.size))
    (hC : isC.map (fun i => ws[i]?) = wc.map some) (hR : isR.map (fun i => ws[i]?) = wr.map some) (hn : va_nd isR = true) (hdis : ∀ i ∈ isR, i ∉ isC) (hp : perm.map (fun i => (wr ++ wc')[i]?) = ws2.map some) (hpn : va_nd perm = true)
    (kk : ∀ (H : Heap) (locs : List Loc), va_P D vwCl ws2 H → va_D A ws2 → va_S A s.heap H locs → W p l e R s m args below meth c H locs (cells + mc) (slots + ms) Q (F0 m (pc + 3) ls rest)) : W p l e R s m args below meth c H locs cells slots Q (F0 m pc ls st0) := by
  have hF := va_free (wc := wc) hD hS hA isC hC
  refine va_callv hr hS (fun q _ h => hF q h) hF (fun u t H1 locs1 ht hvm hw hB hz1 hk1 hS1 => ?_)
  obtain ⟨hP1, hK1, hD1⟩ := hB
  rw [ht] at hP1
  obtain ⟨h1, h2⟩ := cb_back hP hD hS hA isC isR perm hC hR hn hdis hp hpn hk1 hP1 hD1
  exact kk H1 locs1 h1 h2 hS1
variable {cc : ByteArray}
theorem cb_endSi {v r0 : Int32} (hexec : p.tables.exec = Jvm.exec) (hb : c.code = cc) (hr : meth.sig.returnType = some .int) (hlocks : meth.locks = false) (hv : v = r0) (hdg : decode cc pc = .ok (.ireturn, 1)) : W p l e R s m args below meth c s.heap [] 0 0 (MQ below (cb_Si r0) args s 0 0 (fun _ => False)) (F0 m pc ls [.int v]) := by
  subst hv
  exact W.iret (v := v) hexec hb hr (fun t ht hW => ⟨rfl, ht⟩) (fun _ h => nomatch h) hdg
theorem cb_endSz {v r0 : Int32} (hexec : p.tables.exec = Jvm.exec) (hb : c.code = cc) (hr : meth.sig.returnType = some .boolean) (hlocks : meth.locks = false) (hv : v = r0) (hz : v = 0 ∨ v = 1) (hdg : decode cc pc = .ok (.ireturn, 1)) : W p l e R s m args below meth c s.heap [] 0 0 (MQ below (cb_Si r0) args s 0 0 (fun _ => False)) (F0 m pc ls [.int v]) := by
  subst hv
  exact W.zret (v := v) hexec hb hr (by rcases hz with rfl | rfl <;> decide) (fun t ht hW => ⟨rfl, ht⟩) (fun _ h => nomatch h) hdg
theorem cb_endSl {v r0 : Int64} (hexec : p.tables.exec = Jvm.exec) (hb : c.code = cc) (hr : meth.sig.returnType = some .long) (hlocks : meth.locks = false) (hv : v = r0) (hdg : decode cc pc = .ok (.lreturn, 1)) : W p l e R s m args below meth c s.heap [] 0 0 (MQ below (cb_Sl r0) args s 0 0 (fun _ => False)) (F0 m pc ls [.long v]) := by
  subst hv
  exact W.lret (v := v) hexec hb hr (fun t ht hW => ⟨rfl, ht⟩) (fun _ h => nomatch h) hdg
theorem cb_endQi {v r0 : Int32} (hexec : p.tables.exec = Jvm.exec) (hb : c.code = cc) (hr : meth.sig.returnType = some .int) (hlocks : meth.locks = false) (hP : va_P D vwCl ws H) (hD : va_D A ws) (hK : va_K D vwCl tys s) (hS : va_S A s.heap H locs) (hv : v = r0) (hw : ws2 = ws) (hc : cells ≤ mc) (hs : slots ≤ ms) (hdg : decode cc pc = .ok (.ireturn, 1)) : W p l e R s m args below meth c H locs cells slots (MQ below (cb_Qi D tys A ws2 r0) args s mc ms A) (F0 m pc ls [.int v]) := by
  subst hv hw
  refine W.widen (k := mc) (n := ms) hc hs ?_
  exact W.iret (v := v) hexec hb hr (fun t ht hW => ⟨⟨v, (), rfl, rfl, by rw [ht]; exact hP, va_K.moved hW.alike hK, hD⟩, hS.F ht⟩) hS.2.2 hdg
theorem cb_endQv (hexec : p.tables.exec = Jvm.exec) (hb : c.code = cc) (hr : meth.sig.returnType = none) (hlocks : meth.locks = false) (hP : va_P D vwCl ws H) (hD : va_D A ws) (hK : va_K D vwCl tys s) (hS : va_S A s.heap H locs) (hw : ws2 = ws) (hc : cells ≤ mc) (hs : slots ≤ ms) (hdg : decode cc pc = .ok (.return_, 1)) : W p l e R s m args below meth c H locs cells slots (MQ below (cb_Qv D tys A ws2) args s mc ms A) (F0 m pc ls []) := by
  subst hw
  refine W.widen (k := mc) (n := ms) hc hs ?_
  exact W.vret hexec hb hr (fun t ht hW => ⟨⟨(), rfl, trivial, by rw [ht]; exact hP, va_K.moved hW.alike hK, hD⟩, hS.F ht⟩) hS.2.2 hdg
end CB
end
section
/-! WHAT THE CLASS'S METHODS ANSWER AND DO, as functions of what its rows hold. -/
abbrev A1 : Type := Nat → Int32
/-- the rows of a tree: weight, leaf, first part, above, place of -/
abbrev N5 : Type := A1 × A1 × A1 × A1 × A1
/-- the rows of a heap -/
abbrev H3 : Type := A1 × A1 × A1
def atN (n : Nat) (f : A1) (i : Int32) : Int32 := if i < 0 then -1 else if nI n ≤ i then -1 else f i.toNatClampNeg
def putN (n : Nat) (f : A1) (i v : Int32) : A1 := if i < 0 then f else if nI n ≤ i then f else upd f i.toNatClampNeg v
theorem cb_in {n : Nat} {i : Int32} (hn : n < 2 ^ 31) (h0 : ¬ i < 0) (h1 : ¬ nI n ≤ i) : vp_in i n := by
  rw [vp_in_iff]
  rw [Int32.lt_iff_toInt_lt] at h0
  rw [Int32.le_iff_toInt_le, nI_toInt hn] at h1
  simp at h0
  omega
/-- a counter from below against a bound -/
theorem cb_lo {i : Nat} {N : Int32} (h : i + 0 = N.toNatClampNeg) : N ≤ nI i := by
  have h2 : N.toNatClampNeg < 2 ^ 31 := by
    have := Int32.toInt_lt N
    unfold Int32.toNatClampNeg
    omega
  rw [Int32.le_iff_toInt_le, nI_toInt (by omega)]
  unfold Int32.toNatClampNeg at h
  omega
theorem cb_hi {i k : Nat} {N : Int32} (h : i + (k + 1) = N.toNatClampNeg) : ¬ N ≤ nI i := by
  have h2 : N.toNatClampNeg < 2 ^ 31 := by
    have := Int32.toInt_lt N
    unfold Int32.toNatClampNeg
    omega
  rw [Int32.le_iff_toInt_le, nI_toInt (by omega)]
  unfold Int32.toNatClampNeg at h
  omega
def cKnows (po : A1) (last : Int32) : Int32 := if atN 33 po last = -1 then 0 else 1
-- the heap
def cLightL (hw : A1) : Nat → Int32 → Int32 → Int32
  | 0, _, best => best
  | k + 1, i, best => cLightL hw k (i + 1) (if atN 65 hw i = 0 then best else if best = -1 then i else if atN 65 hw best ≤ atN 65 hw i then best else i)
def cLight (hw : A1) (hs : Int32) : Int32 := cLightL hw hs.toNatClampNeg 0 (-1)
def cAdd (h : H3) (hs x y z : Int32) : H3 := (putN 65 h.1 hs x, putN 65 h.2.1 hs y, putN 65 h.2.2 hs z)
-- the tree, looked at
def cLenL (ab : A1) : Nat → Int32 → Int32 → Int32
  | 0, len, _ => len
  | k + 1, len, fork => if fork = -1 then len else cLenL ab k (len + 1) (atN 65 ab fork)
def cLen (T : N5) (which : Int32) : Int32 := cLenL T.2.2.2.1 65 0 (atN 65 T.2.2.2.1 (atN 33 T.2.2.2.2 which))
def cCodeL (fp ab : A1) : Nat → Int32 → Int32 → Int32 → Int32 → Int32
  | 0, code, _, _, _ => code
  | k + 1, code, place, fork, bit => if fork = -1 then code else cCodeL fp ab k (if place = atN 65 fp fork then code else code ||| (1 <<< (bit &&& 31))) fork (atN 65 ab fork) (bit + 1)
def cCode (T : N5) (which : Int32) : Int32 := cCodeL T.2.2.1 T.2.2.2.1 65 0 (atN 33 T.2.2.2.2 which) (atN 65 T.2.2.2.1 (atN 33 T.2.2.2.2 which)) 0
def cByLenL (T : N5) (which len : Int32) : Nat → Int32 → Int32 → Int32
  | 0, code, _ => code
  | k + 1, code, o => cByLenL T which len k (if atN 33 T.2.2.2.2 o = -1 then code else if 0 < len - cLen T o then code + (1 <<< ((len - cLen T o) &&& 31)) else if len - cLen T o = 0 then (if which ≤ o then code else code + (1 <<< ((len - cLen T o) &&& 31))) else code) (o + 1)
def cByLen (T : N5) (which : Int32) : Int32 := cByLenL T which (cLen T which) 33 0 0
def cFactLeaf (T : N5) (which what : Int32) : Int32 :=
  if atN 33 T.2.2.2.2 which = -1 then -1 else if what = 0 then atN 65 T.1 (atN 33 T.2.2.2.2 which) else if what = 1 then cLen T which else if what = 2 then cCode T which else if what = 3 then cByLen T which else atN 33 T.2.2.2.2 which
def cFactNode (T : N5) (place what : Int32) : Int32 :=
  if what = 0 then atN 65 T.1 place else if what = 1 then atN 65 T.2.1 place else if what = 2 then atN 65 T.2.2.2.1 place else atN 65 T.2.2.1 place
def cWrittenEnd (T : N5) (bits place left : Int32) : Int32 :=
  if atN 65 T.2.1 place = 32 then (if 5 ≤ left then 100 + ((bits >>> ((left - 5) &&& 31)) &&& 31) else -1) else atN 65 T.2.1 place
def cWrittenL (T : N5) (bits : Int32) : Nat → Int32 → Int32 → Int32
  | 0, place, left => cWrittenEnd T bits place left
  | k + 1, place, left => if left ≤ 0 then cWrittenEnd T bits place left else if atN 65 T.2.2.1 place = -1 then cWrittenEnd T bits place left else cWrittenL T bits k (atN 65 T.2.2.1 place + ((bits >>> ((left + -1) &&& 31)) &&& 1)) (left + -1)
def cWritten (T : N5) (bits many : Int32) : Int32 := cWrittenL T bits many.toNatClampNeg 0 many
-- the tree, changed
def cPutNode (T : N5) (pl iw il ifp : Int32) : N5 :=
  (putN 65 T.1 pl iw, putN 65 T.2.1 pl il, putN 65 T.2.2.1 pl ifp, if ifp = -1 then T.2.2.2.1 else putN 65 (putN 65 T.2.2.2.1 ifp pl) (ifp + 1) pl, if ifp = -1 then putN 33 T.2.2.2.2 il pl else T.2.2.2.2)
def cLearn (T : N5) (sz last : Int32) : N5 :=
  cPutNode (cPutNode (cPutNode T (atN 33 T.2.2.2.2 32) 1 (-1) sz) sz 1 32 (-1)) (sz + 1) 0 last (-1)
def cFirstL (w : A1) (place sought : Int32) : Nat → Int32 → Int32
  | 0, _ => place
  | k + 1, i => if atN 65 w i = sought then i else cFirstL w place sought k (i + 1)
def cFirst (w : A1) (place : Int32) : Int32 := cFirstL w place (atN 65 w place) place.toNatClampNeg 0
def cExch (T : N5) (p a : Int32) : N5 :=
  cPutNode (cPutNode T p (atN 65 T.1 a) (atN 65 T.2.1 a) (atN 65 T.2.2.1 a)) a (atN 65 T.1 p) (atN 65 T.2.1 p) (atN 65 T.2.2.1 p)
def cIncr (T : N5) (a : Int32) : N5 := (putN 65 T.1 a (atN 65 T.1 a + 1), T.2.1, T.2.2.1, T.2.2.2.1, T.2.2.2.2)
def cHeavyL : Nat → N5 → Int32 → Int32 → N5 × Int32
  | 0, T, ex, _ => (T, ex)
  | k + 1, T, ex, u => if u = -1 then (T, ex) else
      if cFirst T.1 u = u then cHeavyL k (cIncr T (cFirst T.1 u)) ex (atN 65 T.2.2.2.1 (cFirst T.1 u))
      else cHeavyL k (cIncr (cExch T u (cFirst T.1 u)) (cFirst T.1 u)) (ex + 1) (atN 65 (cExch T u (cFirst T.1 u)).2.2.2.1 (cFirst T.1 u))
def cHeavy (T : N5) (ex last : Int32) : N5 × Int32 := cHeavyL 65 T ex (atN 33 T.2.2.2.2 last)
/-- one taken out of the heap, put at a place -/
def cTake (T : N5) (h : H3) (hs place : Int32) : N5 × A1 × Int32 :=
  (cPutNode T place (atN 65 h.1 (cLight h.1 hs)) (atN 65 h.2.1 (cLight h.1 hs)) (atN 65 h.2.2 (cLight h.1 hs)), putN 65 h.1 (cLight h.1 hs) 0, atN 65 h.1 (cLight h.1 hs))
def cFillL (w : A1) : Nat → Int32 → A1 → H3 → Int32 → Int32 → A1 × H3 × Int32 × Int32
  | 0, _, po, h, hs, fg => (po, h, hs, fg)
  | k + 1, i, po, h, hs, fg => if cKnows po i = 0 then cFillL w k (i + 1) po h hs fg else
      if atN 65 w (atN 33 po i) / 2 ≤ 0 then cFillL w k (i + 1) (putN 33 po i (-1)) h hs (fg + 1)
      else cFillL w k (i + 1) po (cAdd h hs (atN 65 w (atN 33 po i) / 2) i (-1)) (hs + 1) fg
def cFill (T : N5) (h : H3) : A1 × H3 × Int32 × Int32 := cFillL T.1 32 0 T.2.2.2.2 (cAdd h 0 1 32 (-1)) (0 + 1) 0
def cWearL : Nat → N5 → H3 → Int32 → Int32 → N5 × H3 × Int32
  | 0, T, h, hs, _ => (T, h, hs)
  | k + 1, T, h, hs, free => if free ≤ 0 then (T, h, hs) else
      cWearL k (cTake (cTake T h hs free).1 ((cTake T h hs free).2.1, h.2.1, h.2.2) hs (free - 1)).1
        (cAdd ((cTake (cTake T h hs free).1 ((cTake T h hs free).2.1, h.2.1, h.2.2) hs (free - 1)).2.1, h.2.1, h.2.2) hs ((cTake T h hs free).2.2 + (cTake (cTake T h hs free).1 ((cTake T h hs free).2.1, h.2.1, h.2.2) hs (free - 1)).2.2) (-1) (free - 1))
        (hs + 1) (free + -2)
/-- all of a tree: rows, size, exchanges, wears, heap, its size -/
abbrev TS : Type := N5 × Int32 × Int32 × Int32 × H3 × Int32
def cWearB (sn ex wr fg : Int32) (Y : N5 × H3 × Int32) : TS × Int32 :=
  (((cTake Y.1 Y.2.1 Y.2.2 0).1, sn, ex, wr + 1, ((cTake Y.1 Y.2.1 Y.2.2 0).2.1, Y.2.1.2.1, Y.2.1.2.2), Y.2.2), fg)
def cWearA (T : N5) (sn ex wr : Int32) (Z : A1 × H3 × Int32 × Int32) : TS × Int32 :=
  cWearB (sn - 2 * Z.2.2.2) ex wr Z.2.2.2 (cWearL (sn - 2 * Z.2.2.2 - 1).toNatClampNeg (T.1, T.2.1, T.2.2.1, T.2.2.2.1, Z.1) Z.2.1 Z.2.2.1 (sn - 2 * Z.2.2.2 - 1))
def cWear (S : TS) : TS × Int32 := cWearA S.1 S.2.1 S.2.2.1 S.2.2.2.1 (cFill S.1 S.2.2.2.2.1)
/-- a shop: its tree, limit, uses, bits -/
abbrev SS : Type := TS × Int32 × Int32 × Int32
def cBits (T : N5) (last : Int32) : Int32 := if cKnows T.2.2.2.2 last = 0 then cLen T 32 + 5 else cLen T last
def cTake3 (lim us bi took : Int32) (S : TS) : SS :=
  if atN 65 S.1.1 0 < lim then (S, lim, us + 1, bi + took) else ((cWear S).1, lim, us + 1, bi + took)
def cTake2 (S : TS) (last : Int32) (Y : N5 × Int32) : TS := (Y.1, S.2.1, Y.2, S.2.2.2.1, S.2.2.2.2.1, S.2.2.2.2.2)
def cTake1 (S : TS) (last : Int32) : TS :=
  if cKnows S.1.2.2.2.2 last = 0 then (cLearn S.1 S.2.1 last, S.2.1 + 2, S.2.2.1, S.2.2.2.1, S.2.2.2.2.1, S.2.2.2.2.2) else S
def cTakeOne (S : SS) (last : Int32) : SS × Int32 :=
  (cTake3 S.2.1 S.2.2.1 S.2.2.2 (cBits S.1.1 last) (cTake2 (cTake1 S.1 last) last (cHeavy (cTake1 S.1 last).1 (cTake1 S.1 last).2.2.1 last)), cBits S.1.1 last)
def cTakeRowL (from_ step : Int32) : Nat → SS → Int32 → Int32 → SS × Int32
  | 0, S, taken, _ => (S, taken)
  | n + 1, S, taken, k => cTakeRowL from_ step n (cTakeOne S ((from_ + k * step) - (from_ + k * step) / 32 * 32)).1 (taken + (cTakeOne S ((from_ + k * step) - (from_ + k * step) / 32 * 32)).2) (k + 1)
def cTakeRow (S : SS) (from_ step many : Int32) : SS × Int32 := cTakeRowL from_ step many.toNatClampNeg S 0 0
def cFactShop (T : N5) (sn ex wr lim us bi what : Int32) : Int32 :=
  if what = 0 then (sn - 1) / 2 else if what = 1 then sn else if what = 2 then atN 65 T.1 0 else if what = 3 then us else if what = 4 then bi else if what = 5 then ex else if what = 6 then wr else lim
/-- a shop that starts like another one -/
def cLike (S S0 : SS) : SS := ((S0.1.1, S0.1.2.1, S.1.2.2.1, S.1.2.2.2.1, S.1.2.2.2.2.1, S.1.2.2.2.2.2), S0.2.1, S.2.2.1, S.2.2.2)
theorem cb_swap {D : va_G} {ws : va_W} {H : Heap} {A : Nat → Prop} {q a n : Nat} {cA : ClassId} {f f' : A1} (hP : va_P D vwCl ws H) (hD : va_D A ws) (hq : ws[q]? = some (a, .inl (cA, n, .inl f))) (h : ∀ j, j < n → f j = f' j) : va_P D vwCl (ws.set q (a, .inl (cA, n, .inl f'))) H ∧ va_D A (ws.set q (a, .inl (cA, n, .inl f'))) := by
  refine ⟨hP.set hD hq ?_ (fun _ _ => rfl), hD.set hq⟩
  have h1 : va_at D vwCl (a, .inl (cA, n, .inl f)) H := hP q _ hq
  show H[a]? = some (vp_cell cA (n, .inl f'))
  have h2 : H[a]? = some (vp_cell cA (n, .inl f)) := h1
  rw [h2, vp_cell_i, vp_cell_i]
  have h3 : arrV cA n (fun j => .int (f j)) = arrV cA n (fun j => .int (f' j)) := by
    unfold arrV
    congr 1
    apply Array.ext
    · simp
    · intro i h4 h5
      simp only [Array.size_ofFn] at h4
      simp [h i h4]
  rw [h3]
theorem cb_cpy (n : Nat) (f g : A1) (i : Nat) (h : i < n) : va_cpy f g (0 : Int32).toNatClampNeg (0 : Int32).toNatClampNeg n i = f i := by
  have h0 : (0 : Int32).toNatClampNeg = 0 := rfl
  rw [h0, pk_cpy_in (Nat.zero_le i) (by omega)]
  congr 1
  omega
theorem cb_out3 {x : Int32} (h0 : ¬ x = 0) (h1 : ¬ x = 1) (h2 : ¬ x = 2) : x.toInt < 0 ∨ 2 < x.toInt := by
  rw [← Int32.toInt_inj] at h0 h1 h2
  simp at h0 h1 h2
  omega
theorem cb_out4 {x : Int32} (h0 : ¬ x = 0) (h1 : ¬ x = 1) (h2 : ¬ x = 2) (h3 : ¬ x = 3) : x.toInt < 0 ∨ 3 < x.toInt := by
  rw [← Int32.toInt_inj] at h0 h1 h2 h3
  simp at h0 h1 h2 h3
  omega
theorem cb_out7 {x : Int32} (h0 : ¬ x = 0) (h1 : ¬ x = 1) (h2 : ¬ x = 2) (h3 : ¬ x = 3) (h4 : ¬ x = 4) (h5 : ¬ x = 5) (h6 : ¬ x = 6) : x.toInt < 0 ∨ 6 < x.toInt := by
  rw [← Int32.toInt_inj] at h0 h1 h2 h3 h4 h5 h6
  simp at h0 h1 h2 h3 h4 h5 h6
  omega
/-- a counter that goes down to 0 -/
theorem cb_down0 {x : Int32} (h : x.toNatClampNeg ≤ 0) : x ≤ 0 := by
  rw [Int32.le_iff_toInt_le]
  unfold Int32.toNatClampNeg at h
  simp
  omega
theorem cb_downT {x d : Int32} {k : Nat} (h : x.toNatClampNeg ≤ k + 1) (h0 : ¬ x ≤ 0) (hd : d.toInt = -1 ∨ d.toInt = -2) : (x + d).toNatClampNeg ≤ k := by
  rw [Int32.le_iff_toInt_le] at h0
  have hx := Int32.toInt_lt x
  have h1 : (x + d).toInt = x.toInt + d.toInt := by
    rw [Int32.toInt_add]
    simp at h0
    rcases hd with hd | hd <;> rw [hd] <;> apply Int.bmod_eq_of_le <;> omega
  unfold Int32.toNatClampNeg at h ⊢
  rw [h1]
  simp at h0
  rcases hd with hd | hd <;> rw [hd] <;> omega
theorem cb_down1 {x : Int32} {k : Nat} (h : x.toNatClampNeg ≤ k + 1) (h0 : ¬ x ≤ 0) : (x + -1).toNatClampNeg ≤ k := cb_downT h h0 (Or.inl (by decide))
theorem cb_down2 {x : Int32} {k : Nat} (h : x.toNatClampNeg ≤ k + 1) (h0 : ¬ x ≤ 0) : (x + -2).toNatClampNeg ≤ k := cb_downT h h0 (Or.inr (by decide))
end
section
set_option maxHeartbeats 4000000 in
set_option maxRecDepth 100000 in
theorem kX3_at (l : Launch) (D : va_G) (cy : ClassId) (a n : Nat) (f : A1) (i : Int32) (hn : n < 2 ^ 31) : Met l yX3_at wsX3_at ({ frames := 0, cells := 0, slots := 0, locals := 0 }) (cb_Pp D (cb_tys cy) [(a, .inl (cy, n, .inl f))] [.ref a, .int i]) (cb_Si (atN n f i)) 0 0 (fun _ => False) := by
  refine Met.ofW (cc := cX3_at) (maxL := 2) (ret := (some .int)) (by decide) rfl ?_
  intro p e s m args below meth c s₁ B hml hv
  obtain ⟨rfl, hP, hK, hnw⟩ := hv
  have hx := B.exec
  have hb := B.bytes
  have hr := B.returns
  have hts := atoms_spec (ws := wsX3_at) B.pre
  have hown : s.vm.findClass RX3 = some m.cls := findClass_of_methodNamed B.named
  have hlocks := B.notSynchronized
  have hl := lv_entry ([.ref a, .int i]) (n := 2) (Nat.le_of_ble_eq_true rfl)
  rw [lg_entry_eq]
  generalize (lg_sl ([.ref a, .int i]) ++ List.replicate (2 - (lg_sl ([.ref a, .int i])).length) Slot.unset).toArray = ls at hl ⊢
  have hl : lv_has ls 2 [(0, .ref a), (1, .int i)] := hl
  refine lv_iload_n hx hb dX3_at_0 rfl (lv_at hl 1 rfl) ?_
  refine lv_if_lt (tgt := 16) hx hb dX3_at_1 (by decide) (fun c_1 => ?_) (fun c_1 => ?_)
  · refine lv_iconst (v := (-1)) hx hb dX3_at_16 (by decide) ?_
    exact cb_endSi (v := (-1)) hx hb hr hlocks (by unfold atN; simp only [if_pos c_1]) dX3_at_17
  · refine lv_iload_n hx hb dX3_at_4 rfl (lv_at hl 1 rfl) ?_
    refine lv_aload_n hx hb dX3_at_5 rfl (lv_at hl 0 rfl) ?_
    refine va_alen (D := D) (cl := vwCl) (v := nI n) hx hb hK hP 0 0 rfl rfl rfl dX3_at_6 ?_
    refine lv_icmp_ge (tgt := 16) hx hb dX3_at_7 (by decide) (fun c_2 => ?_) (fun c_2 => ?_)
    · refine lv_iconst (v := (-1)) hx hb dX3_at_16 (by decide) ?_
      exact cb_endSi (v := (-1)) hx hb hr hlocks (by unfold atN; simp only [if_neg c_1, if_pos c_2]) dX3_at_17
    · refine lv_aload_n hx hb dX3_at_10 rfl (lv_at hl 0 rfl) ?_
      refine lv_iload_n hx hb dX3_at_11 rfl (lv_at hl 1 rfl) ?_
      refine va_iald (D := D) (cl := vwCl) hx hb hK hP 0 0 rfl rfl (i := i) (cb_in hn c_1 c_2) dX3_at_12 ?_
      refine lv_goto (tgt := 17) hx hb dX3_at_13 (by decide) ?_
      exact cb_endSi (v := f i.toNatClampNeg) hx hb hr hlocks (by unfold atN; simp only [if_neg c_1, if_neg c_2]) dX3_at_17

set_option maxHeartbeats 4000000 in
set_option maxRecDepth 100000 in
theorem kX3_put (l : Launch) (D : va_G) (cy : ClassId) (sz : Nat) (a n : Nat) (f : A1) (i v : Int32) (hn : n < 2 ^ 31) : Met l yX3_put wsX3_put ({ frames := 0, cells := 0, slots := 0, locals := 0 }) (cb_Pw D (cb_tys cy) [(a, .inl (cy, n, .inl f))] sz [.ref a, .int i, .int v]) (cb_Qv D (cb_tys cy) (va_A [(a, .inl (cy, n, .inl f))] sz) [(a, .inl (cy, n, .inl (putN n f i v)))]) 0 0 (va_A [(a, .inl (cy, n, .inl f))] sz) := by
  refine Met.ofW (cc := cX3_put) (maxL := 3) (ret := none) (by decide) rfl ?_
  intro p e s m args below meth c s₁ B hml hv
  obtain ⟨rfl, hsz, hP, hK, hD0, hnw⟩ := hv
  have hx := B.exec
  have hb := B.bytes
  have hr := B.returns
  have hts := atoms_spec (ws := wsX3_put) B.pre
  have hown : s.vm.findClass RX3 = some m.cls := findClass_of_methodNamed B.named
  have hlocks := B.notSynchronized
  subst hsz
  have hD := hD0.self (sz := s.heap.size)
  generalize hAe : va_A [(a, .inl (cy, n, .inl f))] s.heap.size = A at hD ⊢
  have hA : ∀ q : Nat, s.heap.size ≤ q → A q := fun q h => by rw [← hAe]; exact Or.inr h
  clear hAe
  have hS : va_S A s.heap s.heap [] := va_S.rf
  have hl := lv_entry ([.ref a, .int i, .int v]) (n := 3) (Nat.le_of_ble_eq_true rfl)
  rw [lg_entry_eq]
  generalize (lg_sl ([.ref a, .int i, .int v]) ++ List.replicate (3 - (lg_sl ([.ref a, .int i, .int v])).length) Slot.unset).toArray = ls at hl ⊢
  have hl : lv_has ls 3 [(0, .ref a), (1, .int i), (2, .int v)] := hl
  refine lv_iload_n hx hb dX3_put_0 rfl (lv_at hl 1 rfl) ?_
  refine lv_if_lt (tgt := 14) hx hb dX3_put_1 (by decide) (fun c_1 => ?_) (fun c_1 => ?_)
  · exact cb_endQv hx hb hr hlocks hP hD hK hS (by unfold putN; simp only [if_pos c_1]) (by omega) (by omega) dX3_put_14
  · refine lv_iload_n hx hb dX3_put_4 rfl (lv_at hl 1 rfl) ?_
    refine lv_aload_n hx hb dX3_put_5 rfl (lv_at hl 0 rfl) ?_
    refine va_alen (D := D) (cl := vwCl) (v := nI n) hx hb hK hP 0 0 rfl rfl rfl dX3_put_6 ?_
    refine lv_icmp_ge (tgt := 14) hx hb dX3_put_7 (by decide) (fun c_2 => ?_) (fun c_2 => ?_)
    · exact cb_endQv hx hb hr hlocks hP hD hK hS (by unfold putN; simp only [if_neg c_1, if_pos c_2]) (by omega) (by omega) dX3_put_14
    · refine lv_aload_n hx hb dX3_put_10 rfl (lv_at hl 0 rfl) ?_
      refine lv_iload_n hx hb dX3_put_11 rfl (lv_at hl 1 rfl) ?_
      refine lv_iload_n hx hb dX3_put_12 rfl (lv_at hl 2 rfl) ?_
      refine va_iast (D := D) (cl := vwCl) hx hb hK hP hD hS 0 0 rfl rfl (i := i) (cb_in hn c_1 c_2) dX3_put_13 (fun H locs hP hD hS => ?_)
      have hP : va_P D vwCl [(a, .inl (cy, n, .inl (upd f i.toNatClampNeg v)))] H := hP
      have hD : va_D A [(a, .inl (cy, n, .inl (upd f i.toNatClampNeg v)))] := hD
      exact cb_endQv hx hb hr hlocks hP hD hK hS (by unfold putN; simp only [if_neg c_1, if_neg c_2]) (by omega) (by omega) dX3_put_14

set_option maxHeartbeats 4000000 in
set_option maxRecDepth 100000 in
theorem kX0_clear (l : Launch) (D : va_G) (cy : ClassId) (sz : Nat) (ah gw gl gf : Nat) (hh : H3) (hs : Int32) : Met l yX0_clear wsX0_clear ({ frames := 0, cells := 0, slots := 0, locals := 0 }) (cb_Pw D (cb_tys cy) [(ah, .inr (0, [.ref gw, .ref gl, .ref gf, .int hs])), (gw, .inl (cy, 65, .inl hh.1)), (gl, .inl (cy, 65, .inl hh.2.1)), (gf, .inl (cy, 65, .inl hh.2.2))] sz [.ref ah]) (cb_Qv D (cb_tys cy) (va_A [(ah, .inr (0, [.ref gw, .ref gl, .ref gf, .int hs])), (gw, .inl (cy, 65, .inl hh.1)), (gl, .inl (cy, 65, .inl hh.2.1)), (gf, .inl (cy, 65, .inl hh.2.2))] sz) [(ah, .inr (0, [.ref gw, .ref gl, .ref gf, .int 0])), (gw, .inl (cy, 65, .inl hh.1)), (gl, .inl (cy, 65, .inl hh.2.1)), (gf, .inl (cy, 65, .inl hh.2.2))]) 0 0 (va_A [(ah, .inr (0, [.ref gw, .ref gl, .ref gf, .int hs])), (gw, .inl (cy, 65, .inl hh.1)), (gl, .inl (cy, 65, .inl hh.2.1)), (gf, .inl (cy, 65, .inl hh.2.2))] sz) := by
  refine Met.ofW (cc := cX0_clear) (maxL := 1) (ret := none) (by decide) rfl ?_
  intro p e s m args below meth c s₁ B hml hv
  obtain ⟨rfl, hsz, hP, hK, hD0, hnw⟩ := hv
  have hx := B.exec
  have hb := B.bytes
  have hr := B.returns
  have hts := atoms_spec (ws := wsX0_clear) B.pre
  have hown : s.vm.findClass RX0 = some m.cls := findClass_of_methodNamed B.named
  have hlocks := B.notSynchronized
  have hinX0 : ∀ w ∈ wsX00, w ∈ wsX0_clear := by decide +kernel
  subst hsz
  have hD := hD0.self (sz := s.heap.size)
  generalize hAe : va_A [(ah, .inr (0, [.ref gw, .ref gl, .ref gf, .int hs])), (gw, .inl (cy, 65, .inl hh.1)), (gl, .inl (cy, 65, .inl hh.2.1)), (gf, .inl (cy, 65, .inl hh.2.2))] s.heap.size = A at hD ⊢
  have hA : ∀ q : Nat, s.heap.size ≤ q → A q := fun q h => by rw [← hAe]; exact Or.inr h
  clear hAe
  have hS : va_S A s.heap s.heap [] := va_S.rf
  have hl := lv_entry ([.ref ah]) (n := 1) (Nat.le_of_ble_eq_true rfl)
  rw [lg_entry_eq]
  generalize (lg_sl ([.ref ah]) ++ List.replicate (1 - (lg_sl ([.ref ah])).length) Slot.unset).toArray = ls at hl ⊢
  have hl : lv_has ls 1 [(0, .ref ah)] := hl
  refine lv_aload_n hx hb dX0_clear_0 rfl (lv_at hl 0 rfl) ?_
  refine lv_iconst (v := 0) hx hb dX0_clear_1 (by decide) ?_
  refine va_put (D := D) (ci := 0) (v := .int 0) (ty := .int) (C := RX0) (T := TX0) (N := 4) hx hb hts hinX0 tyX0 tyX0_ok nmX0 hown hK hP hD hS 0 rfl rfl 3 (by decide) (hts (.fieldLink RX0 21 "CobblerCodes$Heap" "size" "I") (by decide +kernel)) (fun _ h9 => h9) rfl (by decide +kernel) rfl rfl (Nat.le_of_ble_eq_true rfl) dX0_clear_2 (fun H locs hP hD hS => ?_)
  have hP : va_P D vwCl [(ah, .inr (0, [.ref gw, .ref gl, .ref gf, .int 0])), (gw, .inl (cy, 65, .inl hh.1)), (gl, .inl (cy, 65, .inl hh.2.1)), (gf, .inl (cy, 65, .inl hh.2.2))] H := hP
  have hD : va_D A [(ah, .inr (0, [.ref gw, .ref gl, .ref gf, .int 0])), (gw, .inl (cy, 65, .inl hh.1)), (gl, .inl (cy, 65, .inl hh.2.1)), (gf, .inl (cy, 65, .inl hh.2.2))] := hD
  exact cb_endQv hx hb hr hlocks hP hD hK hS rfl (by omega) (by omega) dX0_clear_5

set_option maxHeartbeats 4000000 in
set_option maxRecDepth 100000 in
theorem kX0_add (l : Launch) (D : va_G) (cy : ClassId) (sz : Nat) (ah gw gl gf : Nat) (hh : H3) (hs : Int32) (x y z : Int32) : Met l yX0_add wsX0_add ({ frames := 1, cells := 0, slots := 0, locals := 22 }) (cb_Pw D (cb_tys cy) [(ah, .inr (0, [.ref gw, .ref gl, .ref gf, .int hs])), (gw, .inl (cy, 65, .inl hh.1)), (gl, .inl (cy, 65, .inl hh.2.1)), (gf, .inl (cy, 65, .inl hh.2.2))] sz [.ref ah, .int x, .int y, .int z]) (cb_Qv D (cb_tys cy) (va_A [(ah, .inr (0, [.ref gw, .ref gl, .ref gf, .int hs])), (gw, .inl (cy, 65, .inl hh.1)), (gl, .inl (cy, 65, .inl hh.2.1)), (gf, .inl (cy, 65, .inl hh.2.2))] sz) [(ah, .inr (0, [.ref gw, .ref gl, .ref gf, .int (hs + 1)])), (gw, .inl (cy, 65, .inl (cAdd hh hs x y z).1)), (gl, .inl (cy, 65, .inl (cAdd hh hs x y z).2.1)), (gf, .inl (cy, 65, .inl (cAdd hh hs x y z).2.2))]) 0 0 (va_A [(ah, .inr (0, [.ref gw, .ref gl, .ref gf, .int hs])), (gw, .inl (cy, 65, .inl hh.1)), (gl, .inl (cy, 65, .inl hh.2.1)), (gf, .inl (cy, 65, .inl hh.2.2))] sz) := by
  refine Met.ofW (cc := cX0_add) (maxL := 4) (ret := none) (by decide) rfl ?_
  intro p e s m args below meth c s₁ B hml hv
  obtain ⟨rfl, hsz, hP, hK, hD0, hnw⟩ := hv
  have hx := B.exec
  have hb := B.bytes
  have hr := B.returns
  have hts := atoms_spec (ws := wsX0_add) B.pre
  have hown : s.vm.findClass RX0 = some m.cls := findClass_of_methodNamed B.named
  have hlocks := B.notSynchronized
  have hinX0 : ∀ w ∈ wsX00, w ∈ wsX0_add := by decide +kernel
  subst hsz
  have hD := hD0.self (sz := s.heap.size)
  generalize hAe : va_A [(ah, .inr (0, [.ref gw, .ref gl, .ref gf, .int hs])), (gw, .inl (cy, 65, .inl hh.1)), (gl, .inl (cy, 65, .inl hh.2.1)), (gf, .inl (cy, 65, .inl hh.2.2))] s.heap.size = A at hD ⊢
  have hA : ∀ q : Nat, s.heap.size ≤ q → A q := fun q h => by rw [← hAe]; exact Or.inr h
  clear hAe
  have hS : va_S A s.heap s.heap [] := va_S.rf
  have hl := lv_entry ([.ref ah, .int x, .int y, .int z]) (n := 4) (Nat.le_of_ble_eq_true rfl)
  rw [lg_entry_eq]
  generalize (lg_sl ([.ref ah, .int x, .int y, .int z]) ++ List.replicate (4 - (lg_sl ([.ref ah, .int x, .int y, .int z])).length) Slot.unset).toArray = ls at hl ⊢
  have hl : lv_has ls 4 [(0, .ref ah), (1, .int x), (2, .int y), (3, .int z)] := hl
  refine lv_aload_n hx hb dX0_add_0 rfl (lv_at hl 0 rfl) ?_
  refine va_get (D := D) (ci := 0) (v := .ref gw) (C := RX0) (T := TX0) (N := 4) hx hb hts hinX0 hown hK hP 0 rfl rfl 0 (by decide) (hts (.fieldLink RX0 9 "CobblerCodes$Heap" "weight" "[I") (by decide +kernel)) (fun _ h9 => h9) rfl dX0_add_1 ?_
  refine lv_aload_n hx hb dX0_add_4 rfl (lv_at hl 0 rfl) ?_
  refine va_get (D := D) (ci := 0) (v := .int hs) (C := RX0) (T := TX0) (N := 4) hx hb hts hinX0 hown hK hP 0 rfl rfl 3 (by decide) (hts (.fieldLink RX0 21 "CobblerCodes$Heap" "size" "I") (by decide +kernel)) (fun _ h9 => h9) rfl dX0_add_5 ?_
  refine lv_iload_n hx hb dX0_add_8 rfl (lv_at hl 1 rfl) ?_
  have hPc := hP.sub (ws' := [(gw, .inl (cy, 65, .inl hh.1))]) [1] rfl
  have hDc := hD.sub (ws' := [(gw, .inl (cy, 65, .inl hh.1))]) [1] (by decide) rfl
  refine cb_callQv (wc := [(gw, .inl (cy, 65, .inl hh.1))]) (wr := [(ah, .inr (0, [.ref gw, .ref gl, .ref gf, .int hs])), (gl, .inl (cy, 65, .inl hh.2.1)), (gf, .inl (cy, 65, .inl hh.2.2))]) (wc' := [(gw, .inl (cy, 65, .inl (putN 65 hh.1 hs x)))]) (ws2 := [(ah, .inr (0, [.ref gw, .ref gl, .ref gf, .int hs])), (gw, .inl (cy, 65, .inl (putN 65 hh.1 hs x))), (gl, .inl (cy, 65, .inl hh.2.1)), (gf, .inl (cy, 65, .inl hh.2.2))]) hP hD hS hA [1] [0, 2, 3] [0, 3, 1, 2] (va_runSN (As := [.ref gw, .int hs, .int x]) (rest := []) ⟨hx, hb, hml, hown, hts⟩ (kX3_put l D cy _ gw 65 hh.1 hs x (by first | assumption | decide)) ⟨va_cnB 3 hts gX0_add_X3_put_n25 rfl rfl rfl (hnw (.methodLinkNest RX0 25 yX3_put RX3) (by decide +kernel)) (hts (.initialized RX3) (by decide +kernel)) (by decide +kernel) ⟨Nat.le_of_ble_eq_true rfl, Nat.le_of_ble_eq_true rfl⟩, hts (.static yX3_put) (by decide +kernel), trivial⟩ (cb_Pw.ps hK hPc hDc hnw) rfl rfl hl.1 rfl (lv_room (Nat.le_of_ble_eq_true rfl)) dX0_add_9 ⟨Nat.le_of_ble_eq_true rfl, Nat.le_of_ble_eq_true rfl⟩) rfl rfl (by decide) (by decide) rfl (by decide) (fun H locs hP hD hS => ?_)
  refine lv_aload_n hx hb dX0_add_12 rfl (lv_at hl 0 rfl) ?_
  refine va_get (D := D) (ci := 0) (v := .ref gl) (C := RX0) (T := TX0) (N := 4) hx hb hts hinX0 hown hK hP 0 rfl rfl 1 (by decide) (hts (.fieldLink RX0 15 "CobblerCodes$Heap" "leaf" "[I") (by decide +kernel)) (fun _ h9 => h9) rfl dX0_add_13 ?_
  refine lv_aload_n hx hb dX0_add_16 rfl (lv_at hl 0 rfl) ?_
  refine va_get (D := D) (ci := 0) (v := .int hs) (C := RX0) (T := TX0) (N := 4) hx hb hts hinX0 hown hK hP 0 rfl rfl 3 (by decide) (hts (.fieldLink RX0 21 "CobblerCodes$Heap" "size" "I") (by decide +kernel)) (fun _ h9 => h9) rfl dX0_add_17 ?_
  refine lv_iload_n hx hb dX0_add_20 rfl (lv_at hl 2 rfl) ?_
  have hPc := hP.sub (ws' := [(gl, .inl (cy, 65, .inl hh.2.1))]) [2] rfl
  have hDc := hD.sub (ws' := [(gl, .inl (cy, 65, .inl hh.2.1))]) [2] (by decide) rfl
  refine cb_callQv (wc := [(gl, .inl (cy, 65, .inl hh.2.1))]) (wr := [(ah, .inr (0, [.ref gw, .ref gl, .ref gf, .int hs])), (gw, .inl (cy, 65, .inl (putN 65 hh.1 hs x))), (gf, .inl (cy, 65, .inl hh.2.2))]) (wc' := [(gl, .inl (cy, 65, .inl (putN 65 hh.2.1 hs y)))]) (ws2 := [(ah, .inr (0, [.ref gw, .ref gl, .ref gf, .int hs])), (gw, .inl (cy, 65, .inl (putN 65 hh.1 hs x))), (gl, .inl (cy, 65, .inl (putN 65 hh.2.1 hs y))), (gf, .inl (cy, 65, .inl hh.2.2))]) hP hD hS hA [2] [0, 1, 3] [0, 1, 3, 2] (va_runSN (As := [.ref gl, .int hs, .int y]) (rest := []) ⟨hx, hb, hml, hown, hts⟩ (kX3_put l D cy _ gl 65 hh.2.1 hs y (by first | assumption | decide)) ⟨va_cnB 3 hts gX0_add_X3_put_n25 rfl rfl rfl (hnw (.methodLinkNest RX0 25 yX3_put RX3) (by decide +kernel)) (hts (.initialized RX3) (by decide +kernel)) (by decide +kernel) ⟨Nat.le_of_ble_eq_true rfl, Nat.le_of_ble_eq_true rfl⟩, hts (.static yX3_put) (by decide +kernel), trivial⟩ (cb_Pw.ps hK hPc hDc hnw) rfl rfl hl.1 rfl (lv_room (Nat.le_of_ble_eq_true rfl)) dX0_add_21 ⟨Nat.le_of_ble_eq_true rfl, Nat.le_of_ble_eq_true rfl⟩) rfl rfl (by decide) (by decide) rfl (by decide) (fun H locs hP hD hS => ?_)
  refine lv_aload_n hx hb dX0_add_24 rfl (lv_at hl 0 rfl) ?_
  refine va_get (D := D) (ci := 0) (v := .ref gf) (C := RX0) (T := TX0) (N := 4) hx hb hts hinX0 hown hK hP 0 rfl rfl 2 (by decide) (hts (.fieldLink RX0 18 "CobblerCodes$Heap" "firstPart" "[I") (by decide +kernel)) (fun _ h9 => h9) rfl dX0_add_25 ?_
  refine lv_aload_n hx hb dX0_add_28 rfl (lv_at hl 0 rfl) ?_
  refine va_get (D := D) (ci := 0) (v := .int hs) (C := RX0) (T := TX0) (N := 4) hx hb hts hinX0 hown hK hP 0 rfl rfl 3 (by decide) (hts (.fieldLink RX0 21 "CobblerCodes$Heap" "size" "I") (by decide +kernel)) (fun _ h9 => h9) rfl dX0_add_29 ?_
  refine lv_iload_n hx hb dX0_add_32 rfl (lv_at hl 3 rfl) ?_
  have hPc := hP.sub (ws' := [(gf, .inl (cy, 65, .inl hh.2.2))]) [3] rfl
  have hDc := hD.sub (ws' := [(gf, .inl (cy, 65, .inl hh.2.2))]) [3] (by decide) rfl
  refine cb_callQv (wc := [(gf, .inl (cy, 65, .inl hh.2.2))]) (wr := [(ah, .inr (0, [.ref gw, .ref gl, .ref gf, .int hs])), (gw, .inl (cy, 65, .inl (putN 65 hh.1 hs x))), (gl, .inl (cy, 65, .inl (putN 65 hh.2.1 hs y)))]) (wc' := [(gf, .inl (cy, 65, .inl (putN 65 hh.2.2 hs z)))]) (ws2 := [(ah, .inr (0, [.ref gw, .ref gl, .ref gf, .int hs])), (gw, .inl (cy, 65, .inl (putN 65 hh.1 hs x))), (gl, .inl (cy, 65, .inl (putN 65 hh.2.1 hs y))), (gf, .inl (cy, 65, .inl (putN 65 hh.2.2 hs z)))]) hP hD hS hA [3] [0, 1, 2] [0, 1, 2, 3] (va_runSN (As := [.ref gf, .int hs, .int z]) (rest := []) ⟨hx, hb, hml, hown, hts⟩ (kX3_put l D cy _ gf 65 hh.2.2 hs z (by first | assumption | decide)) ⟨va_cnB 3 hts gX0_add_X3_put_n25 rfl rfl rfl (hnw (.methodLinkNest RX0 25 yX3_put RX3) (by decide +kernel)) (hts (.initialized RX3) (by decide +kernel)) (by decide +kernel) ⟨Nat.le_of_ble_eq_true rfl, Nat.le_of_ble_eq_true rfl⟩, hts (.static yX3_put) (by decide +kernel), trivial⟩ (cb_Pw.ps hK hPc hDc hnw) rfl rfl hl.1 rfl (lv_room (Nat.le_of_ble_eq_true rfl)) dX0_add_33 ⟨Nat.le_of_ble_eq_true rfl, Nat.le_of_ble_eq_true rfl⟩) rfl rfl (by decide) (by decide) rfl (by decide) (fun H locs hP hD hS => ?_)
  refine lv_aload_n hx hb dX0_add_36 rfl (lv_at hl 0 rfl) ?_
  refine lv_dup hx hb dX0_add_37 rfl ?_
  refine va_get (D := D) (ci := 0) (v := .int hs) (C := RX0) (T := TX0) (N := 4) hx hb hts hinX0 hown hK hP 0 rfl rfl 3 (by decide) (hts (.fieldLink RX0 21 "CobblerCodes$Heap" "size" "I") (by decide +kernel)) (fun _ h9 => h9) rfl dX0_add_38 ?_
  refine lv_iconst (v := 1) hx hb dX0_add_41 (by decide) ?_
  refine lv_iadd hx hb dX0_add_42 ?_
  refine va_put (D := D) (ci := 0) (v := .int (hs + 1)) (ty := .int) (C := RX0) (T := TX0) (N := 4) hx hb hts hinX0 tyX0 tyX0_ok nmX0 hown hK hP hD hS 0 rfl rfl 3 (by decide) (hts (.fieldLink RX0 21 "CobblerCodes$Heap" "size" "I") (by decide +kernel)) (fun _ h9 => h9) rfl (by decide +kernel) rfl rfl (Nat.le_of_ble_eq_true rfl) dX0_add_43 (fun H locs hP hD hS => ?_)
  have hP : va_P D vwCl [(ah, .inr (0, [.ref gw, .ref gl, .ref gf, .int (hs + 1)])), (gw, .inl (cy, 65, .inl (putN 65 hh.1 hs x))), (gl, .inl (cy, 65, .inl (putN 65 hh.2.1 hs y))), (gf, .inl (cy, 65, .inl (putN 65 hh.2.2 hs z)))] H := hP
  have hD : va_D A [(ah, .inr (0, [.ref gw, .ref gl, .ref gf, .int (hs + 1)])), (gw, .inl (cy, 65, .inl (putN 65 hh.1 hs x))), (gl, .inl (cy, 65, .inl (putN 65 hh.2.1 hs y))), (gf, .inl (cy, 65, .inl (putN 65 hh.2.2 hs z)))] := hD
  exact cb_endQv hx hb hr hlocks hP hD hK hS rfl (by omega) (by omega) dX0_add_46

set_option maxHeartbeats 4000000 in
set_option maxRecDepth 100000 in
theorem kX0_drop (l : Launch) (D : va_G) (cy : ClassId) (sz : Nat) (ah gw gl gf : Nat) (hh : H3) (hs : Int32) (x : Int32) : Met l yX0_drop wsX0_drop ({ frames := 1, cells := 0, slots := 0, locals := 22 }) (cb_Pw D (cb_tys cy) [(ah, .inr (0, [.ref gw, .ref gl, .ref gf, .int hs])), (gw, .inl (cy, 65, .inl hh.1)), (gl, .inl (cy, 65, .inl hh.2.1)), (gf, .inl (cy, 65, .inl hh.2.2))] sz [.ref ah, .int x]) (cb_Qv D (cb_tys cy) (va_A [(ah, .inr (0, [.ref gw, .ref gl, .ref gf, .int hs])), (gw, .inl (cy, 65, .inl hh.1)), (gl, .inl (cy, 65, .inl hh.2.1)), (gf, .inl (cy, 65, .inl hh.2.2))] sz) [(ah, .inr (0, [.ref gw, .ref gl, .ref gf, .int hs])), (gw, .inl (cy, 65, .inl (putN 65 hh.1 x 0))), (gl, .inl (cy, 65, .inl hh.2.1)), (gf, .inl (cy, 65, .inl hh.2.2))]) 0 0 (va_A [(ah, .inr (0, [.ref gw, .ref gl, .ref gf, .int hs])), (gw, .inl (cy, 65, .inl hh.1)), (gl, .inl (cy, 65, .inl hh.2.1)), (gf, .inl (cy, 65, .inl hh.2.2))] sz) := by
  refine Met.ofW (cc := cX0_drop) (maxL := 2) (ret := none) (by decide) rfl ?_
  intro p e s m args below meth c s₁ B hml hv
  obtain ⟨rfl, hsz, hP, hK, hD0, hnw⟩ := hv
  have hx := B.exec
  have hb := B.bytes
  have hr := B.returns
  have hts := atoms_spec (ws := wsX0_drop) B.pre
  have hown : s.vm.findClass RX0 = some m.cls := findClass_of_methodNamed B.named
  have hlocks := B.notSynchronized
  have hinX0 : ∀ w ∈ wsX00, w ∈ wsX0_drop := by decide +kernel
  subst hsz
  have hD := hD0.self (sz := s.heap.size)
  generalize hAe : va_A [(ah, .inr (0, [.ref gw, .ref gl, .ref gf, .int hs])), (gw, .inl (cy, 65, .inl hh.1)), (gl, .inl (cy, 65, .inl hh.2.1)), (gf, .inl (cy, 65, .inl hh.2.2))] s.heap.size = A at hD ⊢
  have hA : ∀ q : Nat, s.heap.size ≤ q → A q := fun q h => by rw [← hAe]; exact Or.inr h
  clear hAe
  have hS : va_S A s.heap s.heap [] := va_S.rf
  have hl := lv_entry ([.ref ah, .int x]) (n := 2) (Nat.le_of_ble_eq_true rfl)
  rw [lg_entry_eq]
  generalize (lg_sl ([.ref ah, .int x]) ++ List.replicate (2 - (lg_sl ([.ref ah, .int x])).length) Slot.unset).toArray = ls at hl ⊢
  have hl : lv_has ls 2 [(0, .ref ah), (1, .int x)] := hl
  refine lv_aload_n hx hb dX0_drop_0 rfl (lv_at hl 0 rfl) ?_
  refine va_get (D := D) (ci := 0) (v := .ref gw) (C := RX0) (T := TX0) (N := 4) hx hb hts hinX0 hown hK hP 0 rfl rfl 0 (by decide) (hts (.fieldLink RX0 9 "CobblerCodes$Heap" "weight" "[I") (by decide +kernel)) (fun _ h9 => h9) rfl dX0_drop_1 ?_
  refine lv_iload_n hx hb dX0_drop_4 rfl (lv_at hl 1 rfl) ?_
  refine lv_iconst (v := 0) hx hb dX0_drop_5 (by decide) ?_
  have hPc := hP.sub (ws' := [(gw, .inl (cy, 65, .inl hh.1))]) [1] rfl
  have hDc := hD.sub (ws' := [(gw, .inl (cy, 65, .inl hh.1))]) [1] (by decide) rfl
  refine cb_callQv (wc := [(gw, .inl (cy, 65, .inl hh.1))]) (wr := [(ah, .inr (0, [.ref gw, .ref gl, .ref gf, .int hs])), (gl, .inl (cy, 65, .inl hh.2.1)), (gf, .inl (cy, 65, .inl hh.2.2))]) (wc' := [(gw, .inl (cy, 65, .inl (putN 65 hh.1 x 0)))]) (ws2 := [(ah, .inr (0, [.ref gw, .ref gl, .ref gf, .int hs])), (gw, .inl (cy, 65, .inl (putN 65 hh.1 x 0))), (gl, .inl (cy, 65, .inl hh.2.1)), (gf, .inl (cy, 65, .inl hh.2.2))]) hP hD hS hA [1] [0, 2, 3] [0, 3, 1, 2] (va_runSN (As := [.ref gw, .int x, .int 0]) (rest := []) ⟨hx, hb, hml, hown, hts⟩ (kX3_put l D cy _ gw 65 hh.1 x 0 (by first | assumption | decide)) ⟨va_cnB 3 hts gX0_drop_X3_put_n25 rfl rfl rfl (hnw (.methodLinkNest RX0 25 yX3_put RX3) (by decide +kernel)) (hts (.initialized RX3) (by decide +kernel)) (by decide +kernel) ⟨Nat.le_of_ble_eq_true rfl, Nat.le_of_ble_eq_true rfl⟩, hts (.static yX3_put) (by decide +kernel), trivial⟩ (cb_Pw.ps hK hPc hDc hnw) rfl rfl hl.1 rfl (lv_room (Nat.le_of_ble_eq_true rfl)) dX0_drop_6 ⟨Nat.le_of_ble_eq_true rfl, Nat.le_of_ble_eq_true rfl⟩) rfl rfl (by decide) (by decide) rfl (by decide) (fun H locs hP hD hS => ?_)
  exact cb_endQv hx hb hr hlocks hP hD hK hS rfl (by omega) (by omega) dX0_drop_9

set_option maxHeartbeats 4000000 in
set_option maxRecDepth 100000 in
theorem kX0_lightest (l : Launch) (D : va_G) (cy : ClassId) (ah gw gl gf : Nat) (hh : H3) (hs : Int32) : Met l yX0_lightest wsX0_lightest ({ frames := 1, cells := 0, slots := 0, locals := 21 }) (cb_Pp D (cb_tys cy) [(ah, .inr (0, [.ref gw, .ref gl, .ref gf, .int hs])), (gw, .inl (cy, 65, .inl hh.1)), (gl, .inl (cy, 65, .inl hh.2.1)), (gf, .inl (cy, 65, .inl hh.2.2))] [.ref ah]) (cb_Si (cLight hh.1 hs)) 0 0 (fun _ => False) := by
  refine Met.ofW (cc := cX0_lightest) (maxL := 4) (ret := (some .int)) (by decide) rfl ?_
  intro p e s m args below meth c s₁ B hml hv
  obtain ⟨rfl, hP, hK, hnw⟩ := hv
  have hx := B.exec
  have hb := B.bytes
  have hr := B.returns
  have hts := atoms_spec (ws := wsX0_lightest) B.pre
  have hown : s.vm.findClass RX0 = some m.cls := findClass_of_methodNamed B.named
  have hlocks := B.notSynchronized
  have hinX0 : ∀ w ∈ wsX00, w ∈ wsX0_lightest := by decide +kernel
  have hl := lv_entry ([.ref ah]) (n := 4) (Nat.le_of_ble_eq_true rfl)
  rw [lg_entry_eq]
  generalize (lg_sl ([.ref ah]) ++ List.replicate (4 - (lg_sl ([.ref ah])).length) Slot.unset).toArray = ls at hl ⊢
  have hl : lv_has ls 4 [(0, .ref ah)] := hl
  refine lv_iconst (v := (-1)) hx hb dX0_lightest_0 (by decide) ?_
  refine lv_istore_n (lv' := [(1, .int (-1)), (0, .ref ah)]) hx hb dX0_lightest_1 rfl hl (by decide) rfl (fun ls hl => ?_)
  refine lv_iconst (v := 0) hx hb dX0_lightest_2 (by decide) ?_
  refine lv_istore_n (lv' := [(2, .int 0), (1, .int (-1)), (0, .ref ah)]) hx hb dX0_lightest_3 rfl hl (by decide) rfl (fun ls hl => ?_)
  have L4 : ∀ (k : Nat) (i : Nat) (x1 x2 : Int32), x2 = nI i → i + k = hs.toNatClampNeg → cLightL hh.1 k x2 x1 = cLight hh.1 hs → ∀ (ls : Array Slot), lv_has ls 4 [(0, .ref ah), (1, .int x1), (2, .int x2)] → W p l e ({ frames := 1, cells := 0, slots := 0, locals := 21 } : Room) s m [.ref ah].toArray below meth c s.heap [] 0 0 (MQ below (cb_Si (cLight hh.1 hs)) [.ref ah].toArray s 0 0 (fun _ => False)) (F0 m 4 ls []) := by
    clear hl
    intro k
    induction k with
    | zero =>
      intro i x1 x2 e2 hi hT ls hl
      refine lv_iload_n hx hb dX0_lightest_4 rfl (lv_at hl 2 rfl) ?_
      refine lv_aload_n hx hb dX0_lightest_5 rfl (lv_at hl 0 rfl) ?_
      refine va_get (D := D) (ci := 0) (v := .int hs) (C := RX0) (T := TX0) (N := 4) hx hb hts hinX0 hown hK hP 0 rfl rfl 3 (by decide) (hts (.fieldLink RX0 21 "CobblerCodes$Heap" "size" "I") (by decide +kernel)) (fun _ h9 => h9) rfl dX0_lightest_6 ?_
      refine lv_icmp_ge (tgt := 50) hx hb dX0_lightest_9 (by decide) (fun c_1 => ?_) (fun c9 => absurd (by rw [e2]; exact cb_lo hi) c9)
      refine lv_iload_n hx hb dX0_lightest_50 rfl (lv_at hl 1 rfl) ?_
      exact cb_endSi (v := x1) hx hb hr hlocks hT dX0_lightest_51
    | succ k ih =>
      intro i x1 x2 e2 hi hT ls hl
      refine lv_iload_n hx hb dX0_lightest_4 rfl (lv_at hl 2 rfl) ?_
      refine lv_aload_n hx hb dX0_lightest_5 rfl (lv_at hl 0 rfl) ?_
      refine va_get (D := D) (ci := 0) (v := .int hs) (C := RX0) (T := TX0) (N := 4) hx hb hts hinX0 hown hK hP 0 rfl rfl 3 (by decide) (hts (.fieldLink RX0 21 "CobblerCodes$Heap" "size" "I") (by decide +kernel)) (fun _ h9 => h9) rfl dX0_lightest_6 ?_
      refine lv_icmp_ge (tgt := 50) hx hb dX0_lightest_9 (by decide) (fun c9 => absurd c9 (by rw [e2]; exact cb_hi hi)) (fun c_2 => ?_)
      refine lv_aload_n hx hb dX0_lightest_12 rfl (lv_at hl 0 rfl) ?_
      refine va_get (D := D) (ci := 0) (v := .ref gw) (C := RX0) (T := TX0) (N := 4) hx hb hts hinX0 hown hK hP 0 rfl rfl 0 (by decide) (hts (.fieldLink RX0 9 "CobblerCodes$Heap" "weight" "[I") (by decide +kernel)) (fun _ h9 => h9) rfl dX0_lightest_13 ?_
      refine lv_iload_n hx hb dX0_lightest_16 rfl (lv_at hl 2 rfl) ?_
      have hPc := hP.sub (ws' := [(gw, .inl (cy, 65, .inl hh.1))]) [1] rfl
      refine cb_callSi (r0 := (atN 65 hh.1 x2)) (va_runSN (As := [.ref gw, .int x2]) (rest := []) ⟨hx, hb, hml, hown, hts⟩ (kX3_at l D cy gw 65 hh.1 x2 (by first | assumption | decide)) ⟨va_cnB 2 hts gX0_lightest_X3_at_n29 rfl rfl rfl (hnw (.methodLinkNest RX0 29 yX3_at RX3) (by decide +kernel)) (hts (.initialized RX3) (by decide +kernel)) (by decide +kernel) ⟨Nat.le_of_ble_eq_true rfl, Nat.le_of_ble_eq_true rfl⟩, hts (.static yX3_at) (by decide +kernel), trivial⟩ (cb_Pp.ps hK hPc hnw) rfl rfl hl.1 rfl (lv_room (Nat.le_of_ble_eq_true rfl)) dX0_lightest_17 ⟨Nat.le_of_ble_eq_true rfl, Nat.le_of_ble_eq_true rfl⟩) ?_
      refine lv_istore_n (lv' := [(3, .int (atN 65 hh.1 x2)), (0, .ref ah), (1, .int x1), (2, .int x2)]) hx hb dX0_lightest_20 rfl hl (by decide) rfl (fun ls hl => ?_)
      refine lv_iload_n hx hb dX0_lightest_21 rfl (lv_at hl 0 rfl) ?_
      refine lv_if_eq (tgt := 44) hx hb dX0_lightest_22 (by decide) (fun c_3 => ?_) (fun c_3 => ?_)
      · refine lv_iinc (v := x2 + 1) (lv' := [(2, .int (x2 + 1)), (3, .int (atN 65 hh.1 x2)), (0, .ref ah), (1, .int x1)]) hx hb dX0_lightest_44 hl (k := 3) rfl rfl (by decide) rfl (fun ls hl => ?_)
        refine lv_goto (tgt := 4) hx hb dX0_lightest_47 (by decide) ?_
        exact ih (i + 1) _ _ (by rw [e2]; exact nI_1 i) (by omega) (by rw [← hT]; simp only [cLightL, if_pos c_3]) ls (lv_sub hl [2, 3, 0] rfl)
      · refine lv_iload_n hx hb dX0_lightest_25 rfl (lv_at hl 2 rfl) ?_
        refine lv_iconst (v := (-1)) hx hb dX0_lightest_26 (by decide) ?_
        refine lv_icmp_eq (tgt := 42) hx hb dX0_lightest_27 (by decide) (fun c_4 => ?_) (fun c_4 => ?_)
        · refine lv_iload_n hx hb dX0_lightest_42 rfl (lv_at hl 3 rfl) ?_
          refine lv_istore_n (lv' := [(1, .int x2), (3, .int (atN 65 hh.1 x2)), (0, .ref ah), (2, .int x2)]) hx hb dX0_lightest_43 rfl hl (by decide) rfl (fun ls hl => ?_)
          refine lv_iinc (v := x2 + 1) (lv' := [(2, .int (x2 + 1)), (1, .int x2), (3, .int (atN 65 hh.1 x2)), (0, .ref ah)]) hx hb dX0_lightest_44 hl (k := 3) rfl rfl (by decide) rfl (fun ls hl => ?_)
          refine lv_goto (tgt := 4) hx hb dX0_lightest_47 (by decide) ?_
          exact ih (i + 1) _ _ (by rw [e2]; exact nI_1 i) (by omega) (by rw [← hT]; simp only [cLightL, if_neg c_3, if_pos c_4]) ls (lv_sub hl [3, 1, 0] rfl)
        · refine lv_iload_n hx hb dX0_lightest_30 rfl (lv_at hl 0 rfl) ?_
          refine lv_aload_n hx hb dX0_lightest_31 rfl (lv_at hl 1 rfl) ?_
          refine va_get (D := D) (ci := 0) (v := .ref gw) (C := RX0) (T := TX0) (N := 4) hx hb hts hinX0 hown hK hP 0 rfl rfl 0 (by decide) (hts (.fieldLink RX0 9 "CobblerCodes$Heap" "weight" "[I") (by decide +kernel)) (fun _ h9 => h9) rfl dX0_lightest_32 ?_
          refine lv_iload_n hx hb dX0_lightest_35 rfl (lv_at hl 2 rfl) ?_
          have hPc := hP.sub (ws' := [(gw, .inl (cy, 65, .inl hh.1))]) [1] rfl
          refine cb_callSi (r0 := (atN 65 hh.1 x1)) (va_runSN (As := [.ref gw, .int x1]) (rest := [.int (atN 65 hh.1 x2)]) ⟨hx, hb, hml, hown, hts⟩ (kX3_at l D cy gw 65 hh.1 x1 (by first | assumption | decide)) ⟨va_cnB 2 hts gX0_lightest_X3_at_n29 rfl rfl rfl (hnw (.methodLinkNest RX0 29 yX3_at RX3) (by decide +kernel)) (hts (.initialized RX3) (by decide +kernel)) (by decide +kernel) ⟨Nat.le_of_ble_eq_true rfl, Nat.le_of_ble_eq_true rfl⟩, hts (.static yX3_at) (by decide +kernel), trivial⟩ (cb_Pp.ps hK hPc hnw) rfl rfl hl.1 rfl (lv_room (Nat.le_of_ble_eq_true rfl)) dX0_lightest_36 ⟨Nat.le_of_ble_eq_true rfl, Nat.le_of_ble_eq_true rfl⟩) ?_
          refine lv_icmp_ge (tgt := 44) hx hb dX0_lightest_39 (by decide) (fun c_5 => ?_) (fun c_5 => ?_)
          · refine lv_iinc (v := x2 + 1) (lv' := [(2, .int (x2 + 1)), (3, .int (atN 65 hh.1 x2)), (0, .ref ah), (1, .int x1)]) hx hb dX0_lightest_44 hl (k := 3) rfl rfl (by decide) rfl (fun ls hl => ?_)
            refine lv_goto (tgt := 4) hx hb dX0_lightest_47 (by decide) ?_
            exact ih (i + 1) _ _ (by rw [e2]; exact nI_1 i) (by omega) (by rw [← hT]; simp only [cLightL, if_neg c_3, if_neg c_4, if_pos c_5]) ls (lv_sub hl [2, 3, 0] rfl)
          · refine lv_iload_n hx hb dX0_lightest_42 rfl (lv_at hl 3 rfl) ?_
            refine lv_istore_n (lv' := [(1, .int x2), (3, .int (atN 65 hh.1 x2)), (0, .ref ah), (2, .int x2)]) hx hb dX0_lightest_43 rfl hl (by decide) rfl (fun ls hl => ?_)
            refine lv_iinc (v := x2 + 1) (lv' := [(2, .int (x2 + 1)), (1, .int x2), (3, .int (atN 65 hh.1 x2)), (0, .ref ah)]) hx hb dX0_lightest_44 hl (k := 3) rfl rfl (by decide) rfl (fun ls hl => ?_)
            refine lv_goto (tgt := 4) hx hb dX0_lightest_47 (by decide) ?_
            exact ih (i + 1) _ _ (by rw [e2]; exact nI_1 i) (by omega) (by rw [← hT]; simp only [cLightL, if_neg c_3, if_neg c_4, if_neg c_5]) ls (lv_sub hl [3, 1, 0] rfl)
  exact L4 hs.toNatClampNeg 0 (-1) 0 rfl (Nat.zero_add _) rfl ls (lv_sub hl [2, 1, 0] rfl)

set_option maxHeartbeats 4000000 in
set_option maxRecDepth 100000 in
theorem kX2_knows (l : Launch) (D : va_G) (cy : ClassId) (a0 aw al af ab ap ah : Nat) (T : N5) (sn ex wr : Int32) (u0 : Int32) : Met l yX2_knows wsX2_knows ({ frames := 1, cells := 0, slots := 0, locals := 21 }) (cb_Pp D (cb_tys cy) [(a0, .inr (2, [.ref aw, .ref al, .ref af, .ref ab, .ref ap, .ref ah, .int sn, .int ex, .int wr])), (aw, .inl (cy, 65, .inl T.1)), (al, .inl (cy, 65, .inl T.2.1)), (af, .inl (cy, 65, .inl T.2.2.1)), (ab, .inl (cy, 65, .inl T.2.2.2.1)), (ap, .inl (cy, 33, .inl T.2.2.2.2))] [.ref a0, .int u0]) (cb_Si (cKnows T.2.2.2.2 u0)) 0 0 (fun _ => False) := by
  refine Met.ofW (cc := cX2_knows) (maxL := 2) (ret := (some .boolean)) (by decide) rfl ?_
  intro p e s m args below meth c s₁ B hml hv
  obtain ⟨rfl, hP, hK, hnw⟩ := hv
  have hx := B.exec
  have hb := B.bytes
  have hr := B.returns
  have hts := atoms_spec (ws := wsX2_knows) B.pre
  have hown : s.vm.findClass RX2 = some m.cls := findClass_of_methodNamed B.named
  have hlocks := B.notSynchronized
  have hinX2 : ∀ w ∈ wsX20, w ∈ wsX2_knows := by decide +kernel
  have hl := lv_entry ([.ref a0, .int u0]) (n := 2) (Nat.le_of_ble_eq_true rfl)
  rw [lg_entry_eq]
  generalize (lg_sl ([.ref a0, .int u0]) ++ List.replicate (2 - (lg_sl ([.ref a0, .int u0])).length) Slot.unset).toArray = ls at hl ⊢
  have hl : lv_has ls 2 [(0, .ref a0), (1, .int u0)] := hl
  refine lv_aload_n hx hb dX2_knows_0 rfl (lv_at hl 0 rfl) ?_
  refine va_get (D := D) (ci := 2) (v := .ref ap) (C := RX2) (T := TX2) (N := 9) hx hb hts hinX2 hown hK hP 0 rfl rfl 4 (by decide) (hts (.fieldLink RX2 24 "CobblerCodes$Tree" "placeOf" "[I") (by decide +kernel)) (fun _ h9 => h9) rfl dX2_knows_1 ?_
  refine lv_iload_n hx hb dX2_knows_4 rfl (lv_at hl 1 rfl) ?_
  have hPc := hP.sub (ws' := [(ap, .inl (cy, 33, .inl T.2.2.2.2))]) [5] rfl
  refine cb_callSi (r0 := (atN 33 T.2.2.2.2 u0)) (va_runSN (As := [.ref ap, .int u0]) (rest := []) ⟨hx, hb, hml, hown, hts⟩ (kX3_at l D cy ap 33 T.2.2.2.2 u0 (by first | assumption | decide)) ⟨va_cnB 2 hts gX2_knows_X3_at_n54 rfl rfl rfl (hnw (.methodLinkNest RX2 54 yX3_at RX3) (by decide +kernel)) (hts (.initialized RX3) (by decide +kernel)) (by decide +kernel) ⟨Nat.le_of_ble_eq_true rfl, Nat.le_of_ble_eq_true rfl⟩, hts (.static yX3_at) (by decide +kernel), trivial⟩ (cb_Pp.ps hK hPc hnw) rfl rfl hl.1 rfl (lv_room (Nat.le_of_ble_eq_true rfl)) dX2_knows_5 ⟨Nat.le_of_ble_eq_true rfl, Nat.le_of_ble_eq_true rfl⟩) ?_
  refine lv_iconst (v := (-1)) hx hb dX2_knows_8 (by decide) ?_
  refine lv_icmp_eq (tgt := 16) hx hb dX2_knows_9 (by decide) (fun c_1 => ?_) (fun c_1 => ?_)
  · refine lv_iconst (v := 0) hx hb dX2_knows_16 (by decide) ?_
    exact cb_endSz (v := 0) hx hb hr hlocks (by unfold cKnows; simp only [if_pos c_1]) (by decide) dX2_knows_17
  · refine lv_iconst (v := 1) hx hb dX2_knows_12 (by decide) ?_
    refine lv_goto (tgt := 17) hx hb dX2_knows_13 (by decide) ?_
    exact cb_endSz (v := 1) hx hb hr hlocks (by unfold cKnows; simp only [if_neg c_1]) (by decide) dX2_knows_17

set_option maxHeartbeats 4000000 in
set_option maxRecDepth 100000 in
theorem kX2_knownLasts (l : Launch) (D : va_G) (cy : ClassId) (a0 aw al af ab ap ah : Nat) (T : N5) (sn ex wr : Int32) : Met l yX2_knownLasts wsX2_knownLasts ({ frames := 0, cells := 0, slots := 0, locals := 0 }) (cb_Pp D (cb_tys cy) [(a0, .inr (2, [.ref aw, .ref al, .ref af, .ref ab, .ref ap, .ref ah, .int sn, .int ex, .int wr])), (aw, .inl (cy, 65, .inl T.1)), (al, .inl (cy, 65, .inl T.2.1)), (af, .inl (cy, 65, .inl T.2.2.1)), (ab, .inl (cy, 65, .inl T.2.2.2.1)), (ap, .inl (cy, 33, .inl T.2.2.2.2))] [.ref a0]) (cb_Si ((sn - 1) / 2)) 0 0 (fun _ => False) := by
  refine Met.ofW (cc := cX2_knownLasts) (maxL := 1) (ret := (some .int)) (by decide) rfl ?_
  intro p e s m args below meth c s₁ B hml hv
  obtain ⟨rfl, hP, hK, hnw⟩ := hv
  have hx := B.exec
  have hb := B.bytes
  have hr := B.returns
  have hts := atoms_spec (ws := wsX2_knownLasts) B.pre
  have hown : s.vm.findClass RX2 = some m.cls := findClass_of_methodNamed B.named
  have hlocks := B.notSynchronized
  have hinX2 : ∀ w ∈ wsX20, w ∈ wsX2_knownLasts := by decide +kernel
  have hl := lv_entry ([.ref a0]) (n := 1) (Nat.le_of_ble_eq_true rfl)
  rw [lg_entry_eq]
  generalize (lg_sl ([.ref a0]) ++ List.replicate (1 - (lg_sl ([.ref a0])).length) Slot.unset).toArray = ls at hl ⊢
  have hl : lv_has ls 1 [(0, .ref a0)] := hl
  refine lv_aload_n hx hb dX2_knownLasts_0 rfl (lv_at hl 0 rfl) ?_
  refine va_get (D := D) (ci := 2) (v := .int sn) (C := RX2) (T := TX2) (N := 9) hx hb hts hinX2 hown hK hP 0 rfl rfl 6 (by decide) (hts (.fieldLink RX2 40 "CobblerCodes$Tree" "size" "I") (by decide +kernel)) (fun _ h9 => h9) rfl dX2_knownLasts_1 ?_
  refine lv_iconst (v := 1) hx hb dX2_knownLasts_4 (by decide) ?_
  refine lv_isub hx hb dX2_knownLasts_5 ?_
  refine lv_iconst (v := 2) hx hb dX2_knownLasts_6 (by decide) ?_
  refine lv_idiv hx hb dX2_knownLasts_7 (by decide) ?_
  exact cb_endSi (v := (sn - 1) / 2) hx hb hr hlocks rfl dX2_knownLasts_8

set_option maxHeartbeats 4000000 in
set_option maxRecDepth 100000 in
theorem kX2_weightOfRoot (l : Launch) (D : va_G) (cy : ClassId) (a0 aw al af ab ap ah : Nat) (T : N5) (sn ex wr : Int32) : Met l yX2_weightOfRoot wsX2_weightOfRoot ({ frames := 1, cells := 0, slots := 0, locals := 21 }) (cb_Pp D (cb_tys cy) [(a0, .inr (2, [.ref aw, .ref al, .ref af, .ref ab, .ref ap, .ref ah, .int sn, .int ex, .int wr])), (aw, .inl (cy, 65, .inl T.1)), (al, .inl (cy, 65, .inl T.2.1)), (af, .inl (cy, 65, .inl T.2.2.1)), (ab, .inl (cy, 65, .inl T.2.2.2.1)), (ap, .inl (cy, 33, .inl T.2.2.2.2))] [.ref a0]) (cb_Si (atN 65 T.1 0)) 0 0 (fun _ => False) := by
  refine Met.ofW (cc := cX2_weightOfRoot) (maxL := 1) (ret := (some .int)) (by decide) rfl ?_
  intro p e s m args below meth c s₁ B hml hv
  obtain ⟨rfl, hP, hK, hnw⟩ := hv
  have hx := B.exec
  have hb := B.bytes
  have hr := B.returns
  have hts := atoms_spec (ws := wsX2_weightOfRoot) B.pre
  have hown : s.vm.findClass RX2 = some m.cls := findClass_of_methodNamed B.named
  have hlocks := B.notSynchronized
  have hinX2 : ∀ w ∈ wsX20, w ∈ wsX2_weightOfRoot := by decide +kernel
  have hl := lv_entry ([.ref a0]) (n := 1) (Nat.le_of_ble_eq_true rfl)
  rw [lg_entry_eq]
  generalize (lg_sl ([.ref a0]) ++ List.replicate (1 - (lg_sl ([.ref a0])).length) Slot.unset).toArray = ls at hl ⊢
  have hl : lv_has ls 1 [(0, .ref a0)] := hl
  refine lv_aload_n hx hb dX2_weightOfRoot_0 rfl (lv_at hl 0 rfl) ?_
  refine va_get (D := D) (ci := 2) (v := .ref aw) (C := RX2) (T := TX2) (N := 9) hx hb hts hinX2 hown hK hP 0 rfl rfl 0 (by decide) (hts (.fieldLink RX2 9 "CobblerCodes$Tree" "weight" "[I") (by decide +kernel)) (fun _ h9 => h9) rfl dX2_weightOfRoot_1 ?_
  refine lv_iconst (v := 0) hx hb dX2_weightOfRoot_4 (by decide) ?_
  have hPc := hP.sub (ws' := [(aw, .inl (cy, 65, .inl T.1))]) [1] rfl
  refine cb_callSi (r0 := (atN 65 T.1 0)) (va_runSN (As := [.ref aw, .int 0]) (rest := []) ⟨hx, hb, hml, hown, hts⟩ (kX3_at l D cy aw 65 T.1 0 (by first | assumption | decide)) ⟨va_cnB 2 hts gX2_weightOfRoot_X3_at_n54 rfl rfl rfl (hnw (.methodLinkNest RX2 54 yX3_at RX3) (by decide +kernel)) (hts (.initialized RX3) (by decide +kernel)) (by decide +kernel) ⟨Nat.le_of_ble_eq_true rfl, Nat.le_of_ble_eq_true rfl⟩, hts (.static yX3_at) (by decide +kernel), trivial⟩ (cb_Pp.ps hK hPc hnw) rfl rfl hl.1 rfl (lv_room (Nat.le_of_ble_eq_true rfl)) dX2_weightOfRoot_5 ⟨Nat.le_of_ble_eq_true rfl, Nat.le_of_ble_eq_true rfl⟩) ?_
  exact cb_endSi (v := atN 65 T.1 0) hx hb hr hlocks rfl dX2_weightOfRoot_8

set_option maxHeartbeats 4000000 in
set_option maxRecDepth 100000 in
theorem kX2_factOfNode (l : Launch) (D : va_G) (cy : ClassId) (a0 aw al af ab ap ah : Nat) (T : N5) (sn ex wr : Int32) (u0 what : Int32) : Met l yX2_factOfNode wsX2_factOfNode ({ frames := 1, cells := 0, slots := 0, locals := 21 }) (cb_Pp D (cb_tys cy) [(a0, .inr (2, [.ref aw, .ref al, .ref af, .ref ab, .ref ap, .ref ah, .int sn, .int ex, .int wr])), (aw, .inl (cy, 65, .inl T.1)), (al, .inl (cy, 65, .inl T.2.1)), (af, .inl (cy, 65, .inl T.2.2.1)), (ab, .inl (cy, 65, .inl T.2.2.2.1)), (ap, .inl (cy, 33, .inl T.2.2.2.2))] [.ref a0, .int u0, .int what]) (cb_Si (cFactNode T u0 what)) 0 0 (fun _ => False) := by
  refine Met.ofW (cc := cX2_factOfNode) (maxL := 3) (ret := (some .int)) (by decide) rfl ?_
  intro p e s m args below meth c s₁ B hml hv
  obtain ⟨rfl, hP, hK, hnw⟩ := hv
  have hx := B.exec
  have hb := B.bytes
  have hr := B.returns
  have hts := atoms_spec (ws := wsX2_factOfNode) B.pre
  have hown : s.vm.findClass RX2 = some m.cls := findClass_of_methodNamed B.named
  have hlocks := B.notSynchronized
  have hinX2 : ∀ w ∈ wsX20, w ∈ wsX2_factOfNode := by decide +kernel
  have hl := lv_entry ([.ref a0, .int u0, .int what]) (n := 3) (Nat.le_of_ble_eq_true rfl)
  rw [lg_entry_eq]
  generalize (lg_sl ([.ref a0, .int u0, .int what]) ++ List.replicate (3 - (lg_sl ([.ref a0, .int u0, .int what])).length) Slot.unset).toArray = ls at hl ⊢
  have hl : lv_has ls 3 [(0, .ref a0), (1, .int u0), (2, .int what)] := hl
  refine lv_iload_n hx hb dX2_factOfNode_0 rfl (lv_at hl 2 rfl) ?_
  by_cases c_1 : what = 0
  · refine lv_tableIn (off := 27) (tgt := 28) hx hb dX2_factOfNode_1 (by rw [c_1]; decide) (by rw [c_1]; decide) (by rw [c_1]; rfl) (by decide) ?_
    refine lv_aload_n hx hb dX2_factOfNode_28 rfl (lv_at hl 0 rfl) ?_
    refine va_get (D := D) (ci := 2) (v := .ref aw) (C := RX2) (T := TX2) (N := 9) hx hb hts hinX2 hown hK hP 0 rfl rfl 0 (by decide) (hts (.fieldLink RX2 9 "CobblerCodes$Tree" "weight" "[I") (by decide +kernel)) (fun _ h9 => h9) rfl dX2_factOfNode_29 ?_
    refine lv_iload_n hx hb dX2_factOfNode_32 rfl (lv_at hl 1 rfl) ?_
    have hPc := hP.sub (ws' := [(aw, .inl (cy, 65, .inl T.1))]) [1] rfl
    refine cb_callSi (r0 := (atN 65 T.1 u0)) (va_runSN (As := [.ref aw, .int u0]) (rest := []) ⟨hx, hb, hml, hown, hts⟩ (kX3_at l D cy aw 65 T.1 u0 (by first | assumption | decide)) ⟨va_cnB 2 hts gX2_factOfNode_X3_at_n54 rfl rfl rfl (hnw (.methodLinkNest RX2 54 yX3_at RX3) (by decide +kernel)) (hts (.initialized RX3) (by decide +kernel)) (by decide +kernel) ⟨Nat.le_of_ble_eq_true rfl, Nat.le_of_ble_eq_true rfl⟩, hts (.static yX3_at) (by decide +kernel), trivial⟩ (cb_Pp.ps hK hPc hnw) rfl rfl hl.1 rfl (lv_room (Nat.le_of_ble_eq_true rfl)) dX2_factOfNode_33 ⟨Nat.le_of_ble_eq_true rfl, Nat.le_of_ble_eq_true rfl⟩) ?_
    exact cb_endSi (v := atN 65 T.1 u0) hx hb hr hlocks (by unfold cFactNode; simp only [if_pos c_1]) dX2_factOfNode_36
  by_cases c_2 : what = 1
  · refine lv_tableIn (off := 36) (tgt := 37) hx hb dX2_factOfNode_1 (by rw [c_2]; decide) (by rw [c_2]; decide) (by rw [c_2]; rfl) (by decide) ?_
    refine lv_aload_n hx hb dX2_factOfNode_37 rfl (lv_at hl 0 rfl) ?_
    refine va_get (D := D) (ci := 2) (v := .ref al) (C := RX2) (T := TX2) (N := 9) hx hb hts hinX2 hown hK hP 0 rfl rfl 1 (by decide) (hts (.fieldLink RX2 15 "CobblerCodes$Tree" "leaf" "[I") (by decide +kernel)) (fun _ h9 => h9) rfl dX2_factOfNode_38 ?_
    refine lv_iload_n hx hb dX2_factOfNode_41 rfl (lv_at hl 1 rfl) ?_
    have hPc := hP.sub (ws' := [(al, .inl (cy, 65, .inl T.2.1))]) [2] rfl
    refine cb_callSi (r0 := (atN 65 T.2.1 u0)) (va_runSN (As := [.ref al, .int u0]) (rest := []) ⟨hx, hb, hml, hown, hts⟩ (kX3_at l D cy al 65 T.2.1 u0 (by first | assumption | decide)) ⟨va_cnB 2 hts gX2_factOfNode_X3_at_n54 rfl rfl rfl (hnw (.methodLinkNest RX2 54 yX3_at RX3) (by decide +kernel)) (hts (.initialized RX3) (by decide +kernel)) (by decide +kernel) ⟨Nat.le_of_ble_eq_true rfl, Nat.le_of_ble_eq_true rfl⟩, hts (.static yX3_at) (by decide +kernel), trivial⟩ (cb_Pp.ps hK hPc hnw) rfl rfl hl.1 rfl (lv_room (Nat.le_of_ble_eq_true rfl)) dX2_factOfNode_42 ⟨Nat.le_of_ble_eq_true rfl, Nat.le_of_ble_eq_true rfl⟩) ?_
    exact cb_endSi (v := atN 65 T.2.1 u0) hx hb hr hlocks (by unfold cFactNode; simp only [if_neg c_1, if_pos c_2]) dX2_factOfNode_45
  by_cases c_3 : what = 2
  · refine lv_tableIn (off := 45) (tgt := 46) hx hb dX2_factOfNode_1 (by rw [c_3]; decide) (by rw [c_3]; decide) (by rw [c_3]; rfl) (by decide) ?_
    refine lv_aload_n hx hb dX2_factOfNode_46 rfl (lv_at hl 0 rfl) ?_
    refine va_get (D := D) (ci := 2) (v := .ref ab) (C := RX2) (T := TX2) (N := 9) hx hb hts hinX2 hown hK hP 0 rfl rfl 3 (by decide) (hts (.fieldLink RX2 21 "CobblerCodes$Tree" "above" "[I") (by decide +kernel)) (fun _ h9 => h9) rfl dX2_factOfNode_47 ?_
    refine lv_iload_n hx hb dX2_factOfNode_50 rfl (lv_at hl 1 rfl) ?_
    have hPc := hP.sub (ws' := [(ab, .inl (cy, 65, .inl T.2.2.2.1))]) [4] rfl
    refine cb_callSi (r0 := (atN 65 T.2.2.2.1 u0)) (va_runSN (As := [.ref ab, .int u0]) (rest := []) ⟨hx, hb, hml, hown, hts⟩ (kX3_at l D cy ab 65 T.2.2.2.1 u0 (by first | assumption | decide)) ⟨va_cnB 2 hts gX2_factOfNode_X3_at_n54 rfl rfl rfl (hnw (.methodLinkNest RX2 54 yX3_at RX3) (by decide +kernel)) (hts (.initialized RX3) (by decide +kernel)) (by decide +kernel) ⟨Nat.le_of_ble_eq_true rfl, Nat.le_of_ble_eq_true rfl⟩, hts (.static yX3_at) (by decide +kernel), trivial⟩ (cb_Pp.ps hK hPc hnw) rfl rfl hl.1 rfl (lv_room (Nat.le_of_ble_eq_true rfl)) dX2_factOfNode_51 ⟨Nat.le_of_ble_eq_true rfl, Nat.le_of_ble_eq_true rfl⟩) ?_
    exact cb_endSi (v := atN 65 T.2.2.2.1 u0) hx hb hr hlocks (by unfold cFactNode; simp only [if_neg c_1, if_neg c_2, if_pos c_3]) dX2_factOfNode_54
  refine lv_tableOut (tgt := 55) hx hb dX2_factOfNode_1 (cb_out3 c_1 c_2 c_3) (by decide) ?_
  refine lv_aload_n hx hb dX2_factOfNode_55 rfl (lv_at hl 0 rfl) ?_
  refine va_get (D := D) (ci := 2) (v := .ref af) (C := RX2) (T := TX2) (N := 9) hx hb hts hinX2 hown hK hP 0 rfl rfl 2 (by decide) (hts (.fieldLink RX2 18 "CobblerCodes$Tree" "firstPart" "[I") (by decide +kernel)) (fun _ h9 => h9) rfl dX2_factOfNode_56 ?_
  refine lv_iload_n hx hb dX2_factOfNode_59 rfl (lv_at hl 1 rfl) ?_
  have hPc := hP.sub (ws' := [(af, .inl (cy, 65, .inl T.2.2.1))]) [3] rfl
  refine cb_callSi (r0 := (atN 65 T.2.2.1 u0)) (va_runSN (As := [.ref af, .int u0]) (rest := []) ⟨hx, hb, hml, hown, hts⟩ (kX3_at l D cy af 65 T.2.2.1 u0 (by first | assumption | decide)) ⟨va_cnB 2 hts gX2_factOfNode_X3_at_n54 rfl rfl rfl (hnw (.methodLinkNest RX2 54 yX3_at RX3) (by decide +kernel)) (hts (.initialized RX3) (by decide +kernel)) (by decide +kernel) ⟨Nat.le_of_ble_eq_true rfl, Nat.le_of_ble_eq_true rfl⟩, hts (.static yX3_at) (by decide +kernel), trivial⟩ (cb_Pp.ps hK hPc hnw) rfl rfl hl.1 rfl (lv_room (Nat.le_of_ble_eq_true rfl)) dX2_factOfNode_60 ⟨Nat.le_of_ble_eq_true rfl, Nat.le_of_ble_eq_true rfl⟩) ?_
  exact cb_endSi (v := atN 65 T.2.2.1 u0) hx hb hr hlocks (by unfold cFactNode; simp only [if_neg c_1, if_neg c_2, if_neg c_3]) dX2_factOfNode_63

set_option maxHeartbeats 4000000 in
set_option maxRecDepth 100000 in
theorem kX2_lengthOf (l : Launch) (D : va_G) (cy : ClassId) (a0 aw al af ab ap ah : Nat) (T : N5) (sn ex wr : Int32) (u0 : Int32) : Met l yX2_lengthOf wsX2_lengthOf ({ frames := 1, cells := 0, slots := 0, locals := 21 }) (cb_Pp D (cb_tys cy) [(a0, .inr (2, [.ref aw, .ref al, .ref af, .ref ab, .ref ap, .ref ah, .int sn, .int ex, .int wr])), (aw, .inl (cy, 65, .inl T.1)), (al, .inl (cy, 65, .inl T.2.1)), (af, .inl (cy, 65, .inl T.2.2.1)), (ab, .inl (cy, 65, .inl T.2.2.2.1)), (ap, .inl (cy, 33, .inl T.2.2.2.2))] [.ref a0, .int u0]) (cb_Si (cLen T u0)) 0 0 (fun _ => False) := by
  refine Met.ofW (cc := cX2_lengthOf) (maxL := 4) (ret := (some .int)) (by decide) rfl ?_
  intro p e s m args below meth c s₁ B hml hv
  obtain ⟨rfl, hP, hK, hnw⟩ := hv
  have hx := B.exec
  have hb := B.bytes
  have hr := B.returns
  have hts := atoms_spec (ws := wsX2_lengthOf) B.pre
  have hown : s.vm.findClass RX2 = some m.cls := findClass_of_methodNamed B.named
  have hlocks := B.notSynchronized
  have hinX2 : ∀ w ∈ wsX20, w ∈ wsX2_lengthOf := by decide +kernel
  have hl := lv_entry ([.ref a0, .int u0]) (n := 4) (Nat.le_of_ble_eq_true rfl)
  rw [lg_entry_eq]
  generalize (lg_sl ([.ref a0, .int u0]) ++ List.replicate (4 - (lg_sl ([.ref a0, .int u0])).length) Slot.unset).toArray = ls at hl ⊢
  have hl : lv_has ls 4 [(0, .ref a0), (1, .int u0)] := hl
  refine lv_iconst (v := 0) hx hb dX2_lengthOf_0 (by decide) ?_
  refine lv_istore_n (lv' := [(2, .int 0), (0, .ref a0), (1, .int u0)]) hx hb dX2_lengthOf_1 rfl hl (by decide) rfl (fun ls hl => ?_)
  refine lv_aload_n hx hb dX2_lengthOf_2 rfl (lv_at hl 1 rfl) ?_
  refine va_get (D := D) (ci := 2) (v := .ref ab) (C := RX2) (T := TX2) (N := 9) hx hb hts hinX2 hown hK hP 0 rfl rfl 3 (by decide) (hts (.fieldLink RX2 21 "CobblerCodes$Tree" "above" "[I") (by decide +kernel)) (fun _ h9 => h9) rfl dX2_lengthOf_3 ?_
  refine lv_aload_n hx hb dX2_lengthOf_6 rfl (lv_at hl 1 rfl) ?_
  refine va_get (D := D) (ci := 2) (v := .ref ap) (C := RX2) (T := TX2) (N := 9) hx hb hts hinX2 hown hK hP 0 rfl rfl 4 (by decide) (hts (.fieldLink RX2 24 "CobblerCodes$Tree" "placeOf" "[I") (by decide +kernel)) (fun _ h9 => h9) rfl dX2_lengthOf_7 ?_
  refine lv_iload_n hx hb dX2_lengthOf_10 rfl (lv_at hl 2 rfl) ?_
  have hPc := hP.sub (ws' := [(ap, .inl (cy, 33, .inl T.2.2.2.2))]) [5] rfl
  refine cb_callSi (r0 := (atN 33 T.2.2.2.2 u0)) (va_runSN (As := [.ref ap, .int u0]) (rest := [.ref ab]) ⟨hx, hb, hml, hown, hts⟩ (kX3_at l D cy ap 33 T.2.2.2.2 u0 (by first | assumption | decide)) ⟨va_cnB 2 hts gX2_lengthOf_X3_at_n54 rfl rfl rfl (hnw (.methodLinkNest RX2 54 yX3_at RX3) (by decide +kernel)) (hts (.initialized RX3) (by decide +kernel)) (by decide +kernel) ⟨Nat.le_of_ble_eq_true rfl, Nat.le_of_ble_eq_true rfl⟩, hts (.static yX3_at) (by decide +kernel), trivial⟩ (cb_Pp.ps hK hPc hnw) rfl rfl hl.1 rfl (lv_room (Nat.le_of_ble_eq_true rfl)) dX2_lengthOf_11 ⟨Nat.le_of_ble_eq_true rfl, Nat.le_of_ble_eq_true rfl⟩) ?_
  have hPc := hP.sub (ws' := [(ab, .inl (cy, 65, .inl T.2.2.2.1))]) [4] rfl
  refine cb_callSi (r0 := (atN 65 T.2.2.2.1 (atN 33 T.2.2.2.2 u0))) (va_runSN (As := [.ref ab, .int (atN 33 T.2.2.2.2 u0)]) (rest := []) ⟨hx, hb, hml, hown, hts⟩ (kX3_at l D cy ab 65 T.2.2.2.1 (atN 33 T.2.2.2.2 u0) (by first | assumption | decide)) ⟨va_cnB 2 hts gX2_lengthOf_X3_at_n54 rfl rfl rfl (hnw (.methodLinkNest RX2 54 yX3_at RX3) (by decide +kernel)) (hts (.initialized RX3) (by decide +kernel)) (by decide +kernel) ⟨Nat.le_of_ble_eq_true rfl, Nat.le_of_ble_eq_true rfl⟩, hts (.static yX3_at) (by decide +kernel), trivial⟩ (cb_Pp.ps hK hPc hnw) rfl rfl hl.1 rfl (lv_room (Nat.le_of_ble_eq_true rfl)) dX2_lengthOf_14 ⟨Nat.le_of_ble_eq_true rfl, Nat.le_of_ble_eq_true rfl⟩) ?_
  refine lv_istore_n (lv' := [(3, .int (atN 65 T.2.2.2.1 (atN 33 T.2.2.2.2 u0))), (2, .int 0), (0, .ref a0), (1, .int u0)]) hx hb dX2_lengthOf_17 rfl hl (by decide) rfl (fun ls hl => ?_)
  have L18 : ∀ (k : Nat) (x2 x3 : Int32), k ≤ 65 → x2 = nI (65 - k) → cLenL T.2.2.2.1 k x2 x3 = cLen T u0 → ∀ (ls : Array Slot), lv_has ls 4 [(0, .ref a0), (1, .int u0), (2, .int x2), (3, .int x3)] → W p l e ({ frames := 1, cells := 0, slots := 0, locals := 21 } : Room) s m [.ref a0, .int u0].toArray below meth c s.heap [] 0 0 (MQ below (cb_Si (cLen T u0)) [.ref a0, .int u0].toArray s 0 0 (fun _ => False)) (F0 m 18 ls []) := by
    clear hl
    intro k
    induction k with
    | zero =>
      intro x2 x3 hk e2 hT ls hl
      refine lv_iload_n hx hb dX2_lengthOf_18 rfl (lv_at hl 3 rfl) ?_
      refine lv_iconst (v := (-1)) hx hb dX2_lengthOf_19 (by decide) ?_
      refine lv_icmp_eq (tgt := 44) hx hb dX2_lengthOf_20 (by decide) (fun c_1 => ?_) (fun c_1 => ?_)
      · refine lv_iload_n hx hb dX2_lengthOf_44 rfl (lv_at hl 2 rfl) ?_
        exact cb_endSi (v := x2) hx hb hr hlocks (by rw [← hT]; simp only [cLenL]) dX2_lengthOf_45
      · refine lv_iload_n hx hb dX2_lengthOf_23 rfl (lv_at hl 2 rfl) ?_
        refine lv_bipush (v := 65) hx hb dX2_lengthOf_24 (by decide) ?_
        refine lv_icmp_ge (tgt := 44) hx hb dX2_lengthOf_26 (by decide) (fun c_2 => ?_) (fun c9 => absurd (by rw [e2]; decide) c9)
        refine lv_iload_n hx hb dX2_lengthOf_44 rfl (lv_at hl 2 rfl) ?_
        exact cb_endSi (v := x2) hx hb hr hlocks (by rw [← hT]; simp only [cLenL]) dX2_lengthOf_45
    | succ k ih =>
      intro x2 x3 hk e2 hT ls hl
      refine lv_iload_n hx hb dX2_lengthOf_18 rfl (lv_at hl 3 rfl) ?_
      refine lv_iconst (v := (-1)) hx hb dX2_lengthOf_19 (by decide) ?_
      refine lv_icmp_eq (tgt := 44) hx hb dX2_lengthOf_20 (by decide) (fun c_3 => ?_) (fun c_3 => ?_)
      · refine lv_iload_n hx hb dX2_lengthOf_44 rfl (lv_at hl 2 rfl) ?_
        exact cb_endSi (v := x2) hx hb hr hlocks (by rw [← hT]; simp only [cLenL, if_pos c_3]) dX2_lengthOf_45
      · refine lv_iload_n hx hb dX2_lengthOf_23 rfl (lv_at hl 2 rfl) ?_
        refine lv_bipush (v := 65) hx hb dX2_lengthOf_24 (by decide) ?_
        refine lv_icmp_ge (tgt := 44) hx hb dX2_lengthOf_26 (by decide) (fun c9 => absurd c9 (by rw [e2]; exact nI_ge (b := 65) (by omega) (by decide))) (fun c_4 => ?_)
        refine lv_iinc (v := x2 + 1) (lv' := [(2, .int (x2 + 1)), (0, .ref a0), (1, .int u0), (3, .int x3)]) hx hb dX2_lengthOf_29 hl (k := 2) rfl rfl (by decide) rfl (fun ls hl => ?_)
        refine lv_aload_n hx hb dX2_lengthOf_32 rfl (lv_at hl 1 rfl) ?_
        refine va_get (D := D) (ci := 2) (v := .ref ab) (C := RX2) (T := TX2) (N := 9) hx hb hts hinX2 hown hK hP 0 rfl rfl 3 (by decide) (hts (.fieldLink RX2 21 "CobblerCodes$Tree" "above" "[I") (by decide +kernel)) (fun _ h9 => h9) rfl dX2_lengthOf_33 ?_
        refine lv_iload_n hx hb dX2_lengthOf_36 rfl (lv_at hl 3 rfl) ?_
        have hPc := hP.sub (ws' := [(ab, .inl (cy, 65, .inl T.2.2.2.1))]) [4] rfl
        refine cb_callSi (r0 := (atN 65 T.2.2.2.1 x3)) (va_runSN (As := [.ref ab, .int x3]) (rest := []) ⟨hx, hb, hml, hown, hts⟩ (kX3_at l D cy ab 65 T.2.2.2.1 x3 (by first | assumption | decide)) ⟨va_cnB 2 hts gX2_lengthOf_X3_at_n54 rfl rfl rfl (hnw (.methodLinkNest RX2 54 yX3_at RX3) (by decide +kernel)) (hts (.initialized RX3) (by decide +kernel)) (by decide +kernel) ⟨Nat.le_of_ble_eq_true rfl, Nat.le_of_ble_eq_true rfl⟩, hts (.static yX3_at) (by decide +kernel), trivial⟩ (cb_Pp.ps hK hPc hnw) rfl rfl hl.1 rfl (lv_room (Nat.le_of_ble_eq_true rfl)) dX2_lengthOf_37 ⟨Nat.le_of_ble_eq_true rfl, Nat.le_of_ble_eq_true rfl⟩) ?_
        refine lv_istore_n (lv' := [(3, .int (atN 65 T.2.2.2.1 x3)), (2, .int (x2 + 1)), (0, .ref a0), (1, .int u0)]) hx hb dX2_lengthOf_40 rfl hl (by decide) rfl (fun ls hl => ?_)
        refine lv_goto (tgt := 18) hx hb dX2_lengthOf_41 (by decide) ?_
        exact ih _ _ (by omega) (by rw [e2, nI_1]; congr 1; omega) (by rw [← hT]; simp only [cLenL, if_neg c_3]) ls (lv_sub hl [2, 3, 1, 0] rfl)
  exact L18 65 0 _ (Nat.le_refl 65) rfl rfl ls (lv_sub hl [2, 3, 1, 0] rfl)

set_option maxHeartbeats 4000000 in
set_option maxRecDepth 100000 in
theorem kX2_codeOf (l : Launch) (D : va_G) (cy : ClassId) (a0 aw al af ab ap ah : Nat) (T : N5) (sn ex wr : Int32) (u0 : Int32) : Met l yX2_codeOf wsX2_codeOf ({ frames := 1, cells := 0, slots := 0, locals := 21 }) (cb_Pp D (cb_tys cy) [(a0, .inr (2, [.ref aw, .ref al, .ref af, .ref ab, .ref ap, .ref ah, .int sn, .int ex, .int wr])), (aw, .inl (cy, 65, .inl T.1)), (al, .inl (cy, 65, .inl T.2.1)), (af, .inl (cy, 65, .inl T.2.2.1)), (ab, .inl (cy, 65, .inl T.2.2.2.1)), (ap, .inl (cy, 33, .inl T.2.2.2.2))] [.ref a0, .int u0]) (cb_Si (cCode T u0)) 0 0 (fun _ => False) := by
  refine Met.ofW (cc := cX2_codeOf) (maxL := 6) (ret := (some .int)) (by decide) rfl ?_
  intro p e s m args below meth c s₁ B hml hv
  obtain ⟨rfl, hP, hK, hnw⟩ := hv
  have hx := B.exec
  have hb := B.bytes
  have hr := B.returns
  have hts := atoms_spec (ws := wsX2_codeOf) B.pre
  have hown : s.vm.findClass RX2 = some m.cls := findClass_of_methodNamed B.named
  have hlocks := B.notSynchronized
  have hinX2 : ∀ w ∈ wsX20, w ∈ wsX2_codeOf := by decide +kernel
  have hl := lv_entry ([.ref a0, .int u0]) (n := 6) (Nat.le_of_ble_eq_true rfl)
  rw [lg_entry_eq]
  generalize (lg_sl ([.ref a0, .int u0]) ++ List.replicate (6 - (lg_sl ([.ref a0, .int u0])).length) Slot.unset).toArray = ls at hl ⊢
  have hl : lv_has ls 6 [(0, .ref a0), (1, .int u0)] := hl
  refine lv_iconst (v := 0) hx hb dX2_codeOf_0 (by decide) ?_
  refine lv_istore_n (lv' := [(2, .int 0), (0, .ref a0), (1, .int u0)]) hx hb dX2_codeOf_1 rfl hl (by decide) rfl (fun ls hl => ?_)
  refine lv_aload_n hx hb dX2_codeOf_2 rfl (lv_at hl 1 rfl) ?_
  refine va_get (D := D) (ci := 2) (v := .ref ap) (C := RX2) (T := TX2) (N := 9) hx hb hts hinX2 hown hK hP 0 rfl rfl 4 (by decide) (hts (.fieldLink RX2 24 "CobblerCodes$Tree" "placeOf" "[I") (by decide +kernel)) (fun _ h9 => h9) rfl dX2_codeOf_3 ?_
  refine lv_iload_n hx hb dX2_codeOf_6 rfl (lv_at hl 2 rfl) ?_
  have hPc := hP.sub (ws' := [(ap, .inl (cy, 33, .inl T.2.2.2.2))]) [5] rfl
  refine cb_callSi (r0 := (atN 33 T.2.2.2.2 u0)) (va_runSN (As := [.ref ap, .int u0]) (rest := []) ⟨hx, hb, hml, hown, hts⟩ (kX3_at l D cy ap 33 T.2.2.2.2 u0 (by first | assumption | decide)) ⟨va_cnB 2 hts gX2_codeOf_X3_at_n54 rfl rfl rfl (hnw (.methodLinkNest RX2 54 yX3_at RX3) (by decide +kernel)) (hts (.initialized RX3) (by decide +kernel)) (by decide +kernel) ⟨Nat.le_of_ble_eq_true rfl, Nat.le_of_ble_eq_true rfl⟩, hts (.static yX3_at) (by decide +kernel), trivial⟩ (cb_Pp.ps hK hPc hnw) rfl rfl hl.1 rfl (lv_room (Nat.le_of_ble_eq_true rfl)) dX2_codeOf_7 ⟨Nat.le_of_ble_eq_true rfl, Nat.le_of_ble_eq_true rfl⟩) ?_
  refine lv_istore_n (lv' := [(3, .int (atN 33 T.2.2.2.2 u0)), (2, .int 0), (0, .ref a0), (1, .int u0)]) hx hb dX2_codeOf_10 rfl hl (by decide) rfl (fun ls hl => ?_)
  refine lv_aload_n hx hb dX2_codeOf_11 rfl (lv_at hl 2 rfl) ?_
  refine va_get (D := D) (ci := 2) (v := .ref ab) (C := RX2) (T := TX2) (N := 9) hx hb hts hinX2 hown hK hP 0 rfl rfl 3 (by decide) (hts (.fieldLink RX2 21 "CobblerCodes$Tree" "above" "[I") (by decide +kernel)) (fun _ h9 => h9) rfl dX2_codeOf_12 ?_
  refine lv_iload_n hx hb dX2_codeOf_15 rfl (lv_at hl 0 rfl) ?_
  have hPc := hP.sub (ws' := [(ab, .inl (cy, 65, .inl T.2.2.2.1))]) [4] rfl
  refine cb_callSi (r0 := (atN 65 T.2.2.2.1 (atN 33 T.2.2.2.2 u0))) (va_runSN (As := [.ref ab, .int (atN 33 T.2.2.2.2 u0)]) (rest := []) ⟨hx, hb, hml, hown, hts⟩ (kX3_at l D cy ab 65 T.2.2.2.1 (atN 33 T.2.2.2.2 u0) (by first | assumption | decide)) ⟨va_cnB 2 hts gX2_codeOf_X3_at_n54 rfl rfl rfl (hnw (.methodLinkNest RX2 54 yX3_at RX3) (by decide +kernel)) (hts (.initialized RX3) (by decide +kernel)) (by decide +kernel) ⟨Nat.le_of_ble_eq_true rfl, Nat.le_of_ble_eq_true rfl⟩, hts (.static yX3_at) (by decide +kernel), trivial⟩ (cb_Pp.ps hK hPc hnw) rfl rfl hl.1 rfl (lv_room (Nat.le_of_ble_eq_true rfl)) dX2_codeOf_16 ⟨Nat.le_of_ble_eq_true rfl, Nat.le_of_ble_eq_true rfl⟩) ?_
  refine lv_istore (lv' := [(4, .int (atN 65 T.2.2.2.1 (atN 33 T.2.2.2.2 u0))), (3, .int (atN 33 T.2.2.2.2 u0)), (2, .int 0), (0, .ref a0), (1, .int u0)]) hx hb dX2_codeOf_19 hl (by decide) rfl (fun ls hl => ?_)
  refine lv_iconst (v := 0) hx hb dX2_codeOf_21 (by decide) ?_
  refine lv_istore (lv' := [(5, .int 0), (4, .int (atN 65 T.2.2.2.1 (atN 33 T.2.2.2.2 u0))), (3, .int (atN 33 T.2.2.2.2 u0)), (2, .int 0), (0, .ref a0), (1, .int u0)]) hx hb dX2_codeOf_22 hl (by decide) rfl (fun ls hl => ?_)
  have L24 : ∀ (k : Nat) (x2 x3 x4 x5 : Int32), k ≤ 65 → x5 = nI (65 - k) → cCodeL T.2.2.1 T.2.2.2.1 k x2 x3 x4 x5 = cCode T u0 → ∀ (ls : Array Slot), lv_has ls 6 [(0, .ref a0), (1, .int u0), (2, .int x2), (3, .int x3), (4, .int x4), (5, .int x5)] → W p l e ({ frames := 1, cells := 0, slots := 0, locals := 21 } : Room) s m [.ref a0, .int u0].toArray below meth c s.heap [] 0 0 (MQ below (cb_Si (cCode T u0)) [.ref a0, .int u0].toArray s 0 0 (fun _ => False)) (F0 m 24 ls []) := by
    clear hl
    intro k
    induction k with
    | zero =>
      intro x2 x3 x4 x5 hk e5 hT ls hl
      refine lv_iload hx hb dX2_codeOf_24 (lv_at hl 4 rfl) ?_
      refine lv_iconst (v := (-1)) hx hb dX2_codeOf_26 (by decide) ?_
      refine lv_icmp_eq (tgt := 76) hx hb dX2_codeOf_27 (by decide) (fun c_1 => ?_) (fun c_1 => ?_)
      · refine lv_iload_n hx hb dX2_codeOf_76 rfl (lv_at hl 2 rfl) ?_
        exact cb_endSi (v := x2) hx hb hr hlocks (by rw [← hT]; rfl) dX2_codeOf_77
      · refine lv_iload hx hb dX2_codeOf_30 (lv_at hl 5 rfl) ?_
        refine lv_bipush (v := 65) hx hb dX2_codeOf_32 (by decide) ?_
        refine lv_icmp_ge (tgt := 76) hx hb dX2_codeOf_34 (by decide) (fun c_2 => ?_) (fun c9 => absurd (by rw [e5]; decide) c9)
        refine lv_iload_n hx hb dX2_codeOf_76 rfl (lv_at hl 2 rfl) ?_
        exact cb_endSi (v := x2) hx hb hr hlocks (by rw [← hT]; rfl) dX2_codeOf_77
    | succ k ih =>
      intro x2 x3 x4 x5 hk e5 hT ls hl
      refine lv_iload hx hb dX2_codeOf_24 (lv_at hl 4 rfl) ?_
      refine lv_iconst (v := (-1)) hx hb dX2_codeOf_26 (by decide) ?_
      refine lv_icmp_eq (tgt := 76) hx hb dX2_codeOf_27 (by decide) (fun c_3 => ?_) (fun c_3 => ?_)
      · refine lv_iload_n hx hb dX2_codeOf_76 rfl (lv_at hl 2 rfl) ?_
        exact cb_endSi (v := x2) hx hb hr hlocks (by rw [← hT]; simp only [cCodeL, if_pos c_3]; try rfl) dX2_codeOf_77
      · refine lv_iload hx hb dX2_codeOf_30 (lv_at hl 5 rfl) ?_
        refine lv_bipush (v := 65) hx hb dX2_codeOf_32 (by decide) ?_
        refine lv_icmp_ge (tgt := 76) hx hb dX2_codeOf_34 (by decide) (fun c9 => absurd c9 (by rw [e5]; exact nI_ge (b := 65) (by omega) (by decide))) (fun c_4 => ?_)
        refine lv_iload_n hx hb dX2_codeOf_37 rfl (lv_at hl 3 rfl) ?_
        refine lv_aload_n hx hb dX2_codeOf_38 rfl (lv_at hl 0 rfl) ?_
        refine va_get (D := D) (ci := 2) (v := .ref af) (C := RX2) (T := TX2) (N := 9) hx hb hts hinX2 hown hK hP 0 rfl rfl 2 (by decide) (hts (.fieldLink RX2 18 "CobblerCodes$Tree" "firstPart" "[I") (by decide +kernel)) (fun _ h9 => h9) rfl dX2_codeOf_39 ?_
        refine lv_iload hx hb dX2_codeOf_42 (lv_at hl 4 rfl) ?_
        have hPc := hP.sub (ws' := [(af, .inl (cy, 65, .inl T.2.2.1))]) [3] rfl
        refine cb_callSi (r0 := (atN 65 T.2.2.1 x4)) (va_runSN (As := [.ref af, .int x4]) (rest := [.int x3]) ⟨hx, hb, hml, hown, hts⟩ (kX3_at l D cy af 65 T.2.2.1 x4 (by first | assumption | decide)) ⟨va_cnB 2 hts gX2_codeOf_X3_at_n54 rfl rfl rfl (hnw (.methodLinkNest RX2 54 yX3_at RX3) (by decide +kernel)) (hts (.initialized RX3) (by decide +kernel)) (by decide +kernel) ⟨Nat.le_of_ble_eq_true rfl, Nat.le_of_ble_eq_true rfl⟩, hts (.static yX3_at) (by decide +kernel), trivial⟩ (cb_Pp.ps hK hPc hnw) rfl rfl hl.1 rfl (lv_room (Nat.le_of_ble_eq_true rfl)) dX2_codeOf_44 ⟨Nat.le_of_ble_eq_true rfl, Nat.le_of_ble_eq_true rfl⟩) ?_
        refine lv_icmp_eq (tgt := 57) hx hb dX2_codeOf_47 (by decide) (fun c_5 => ?_) (fun c_5 => ?_)
        · refine lv_iload hx hb dX2_codeOf_57 (lv_at hl 4 rfl) ?_
          refine lv_istore_n (lv' := [(3, .int x4), (0, .ref a0), (1, .int u0), (2, .int x2), (4, .int x4), (5, .int x5)]) hx hb dX2_codeOf_59 rfl hl (by decide) rfl (fun ls hl => ?_)
          refine lv_aload_n hx hb dX2_codeOf_60 rfl (lv_at hl 1 rfl) ?_
          refine va_get (D := D) (ci := 2) (v := .ref ab) (C := RX2) (T := TX2) (N := 9) hx hb hts hinX2 hown hK hP 0 rfl rfl 3 (by decide) (hts (.fieldLink RX2 21 "CobblerCodes$Tree" "above" "[I") (by decide +kernel)) (fun _ h9 => h9) rfl dX2_codeOf_61 ?_
          refine lv_iload_n hx hb dX2_codeOf_64 rfl (lv_at hl 0 rfl) ?_
          have hPc := hP.sub (ws' := [(ab, .inl (cy, 65, .inl T.2.2.2.1))]) [4] rfl
          refine cb_callSi (r0 := (atN 65 T.2.2.2.1 x4)) (va_runSN (As := [.ref ab, .int x4]) (rest := []) ⟨hx, hb, hml, hown, hts⟩ (kX3_at l D cy ab 65 T.2.2.2.1 x4 (by first | assumption | decide)) ⟨va_cnB 2 hts gX2_codeOf_X3_at_n54 rfl rfl rfl (hnw (.methodLinkNest RX2 54 yX3_at RX3) (by decide +kernel)) (hts (.initialized RX3) (by decide +kernel)) (by decide +kernel) ⟨Nat.le_of_ble_eq_true rfl, Nat.le_of_ble_eq_true rfl⟩, hts (.static yX3_at) (by decide +kernel), trivial⟩ (cb_Pp.ps hK hPc hnw) rfl rfl hl.1 rfl (lv_room (Nat.le_of_ble_eq_true rfl)) dX2_codeOf_65 ⟨Nat.le_of_ble_eq_true rfl, Nat.le_of_ble_eq_true rfl⟩) ?_
          refine lv_istore (lv' := [(4, .int (atN 65 T.2.2.2.1 x4)), (3, .int x4), (0, .ref a0), (1, .int u0), (2, .int x2), (5, .int x5)]) hx hb dX2_codeOf_68 hl (by decide) rfl (fun ls hl => ?_)
          refine lv_iinc (v := x5 + 1) (lv' := [(5, .int (x5 + 1)), (4, .int (atN 65 T.2.2.2.1 x4)), (3, .int x4), (0, .ref a0), (1, .int u0), (2, .int x2)]) hx hb dX2_codeOf_70 hl (k := 5) rfl rfl (by decide) rfl (fun ls hl => ?_)
          refine lv_goto (tgt := 24) hx hb dX2_codeOf_73 (by decide) ?_
          exact ih _ _ _ _ (by omega) (by rw [e5, nI_1]; congr 1; omega) (by rw [← hT]; simp only [cCodeL, if_neg c_3, if_neg c_4, if_pos c_5]; try rfl) ls (lv_sub hl [3, 4, 5, 2, 1, 0] rfl)
        · refine lv_iload_n hx hb dX2_codeOf_50 rfl (lv_at hl 2 rfl) ?_
          refine lv_iconst (v := 1) hx hb dX2_codeOf_51 (by decide) ?_
          refine lv_iload hx hb dX2_codeOf_52 (lv_at hl 5 rfl) ?_
          refine lv_ishl hx hb dX2_codeOf_54 ?_
          refine lv_ior hx hb dX2_codeOf_55 ?_
          refine lv_istore_n (lv' := [(2, .int (x2 ||| (1 <<< (x5 &&& 31)))), (0, .ref a0), (1, .int u0), (3, .int x3), (4, .int x4), (5, .int x5)]) hx hb dX2_codeOf_56 rfl hl (by decide) rfl (fun ls hl => ?_)
          refine lv_iload hx hb dX2_codeOf_57 (lv_at hl 4 rfl) ?_
          refine lv_istore_n (lv' := [(3, .int x4), (2, .int (x2 ||| (1 <<< (x5 &&& 31)))), (0, .ref a0), (1, .int u0), (4, .int x4), (5, .int x5)]) hx hb dX2_codeOf_59 rfl hl (by decide) rfl (fun ls hl => ?_)
          refine lv_aload_n hx hb dX2_codeOf_60 rfl (lv_at hl 2 rfl) ?_
          refine va_get (D := D) (ci := 2) (v := .ref ab) (C := RX2) (T := TX2) (N := 9) hx hb hts hinX2 hown hK hP 0 rfl rfl 3 (by decide) (hts (.fieldLink RX2 21 "CobblerCodes$Tree" "above" "[I") (by decide +kernel)) (fun _ h9 => h9) rfl dX2_codeOf_61 ?_
          refine lv_iload_n hx hb dX2_codeOf_64 rfl (lv_at hl 0 rfl) ?_
          have hPc := hP.sub (ws' := [(ab, .inl (cy, 65, .inl T.2.2.2.1))]) [4] rfl
          refine cb_callSi (r0 := (atN 65 T.2.2.2.1 x4)) (va_runSN (As := [.ref ab, .int x4]) (rest := []) ⟨hx, hb, hml, hown, hts⟩ (kX3_at l D cy ab 65 T.2.2.2.1 x4 (by first | assumption | decide)) ⟨va_cnB 2 hts gX2_codeOf_X3_at_n54 rfl rfl rfl (hnw (.methodLinkNest RX2 54 yX3_at RX3) (by decide +kernel)) (hts (.initialized RX3) (by decide +kernel)) (by decide +kernel) ⟨Nat.le_of_ble_eq_true rfl, Nat.le_of_ble_eq_true rfl⟩, hts (.static yX3_at) (by decide +kernel), trivial⟩ (cb_Pp.ps hK hPc hnw) rfl rfl hl.1 rfl (lv_room (Nat.le_of_ble_eq_true rfl)) dX2_codeOf_65 ⟨Nat.le_of_ble_eq_true rfl, Nat.le_of_ble_eq_true rfl⟩) ?_
          refine lv_istore (lv' := [(4, .int (atN 65 T.2.2.2.1 x4)), (3, .int x4), (2, .int (x2 ||| (1 <<< (x5 &&& 31)))), (0, .ref a0), (1, .int u0), (5, .int x5)]) hx hb dX2_codeOf_68 hl (by decide) rfl (fun ls hl => ?_)
          refine lv_iinc (v := x5 + 1) (lv' := [(5, .int (x5 + 1)), (4, .int (atN 65 T.2.2.2.1 x4)), (3, .int x4), (2, .int (x2 ||| (1 <<< (x5 &&& 31)))), (0, .ref a0), (1, .int u0)]) hx hb dX2_codeOf_70 hl (k := 5) rfl rfl (by decide) rfl (fun ls hl => ?_)
          refine lv_goto (tgt := 24) hx hb dX2_codeOf_73 (by decide) ?_
          exact ih _ _ _ _ (by omega) (by rw [e5, nI_1]; congr 1; omega) (by rw [← hT]; simp only [cCodeL, if_neg c_3, if_neg c_4, if_neg c_5]; try rfl) ls (lv_sub hl [4, 5, 3, 2, 1, 0] rfl)
  exact L24 65 0 _ _ 0 (Nat.le_refl 65) rfl rfl ls (lv_sub hl [4, 5, 3, 2, 1, 0] rfl)

set_option maxHeartbeats 4000000 in
set_option maxRecDepth 100000 in
theorem kX2_codeByLengths (l : Launch) (D : va_G) (cy : ClassId) (a0 aw al af ab ap ah : Nat) (T : N5) (sn ex wr : Int32) (u0 : Int32) : Met l yX2_codeByLengths wsX2_codeByLengths ({ frames := 2, cells := 0, slots := 0, locals := 44 }) (cb_Pp D (cb_tys cy) [(a0, .inr (2, [.ref aw, .ref al, .ref af, .ref ab, .ref ap, .ref ah, .int sn, .int ex, .int wr])), (aw, .inl (cy, 65, .inl T.1)), (al, .inl (cy, 65, .inl T.2.1)), (af, .inl (cy, 65, .inl T.2.2.1)), (ab, .inl (cy, 65, .inl T.2.2.2.1)), (ap, .inl (cy, 33, .inl T.2.2.2.2))] [.ref a0, .int u0]) (cb_Si (cByLen T u0)) 0 0 (fun _ => False) := by
  refine Met.ofW (cc := cX2_codeByLengths) (maxL := 6) (ret := (some .int)) (by decide) rfl ?_
  intro p e s m args below meth c s₁ B hml hv
  obtain ⟨rfl, hP, hK, hnw⟩ := hv
  have hx := B.exec
  have hb := B.bytes
  have hr := B.returns
  have hts := atoms_spec (ws := wsX2_codeByLengths) B.pre
  have hown : s.vm.findClass RX2 = some m.cls := findClass_of_methodNamed B.named
  have hlocks := B.notSynchronized
  have hinX2 : ∀ w ∈ wsX20, w ∈ wsX2_codeByLengths := by decide +kernel
  have hl := lv_entry ([.ref a0, .int u0]) (n := 6) (Nat.le_of_ble_eq_true rfl)
  rw [lg_entry_eq]
  generalize (lg_sl ([.ref a0, .int u0]) ++ List.replicate (6 - (lg_sl ([.ref a0, .int u0])).length) Slot.unset).toArray = ls at hl ⊢
  have hl : lv_has ls 6 [(0, .ref a0), (1, .int u0)] := hl
  refine lv_iconst (v := 0) hx hb dX2_codeByLengths_0 (by decide) ?_
  refine lv_istore_n (lv' := [(2, .int 0), (0, .ref a0), (1, .int u0)]) hx hb dX2_codeByLengths_1 rfl hl (by decide) rfl (fun ls hl => ?_)
  refine lv_aload_n hx hb dX2_codeByLengths_2 rfl (lv_at hl 1 rfl) ?_
  refine lv_iload_n hx hb dX2_codeByLengths_3 rfl (lv_at hl 2 rfl) ?_
  have hPc := hP.sub (ws' := [(a0, .inr (2, [.ref aw, .ref al, .ref af, .ref ab, .ref ap, .ref ah, .int sn, .int ex, .int wr])), (aw, .inl (cy, 65, .inl T.1)), (al, .inl (cy, 65, .inl T.2.1)), (af, .inl (cy, 65, .inl T.2.2.1)), (ab, .inl (cy, 65, .inl T.2.2.2.1)), (ap, .inl (cy, 33, .inl T.2.2.2.2))]) [0, 1, 2, 3, 4, 5] rfl
  refine cb_callSi (r0 := (cLen T u0)) (va_runV (As := [.int u0]) (rest := []) ⟨hx, hb, hml, hown, hts⟩ (kX2_lengthOf l D cy a0 aw al af ab ap ah T sn ex wr u0) (cwV 1 hts gX2_codeByLengths_X2_lengthOf rfl rfl rfl (by decide +kernel) ⟨Nat.le_of_ble_eq_true rfl, Nat.le_of_ble_eq_true rfl⟩) (cb_Pp.pv hK hPc hnw (ci := 2) (q0 := 0) rfl rfl) rfl rfl hl.1 rfl (lv_room (Nat.le_of_ble_eq_true rfl)) dX2_codeByLengths_4 ⟨Nat.le_of_ble_eq_true rfl, Nat.le_of_ble_eq_true rfl⟩) ?_
  refine lv_istore_n (lv' := [(3, .int (cLen T u0)), (2, .int 0), (0, .ref a0), (1, .int u0)]) hx hb dX2_codeByLengths_7 rfl hl (by decide) rfl (fun ls hl => ?_)
  refine lv_iconst (v := 0) hx hb dX2_codeByLengths_8 (by decide) ?_
  refine lv_istore (lv' := [(4, .int 0), (3, .int (cLen T u0)), (2, .int 0), (0, .ref a0), (1, .int u0)]) hx hb dX2_codeByLengths_9 hl (by decide) rfl (fun ls hl => ?_)
  have L11 : ∀ (k : Nat) (x2 x4 : Int32), k ≤ 33 → x4 = nI (33 - k) → cByLenL T u0 (cLen T u0) k x2 x4 = cByLen T u0 → ∀ (ls : Array Slot), lv_has ls 6 [(0, .ref a0), (1, .int u0), (2, .int x2), (3, .int (cLen T u0)), (4, .int x4)] → W p l e ({ frames := 2, cells := 0, slots := 0, locals := 44 } : Room) s m [.ref a0, .int u0].toArray below meth c s.heap [] 0 0 (MQ below (cb_Si (cByLen T u0)) [.ref a0, .int u0].toArray s 0 0 (fun _ => False)) (F0 m 11 ls []) := by
    clear hl
    intro k
    induction k with
    | zero =>
      intro x2 x4 hk e4 hT ls hl
      refine lv_iload hx hb dX2_codeByLengths_11 (lv_at hl 4 rfl) ?_
      refine lv_bipush (v := 33) hx hb dX2_codeByLengths_13 (by decide) ?_
      refine lv_icmp_ge (tgt := 70) hx hb dX2_codeByLengths_15 (by decide) (fun c_1 => ?_) (fun c9 => absurd (by rw [e4]; decide) c9)
      refine lv_iload_n hx hb dX2_codeByLengths_70 rfl (lv_at hl 2 rfl) ?_
      exact cb_endSi (v := x2) hx hb hr hlocks (by rw [← hT]; rfl) dX2_codeByLengths_71
    | succ k ih =>
      intro x2 x4 hk e4 hT ls hl
      refine lv_iload hx hb dX2_codeByLengths_11 (lv_at hl 4 rfl) ?_
      refine lv_bipush (v := 33) hx hb dX2_codeByLengths_13 (by decide) ?_
      refine lv_icmp_ge (tgt := 70) hx hb dX2_codeByLengths_15 (by decide) (fun c9 => absurd c9 (by rw [e4]; exact nI_ge (b := 33) (by omega) (by decide))) (fun c_2 => ?_)
      refine lv_aload_n hx hb dX2_codeByLengths_18 rfl (lv_at hl 0 rfl) ?_
      refine va_get (D := D) (ci := 2) (v := .ref ap) (C := RX2) (T := TX2) (N := 9) hx hb hts hinX2 hown hK hP 0 rfl rfl 4 (by decide) (hts (.fieldLink RX2 24 "CobblerCodes$Tree" "placeOf" "[I") (by decide +kernel)) (fun _ h9 => h9) rfl dX2_codeByLengths_19 ?_
      refine lv_iload hx hb dX2_codeByLengths_22 (lv_at hl 4 rfl) ?_
      have hPc := hP.sub (ws' := [(ap, .inl (cy, 33, .inl T.2.2.2.2))]) [5] rfl
      refine cb_callSi (r0 := (atN 33 T.2.2.2.2 x4)) (va_runSN (As := [.ref ap, .int x4]) (rest := []) ⟨hx, hb, hml, hown, hts⟩ (kX3_at l D cy ap 33 T.2.2.2.2 x4 (by first | assumption | decide)) ⟨va_cnB 2 hts gX2_codeByLengths_X3_at_n54 rfl rfl rfl (hnw (.methodLinkNest RX2 54 yX3_at RX3) (by decide +kernel)) (hts (.initialized RX3) (by decide +kernel)) (by decide +kernel) ⟨Nat.le_of_ble_eq_true rfl, Nat.le_of_ble_eq_true rfl⟩, hts (.static yX3_at) (by decide +kernel), trivial⟩ (cb_Pp.ps hK hPc hnw) rfl rfl hl.1 rfl (lv_room (Nat.le_of_ble_eq_true rfl)) dX2_codeByLengths_24 ⟨Nat.le_of_ble_eq_true rfl, Nat.le_of_ble_eq_true rfl⟩) ?_
      refine lv_iconst (v := (-1)) hx hb dX2_codeByLengths_27 (by decide) ?_
      refine lv_icmp_eq (tgt := 64) hx hb dX2_codeByLengths_28 (by decide) (fun c_3 => ?_) (fun c_3 => ?_)
      · refine lv_iinc (v := x4 + 1) (lv' := [(4, .int (x4 + 1)), (0, .ref a0), (1, .int u0), (2, .int x2), (3, .int (cLen T u0))]) hx hb dX2_codeByLengths_64 hl (k := 4) rfl rfl (by decide) rfl (fun ls hl => ?_)
        refine lv_goto (tgt := 11) hx hb dX2_codeByLengths_67 (by decide) ?_
        exact ih _ _ (by omega) (by rw [e4, nI_1]; congr 1; omega) (by rw [← hT]; simp only [cByLenL, if_pos c_3]; try rfl) ls (lv_sub hl [1, 2, 3, 4, 0] rfl)
      · refine lv_iload_n hx hb dX2_codeByLengths_31 rfl (lv_at hl 3 rfl) ?_
        refine lv_aload_n hx hb dX2_codeByLengths_32 rfl (lv_at hl 0 rfl) ?_
        refine lv_iload hx hb dX2_codeByLengths_33 (lv_at hl 4 rfl) ?_
        have hPc := hP.sub (ws' := [(a0, .inr (2, [.ref aw, .ref al, .ref af, .ref ab, .ref ap, .ref ah, .int sn, .int ex, .int wr])), (aw, .inl (cy, 65, .inl T.1)), (al, .inl (cy, 65, .inl T.2.1)), (af, .inl (cy, 65, .inl T.2.2.1)), (ab, .inl (cy, 65, .inl T.2.2.2.1)), (ap, .inl (cy, 33, .inl T.2.2.2.2))]) [0, 1, 2, 3, 4, 5] rfl
        refine cb_callSi (r0 := (cLen T x4)) (va_runV (As := [.int x4]) (rest := [.int (cLen T u0)]) ⟨hx, hb, hml, hown, hts⟩ (kX2_lengthOf l D cy a0 aw al af ab ap ah T sn ex wr x4) (cwV 1 hts gX2_codeByLengths_X2_lengthOf rfl rfl rfl (by decide +kernel) ⟨Nat.le_of_ble_eq_true rfl, Nat.le_of_ble_eq_true rfl⟩) (cb_Pp.pv hK hPc hnw (ci := 2) (q0 := 0) rfl rfl) rfl rfl hl.1 rfl (lv_room (Nat.le_of_ble_eq_true rfl)) dX2_codeByLengths_35 ⟨Nat.le_of_ble_eq_true rfl, Nat.le_of_ble_eq_true rfl⟩) ?_
        refine lv_isub hx hb dX2_codeByLengths_38 ?_
        refine lv_istore (lv' := [(5, .int ((cLen T u0) - (cLen T x4))), (0, .ref a0), (1, .int u0), (2, .int x2), (3, .int (cLen T u0)), (4, .int x4)]) hx hb dX2_codeByLengths_39 hl (by decide) rfl (fun ls hl => ?_)
        refine lv_iload hx hb dX2_codeByLengths_41 (lv_at hl 0 rfl) ?_
        refine lv_if_gt (tgt := 57) hx hb dX2_codeByLengths_43 (by decide) (fun c_4 => ?_) (fun c_4 => ?_)
        · refine lv_iload_n hx hb dX2_codeByLengths_57 rfl (lv_at hl 3 rfl) ?_
          refine lv_iconst (v := 1) hx hb dX2_codeByLengths_58 (by decide) ?_
          refine lv_iload hx hb dX2_codeByLengths_59 (lv_at hl 0 rfl) ?_
          refine lv_ishl hx hb dX2_codeByLengths_61 ?_
          refine lv_iadd hx hb dX2_codeByLengths_62 ?_
          refine lv_istore_n (lv' := [(2, .int (x2 + (1 <<< (((cLen T u0) - (cLen T x4)) &&& 31)))), (5, .int ((cLen T u0) - (cLen T x4))), (0, .ref a0), (1, .int u0), (3, .int (cLen T u0)), (4, .int x4)]) hx hb dX2_codeByLengths_63 rfl hl (by decide) rfl (fun ls hl => ?_)
          refine lv_iinc (v := x4 + 1) (lv' := [(4, .int (x4 + 1)), (2, .int (x2 + (1 <<< (((cLen T u0) - (cLen T x4)) &&& 31)))), (5, .int ((cLen T u0) - (cLen T x4))), (0, .ref a0), (1, .int u0), (3, .int (cLen T u0))]) hx hb dX2_codeByLengths_64 hl (k := 5) rfl rfl (by decide) rfl (fun ls hl => ?_)
          refine lv_goto (tgt := 11) hx hb dX2_codeByLengths_67 (by decide) ?_
          exact ih _ _ (by omega) (by rw [e4, nI_1]; congr 1; omega) (by rw [← hT]; simp only [cByLenL, if_neg c_3, if_pos c_4]; try rfl) ls (lv_sub hl [3, 4, 1, 5, 0] rfl)
        · refine lv_iload hx hb dX2_codeByLengths_46 (lv_at hl 0 rfl) ?_
          refine lv_if_ne (tgt := 64) hx hb dX2_codeByLengths_48 (by decide) (fun c_5 => ?_) (fun c_5 => ?_)
          · refine lv_iinc (v := x4 + 1) (lv' := [(4, .int (x4 + 1)), (5, .int ((cLen T u0) - (cLen T x4))), (0, .ref a0), (1, .int u0), (2, .int x2), (3, .int (cLen T u0))]) hx hb dX2_codeByLengths_64 hl (k := 5) rfl rfl (by decide) rfl (fun ls hl => ?_)
            refine lv_goto (tgt := 11) hx hb dX2_codeByLengths_67 (by decide) ?_
            exact ih _ _ (by omega) (by rw [e4, nI_1]; congr 1; omega) (by rw [← hT]; simp only [cByLenL, if_neg c_3, if_neg c_4, if_neg c_5]; try rfl) ls (lv_sub hl [2, 3, 4, 5, 0] rfl)
          · refine lv_iload hx hb dX2_codeByLengths_51 (lv_at hl 5 rfl) ?_
            refine lv_iload_n hx hb dX2_codeByLengths_53 rfl (lv_at hl 2 rfl) ?_
            refine lv_icmp_ge (tgt := 64) hx hb dX2_codeByLengths_54 (by decide) (fun c_6 => ?_) (fun c_6 => ?_)
            · refine lv_iinc (v := x4 + 1) (lv' := [(4, .int (x4 + 1)), (5, .int ((cLen T u0) - (cLen T x4))), (0, .ref a0), (1, .int u0), (2, .int x2), (3, .int (cLen T u0))]) hx hb dX2_codeByLengths_64 hl (k := 5) rfl rfl (by decide) rfl (fun ls hl => ?_)
              refine lv_goto (tgt := 11) hx hb dX2_codeByLengths_67 (by decide) ?_
              exact ih _ _ (by omega) (by rw [e4, nI_1]; congr 1; omega) (by rw [← hT]; simp only [cByLenL, if_neg c_3, if_neg c_4, if_pos c_5, if_pos c_6]; try rfl) ls (lv_sub hl [2, 3, 4, 5, 0] rfl)
            · refine lv_iload_n hx hb dX2_codeByLengths_57 rfl (lv_at hl 3 rfl) ?_
              refine lv_iconst (v := 1) hx hb dX2_codeByLengths_58 (by decide) ?_
              refine lv_iload hx hb dX2_codeByLengths_59 (lv_at hl 0 rfl) ?_
              refine lv_ishl hx hb dX2_codeByLengths_61 ?_
              refine lv_iadd hx hb dX2_codeByLengths_62 ?_
              refine lv_istore_n (lv' := [(2, .int (x2 + (1 <<< (((cLen T u0) - (cLen T x4)) &&& 31)))), (5, .int ((cLen T u0) - (cLen T x4))), (0, .ref a0), (1, .int u0), (3, .int (cLen T u0)), (4, .int x4)]) hx hb dX2_codeByLengths_63 rfl hl (by decide) rfl (fun ls hl => ?_)
              refine lv_iinc (v := x4 + 1) (lv' := [(4, .int (x4 + 1)), (2, .int (x2 + (1 <<< (((cLen T u0) - (cLen T x4)) &&& 31)))), (5, .int ((cLen T u0) - (cLen T x4))), (0, .ref a0), (1, .int u0), (3, .int (cLen T u0))]) hx hb dX2_codeByLengths_64 hl (k := 5) rfl rfl (by decide) rfl (fun ls hl => ?_)
              refine lv_goto (tgt := 11) hx hb dX2_codeByLengths_67 (by decide) ?_
              exact ih _ _ (by omega) (by rw [e4, nI_1]; congr 1; omega) (by rw [← hT]; simp only [cByLenL, if_neg c_3, if_neg c_4, if_pos c_5, if_neg c_6]; try rfl) ls (lv_sub hl [3, 4, 1, 5, 0] rfl)
  exact L11 33 0 0 (Nat.le_refl 33) rfl rfl ls (lv_sub hl [3, 4, 2, 1, 0] rfl)

set_option maxHeartbeats 4000000 in
set_option maxRecDepth 100000 in
theorem kX2_factOfLeaf (l : Launch) (D : va_G) (cy : ClassId) (a0 aw al af ab ap ah : Nat) (T : N5) (sn ex wr : Int32) (u0 what : Int32) : Met l yX2_factOfLeaf wsX2_factOfLeaf ({ frames := 3, cells := 0, slots := 0, locals := 69 }) (cb_Pp D (cb_tys cy) [(a0, .inr (2, [.ref aw, .ref al, .ref af, .ref ab, .ref ap, .ref ah, .int sn, .int ex, .int wr])), (aw, .inl (cy, 65, .inl T.1)), (al, .inl (cy, 65, .inl T.2.1)), (af, .inl (cy, 65, .inl T.2.2.1)), (ab, .inl (cy, 65, .inl T.2.2.2.1)), (ap, .inl (cy, 33, .inl T.2.2.2.2))] [.ref a0, .int u0, .int what]) (cb_Si (cFactLeaf T u0 what)) 0 0 (fun _ => False) := by
  refine Met.ofW (cc := cX2_factOfLeaf) (maxL := 4) (ret := (some .int)) (by decide) rfl ?_
  intro p e s m args below meth c s₁ B hml hv
  obtain ⟨rfl, hP, hK, hnw⟩ := hv
  have hx := B.exec
  have hb := B.bytes
  have hr := B.returns
  have hts := atoms_spec (ws := wsX2_factOfLeaf) B.pre
  have hown : s.vm.findClass RX2 = some m.cls := findClass_of_methodNamed B.named
  have hlocks := B.notSynchronized
  have hinX2 : ∀ w ∈ wsX20, w ∈ wsX2_factOfLeaf := by decide +kernel
  have hl := lv_entry ([.ref a0, .int u0, .int what]) (n := 4) (Nat.le_of_ble_eq_true rfl)
  rw [lg_entry_eq]
  generalize (lg_sl ([.ref a0, .int u0, .int what]) ++ List.replicate (4 - (lg_sl ([.ref a0, .int u0, .int what])).length) Slot.unset).toArray = ls at hl ⊢
  have hl : lv_has ls 4 [(0, .ref a0), (1, .int u0), (2, .int what)] := hl
  refine lv_aload_n hx hb dX2_factOfLeaf_0 rfl (lv_at hl 0 rfl) ?_
  refine va_get (D := D) (ci := 2) (v := .ref ap) (C := RX2) (T := TX2) (N := 9) hx hb hts hinX2 hown hK hP 0 rfl rfl 4 (by decide) (hts (.fieldLink RX2 24 "CobblerCodes$Tree" "placeOf" "[I") (by decide +kernel)) (fun _ h9 => h9) rfl dX2_factOfLeaf_1 ?_
  refine lv_iload_n hx hb dX2_factOfLeaf_4 rfl (lv_at hl 1 rfl) ?_
  have hPc := hP.sub (ws' := [(ap, .inl (cy, 33, .inl T.2.2.2.2))]) [5] rfl
  refine cb_callSi (r0 := (atN 33 T.2.2.2.2 u0)) (va_runSN (As := [.ref ap, .int u0]) (rest := []) ⟨hx, hb, hml, hown, hts⟩ (kX3_at l D cy ap 33 T.2.2.2.2 u0 (by first | assumption | decide)) ⟨va_cnB 2 hts gX2_factOfLeaf_X3_at_n54 rfl rfl rfl (hnw (.methodLinkNest RX2 54 yX3_at RX3) (by decide +kernel)) (hts (.initialized RX3) (by decide +kernel)) (by decide +kernel) ⟨Nat.le_of_ble_eq_true rfl, Nat.le_of_ble_eq_true rfl⟩, hts (.static yX3_at) (by decide +kernel), trivial⟩ (cb_Pp.ps hK hPc hnw) rfl rfl hl.1 rfl (lv_room (Nat.le_of_ble_eq_true rfl)) dX2_factOfLeaf_5 ⟨Nat.le_of_ble_eq_true rfl, Nat.le_of_ble_eq_true rfl⟩) ?_
  refine lv_istore_n (lv' := [(3, .int (atN 33 T.2.2.2.2 u0)), (0, .ref a0), (1, .int u0), (2, .int what)]) hx hb dX2_factOfLeaf_8 rfl hl (by decide) rfl (fun ls hl => ?_)
  refine lv_iload_n hx hb dX2_factOfLeaf_9 rfl (lv_at hl 0 rfl) ?_
  refine lv_iconst (v := (-1)) hx hb dX2_factOfLeaf_10 (by decide) ?_
  refine lv_icmp_ne (tgt := 16) hx hb dX2_factOfLeaf_11 (by decide) (fun c_1 => ?_) (fun c_1 => ?_)
  · refine lv_iload_n hx hb dX2_factOfLeaf_16 rfl (lv_at hl 3 rfl) ?_
    by_cases c_2 : what = 0
    · refine lv_tableIn (off := 31) (tgt := 48) hx hb dX2_factOfLeaf_17 (by rw [c_2]; decide) (by rw [c_2]; decide) (by rw [c_2]; rfl) (by decide) ?_
      refine lv_aload_n hx hb dX2_factOfLeaf_48 rfl (lv_at hl 1 rfl) ?_
      refine va_get (D := D) (ci := 2) (v := .ref aw) (C := RX2) (T := TX2) (N := 9) hx hb hts hinX2 hown hK hP 0 rfl rfl 0 (by decide) (hts (.fieldLink RX2 9 "CobblerCodes$Tree" "weight" "[I") (by decide +kernel)) (fun _ h9 => h9) rfl dX2_factOfLeaf_49 ?_
      refine lv_iload_n hx hb dX2_factOfLeaf_52 rfl (lv_at hl 0 rfl) ?_
      have hPc := hP.sub (ws' := [(aw, .inl (cy, 65, .inl T.1))]) [1] rfl
      refine cb_callSi (r0 := (atN 65 T.1 (atN 33 T.2.2.2.2 u0))) (va_runSN (As := [.ref aw, .int (atN 33 T.2.2.2.2 u0)]) (rest := []) ⟨hx, hb, hml, hown, hts⟩ (kX3_at l D cy aw 65 T.1 (atN 33 T.2.2.2.2 u0) (by first | assumption | decide)) ⟨va_cnB 2 hts gX2_factOfLeaf_X3_at_n54 rfl rfl rfl (hnw (.methodLinkNest RX2 54 yX3_at RX3) (by decide +kernel)) (hts (.initialized RX3) (by decide +kernel)) (by decide +kernel) ⟨Nat.le_of_ble_eq_true rfl, Nat.le_of_ble_eq_true rfl⟩, hts (.static yX3_at) (by decide +kernel), trivial⟩ (cb_Pp.ps hK hPc hnw) rfl rfl hl.1 rfl (lv_room (Nat.le_of_ble_eq_true rfl)) dX2_factOfLeaf_53 ⟨Nat.le_of_ble_eq_true rfl, Nat.le_of_ble_eq_true rfl⟩) ?_
      exact cb_endSi (v := atN 65 T.1 (atN 33 T.2.2.2.2 u0)) hx hb hr hlocks (by unfold cFactLeaf; simp only [if_neg c_1, if_pos c_2]) dX2_factOfLeaf_56
    by_cases c_3 : what = 1
    · refine lv_tableIn (off := 40) (tgt := 57) hx hb dX2_factOfLeaf_17 (by rw [c_3]; decide) (by rw [c_3]; decide) (by rw [c_3]; rfl) (by decide) ?_
      refine lv_aload_n hx hb dX2_factOfLeaf_57 rfl (lv_at hl 1 rfl) ?_
      refine lv_iload_n hx hb dX2_factOfLeaf_58 rfl (lv_at hl 2 rfl) ?_
      have hPc := hP.sub (ws' := [(a0, .inr (2, [.ref aw, .ref al, .ref af, .ref ab, .ref ap, .ref ah, .int sn, .int ex, .int wr])), (aw, .inl (cy, 65, .inl T.1)), (al, .inl (cy, 65, .inl T.2.1)), (af, .inl (cy, 65, .inl T.2.2.1)), (ab, .inl (cy, 65, .inl T.2.2.2.1)), (ap, .inl (cy, 33, .inl T.2.2.2.2))]) [0, 1, 2, 3, 4, 5] rfl
      refine cb_callSi (r0 := (cLen T u0)) (va_runV (As := [.int u0]) (rest := []) ⟨hx, hb, hml, hown, hts⟩ (kX2_lengthOf l D cy a0 aw al af ab ap ah T sn ex wr u0) (cwV 1 hts gX2_factOfLeaf_X2_lengthOf rfl rfl rfl (by decide +kernel) ⟨Nat.le_of_ble_eq_true rfl, Nat.le_of_ble_eq_true rfl⟩) (cb_Pp.pv hK hPc hnw (ci := 2) (q0 := 0) rfl rfl) rfl rfl hl.1 rfl (lv_room (Nat.le_of_ble_eq_true rfl)) dX2_factOfLeaf_59 ⟨Nat.le_of_ble_eq_true rfl, Nat.le_of_ble_eq_true rfl⟩) ?_
      exact cb_endSi (v := cLen T u0) hx hb hr hlocks (by unfold cFactLeaf; simp only [if_neg c_1, if_neg c_2, if_pos c_3]) dX2_factOfLeaf_62
    by_cases c_4 : what = 2
    · refine lv_tableIn (off := 46) (tgt := 63) hx hb dX2_factOfLeaf_17 (by rw [c_4]; decide) (by rw [c_4]; decide) (by rw [c_4]; rfl) (by decide) ?_
      refine lv_aload_n hx hb dX2_factOfLeaf_63 rfl (lv_at hl 1 rfl) ?_
      refine lv_iload_n hx hb dX2_factOfLeaf_64 rfl (lv_at hl 2 rfl) ?_
      have hPc := hP.sub (ws' := [(a0, .inr (2, [.ref aw, .ref al, .ref af, .ref ab, .ref ap, .ref ah, .int sn, .int ex, .int wr])), (aw, .inl (cy, 65, .inl T.1)), (al, .inl (cy, 65, .inl T.2.1)), (af, .inl (cy, 65, .inl T.2.2.1)), (ab, .inl (cy, 65, .inl T.2.2.2.1)), (ap, .inl (cy, 33, .inl T.2.2.2.2))]) [0, 1, 2, 3, 4, 5] rfl
      refine cb_callSi (r0 := (cCode T u0)) (va_runV (As := [.int u0]) (rest := []) ⟨hx, hb, hml, hown, hts⟩ (kX2_codeOf l D cy a0 aw al af ab ap ah T sn ex wr u0) (cwV 1 hts gX2_factOfLeaf_X2_codeOf rfl rfl rfl (by decide +kernel) ⟨Nat.le_of_ble_eq_true rfl, Nat.le_of_ble_eq_true rfl⟩) (cb_Pp.pv hK hPc hnw (ci := 2) (q0 := 0) rfl rfl) rfl rfl hl.1 rfl (lv_room (Nat.le_of_ble_eq_true rfl)) dX2_factOfLeaf_65 ⟨Nat.le_of_ble_eq_true rfl, Nat.le_of_ble_eq_true rfl⟩) ?_
      exact cb_endSi (v := cCode T u0) hx hb hr hlocks (by unfold cFactLeaf; simp only [if_neg c_1, if_neg c_2, if_neg c_3, if_pos c_4]) dX2_factOfLeaf_68
    by_cases c_5 : what = 3
    · refine lv_tableIn (off := 52) (tgt := 69) hx hb dX2_factOfLeaf_17 (by rw [c_5]; decide) (by rw [c_5]; decide) (by rw [c_5]; rfl) (by decide) ?_
      refine lv_aload_n hx hb dX2_factOfLeaf_69 rfl (lv_at hl 1 rfl) ?_
      refine lv_iload_n hx hb dX2_factOfLeaf_70 rfl (lv_at hl 2 rfl) ?_
      have hPc := hP.sub (ws' := [(a0, .inr (2, [.ref aw, .ref al, .ref af, .ref ab, .ref ap, .ref ah, .int sn, .int ex, .int wr])), (aw, .inl (cy, 65, .inl T.1)), (al, .inl (cy, 65, .inl T.2.1)), (af, .inl (cy, 65, .inl T.2.2.1)), (ab, .inl (cy, 65, .inl T.2.2.2.1)), (ap, .inl (cy, 33, .inl T.2.2.2.2))]) [0, 1, 2, 3, 4, 5] rfl
      refine cb_callSi (r0 := (cByLen T u0)) (va_runV (As := [.int u0]) (rest := []) ⟨hx, hb, hml, hown, hts⟩ (kX2_codeByLengths l D cy a0 aw al af ab ap ah T sn ex wr u0) (cwV 1 hts gX2_factOfLeaf_X2_codeByLengths rfl rfl rfl (by decide +kernel) ⟨Nat.le_of_ble_eq_true rfl, Nat.le_of_ble_eq_true rfl⟩) (cb_Pp.pv hK hPc hnw (ci := 2) (q0 := 0) rfl rfl) rfl rfl hl.1 rfl (lv_room (Nat.le_of_ble_eq_true rfl)) dX2_factOfLeaf_71 ⟨Nat.le_of_ble_eq_true rfl, Nat.le_of_ble_eq_true rfl⟩) ?_
      exact cb_endSi (v := cByLen T u0) hx hb hr hlocks (by unfold cFactLeaf; simp only [if_neg c_1, if_neg c_2, if_neg c_3, if_neg c_4, if_pos c_5]) dX2_factOfLeaf_74
    refine lv_tableOut (tgt := 75) hx hb dX2_factOfLeaf_17 (cb_out4 c_2 c_3 c_4 c_5) (by decide) ?_
    refine lv_iload_n hx hb dX2_factOfLeaf_75 rfl (lv_at hl 0 rfl) ?_
    exact cb_endSi (v := atN 33 T.2.2.2.2 u0) hx hb hr hlocks (by unfold cFactLeaf; simp only [if_neg c_1, if_neg c_2, if_neg c_3, if_neg c_4, if_neg c_5]) dX2_factOfLeaf_76
  · refine lv_iconst (v := (-1)) hx hb dX2_factOfLeaf_14 (by decide) ?_
    exact cb_endSi (v := (-1)) hx hb hr hlocks (by unfold cFactLeaf; simp only [if_pos c_1]) dX2_factOfLeaf_15

set_option maxHeartbeats 4000000 in
set_option maxRecDepth 100000 in
theorem kX2_firstWritten (l : Launch) (D : va_G) (cy : ClassId) (a0 aw al af ab ap ah : Nat) (T : N5) (sn ex wr : Int32) (u0 u1 : Int32) : Met l yX2_firstWritten wsX2_firstWritten ({ frames := 1, cells := 0, slots := 0, locals := 21 }) (cb_Pp D (cb_tys cy) [(a0, .inr (2, [.ref aw, .ref al, .ref af, .ref ab, .ref ap, .ref ah, .int sn, .int ex, .int wr])), (aw, .inl (cy, 65, .inl T.1)), (al, .inl (cy, 65, .inl T.2.1)), (af, .inl (cy, 65, .inl T.2.2.1)), (ab, .inl (cy, 65, .inl T.2.2.2.1)), (ap, .inl (cy, 33, .inl T.2.2.2.2))] [.ref a0, .int u0, .int u1]) (cb_Si (cWritten T u0 u1)) 0 0 (fun _ => False) := by
  refine Met.ofW (cc := cX2_firstWritten) (maxL := 6) (ret := (some .int)) (by decide) rfl ?_
  intro p e s m args below meth c s₁ B hml hv
  obtain ⟨rfl, hP, hK, hnw⟩ := hv
  have hx := B.exec
  have hb := B.bytes
  have hr := B.returns
  have hts := atoms_spec (ws := wsX2_firstWritten) B.pre
  have hown : s.vm.findClass RX2 = some m.cls := findClass_of_methodNamed B.named
  have hlocks := B.notSynchronized
  have hinX2 : ∀ w ∈ wsX20, w ∈ wsX2_firstWritten := by decide +kernel
  have hl := lv_entry ([.ref a0, .int u0, .int u1]) (n := 6) (Nat.le_of_ble_eq_true rfl)
  rw [lg_entry_eq]
  generalize (lg_sl ([.ref a0, .int u0, .int u1]) ++ List.replicate (6 - (lg_sl ([.ref a0, .int u0, .int u1])).length) Slot.unset).toArray = ls at hl ⊢
  have hl : lv_has ls 6 [(0, .ref a0), (1, .int u0), (2, .int u1)] := hl
  refine lv_iconst (v := 0) hx hb dX2_firstWritten_0 (by decide) ?_
  refine lv_istore_n (lv' := [(3, .int 0), (0, .ref a0), (1, .int u0), (2, .int u1)]) hx hb dX2_firstWritten_1 rfl hl (by decide) rfl (fun ls hl => ?_)
  refine lv_iload_n hx hb dX2_firstWritten_2 rfl (lv_at hl 3 rfl) ?_
  refine lv_istore (lv' := [(4, .int u1), (3, .int 0), (0, .ref a0), (1, .int u0), (2, .int u1)]) hx hb dX2_firstWritten_3 hl (by decide) rfl (fun ls hl => ?_)
  have L5 : ∀ (k : Nat) (x3 x4 : Int32), x4.toNatClampNeg ≤ k → cWrittenL T u0 k x3 x4 = cWritten T u0 u1 → ∀ (ls : Array Slot), lv_has ls 6 [(0, .ref a0), (1, .int u0), (2, .int u1), (3, .int x3), (4, .int x4)] → W p l e ({ frames := 1, cells := 0, slots := 0, locals := 21 } : Room) s m [.ref a0, .int u0, .int u1].toArray below meth c s.heap [] 0 0 (MQ below (cb_Si (cWritten T u0 u1)) [.ref a0, .int u0, .int u1].toArray s 0 0 (fun _ => False)) (F0 m 5 ls []) := by
    clear hl
    intro k
    induction k with
    | zero =>
      intro x3 x4 hk hT ls hl
      refine lv_iload hx hb dX2_firstWritten_5 (lv_at hl 4 rfl) ?_
      refine lv_if_le (tgt := 44) hx hb dX2_firstWritten_7 (by decide) (fun c_1 => ?_) (fun c9 => absurd (cb_down0 hk) c9)
      refine lv_aload_n hx hb dX2_firstWritten_44 rfl (lv_at hl 0 rfl) ?_
      refine va_get (D := D) (ci := 2) (v := .ref al) (C := RX2) (T := TX2) (N := 9) hx hb hts hinX2 hown hK hP 0 rfl rfl 1 (by decide) (hts (.fieldLink RX2 15 "CobblerCodes$Tree" "leaf" "[I") (by decide +kernel)) (fun _ h9 => h9) rfl dX2_firstWritten_45 ?_
      refine lv_iload_n hx hb dX2_firstWritten_48 rfl (lv_at hl 3 rfl) ?_
      have hPc := hP.sub (ws' := [(al, .inl (cy, 65, .inl T.2.1))]) [2] rfl
      refine cb_callSi (r0 := (atN 65 T.2.1 x3)) (va_runSN (As := [.ref al, .int x3]) (rest := []) ⟨hx, hb, hml, hown, hts⟩ (kX3_at l D cy al 65 T.2.1 x3 (by first | assumption | decide)) ⟨va_cnB 2 hts gX2_firstWritten_X3_at_n54 rfl rfl rfl (hnw (.methodLinkNest RX2 54 yX3_at RX3) (by decide +kernel)) (hts (.initialized RX3) (by decide +kernel)) (by decide +kernel) ⟨Nat.le_of_ble_eq_true rfl, Nat.le_of_ble_eq_true rfl⟩, hts (.static yX3_at) (by decide +kernel), trivial⟩ (cb_Pp.ps hK hPc hnw) rfl rfl hl.1 rfl (lv_room (Nat.le_of_ble_eq_true rfl)) dX2_firstWritten_49 ⟨Nat.le_of_ble_eq_true rfl, Nat.le_of_ble_eq_true rfl⟩) ?_
      refine lv_istore (lv' := [(5, .int (atN 65 T.2.1 x3)), (0, .ref a0), (1, .int u0), (2, .int u1), (3, .int x3), (4, .int x4)]) hx hb dX2_firstWritten_52 hl (by decide) rfl (fun ls hl => ?_)
      refine lv_iload hx hb dX2_firstWritten_54 (lv_at hl 0 rfl) ?_
      refine lv_bipush (v := 32) hx hb dX2_firstWritten_56 (by decide) ?_
      refine lv_icmp_eq (tgt := 64) hx hb dX2_firstWritten_58 (by decide) (fun c_2 => ?_) (fun c_2 => ?_)
      · refine lv_iload hx hb dX2_firstWritten_64 (lv_at hl 5 rfl) ?_
        refine lv_iconst (v := 5) hx hb dX2_firstWritten_66 (by decide) ?_
        refine lv_icmp_ge (tgt := 72) hx hb dX2_firstWritten_67 (by decide) (fun c_3 => ?_) (fun c_3 => ?_)
        · refine lv_bipush (v := 100) hx hb dX2_firstWritten_72 (by decide) ?_
          refine lv_iload_n hx hb dX2_firstWritten_74 rfl (lv_at hl 2 rfl) ?_
          refine lv_iload hx hb dX2_firstWritten_75 (lv_at hl 5 rfl) ?_
          refine lv_iconst (v := 5) hx hb dX2_firstWritten_77 (by decide) ?_
          refine lv_isub hx hb dX2_firstWritten_78 ?_
          refine lv_ishr hx hb dX2_firstWritten_79 ?_
          refine lv_bipush (v := 31) hx hb dX2_firstWritten_80 (by decide) ?_
          refine lv_iand hx hb dX2_firstWritten_82 ?_
          refine lv_iadd hx hb dX2_firstWritten_83 ?_
          exact cb_endSi (v := 100 + ((u0 >>> ((x4 - 5) &&& 31)) &&& 31)) hx hb hr hlocks (by rw [← hT]; simp only [cWrittenL, cWrittenEnd, if_pos c_2, if_pos c_3]) dX2_firstWritten_84
        · refine lv_iconst (v := (-1)) hx hb dX2_firstWritten_70 (by decide) ?_
          exact cb_endSi (v := (-1)) hx hb hr hlocks (by rw [← hT]; simp only [cWrittenL, cWrittenEnd, if_pos c_2, if_neg c_3]) dX2_firstWritten_71
      · refine lv_iload hx hb dX2_firstWritten_61 (lv_at hl 0 rfl) ?_
        exact cb_endSi (v := atN 65 T.2.1 x3) hx hb hr hlocks (by rw [← hT]; simp only [cWrittenL, cWrittenEnd, if_neg c_2]) dX2_firstWritten_63
    | succ k ih =>
      intro x3 x4 hk hT ls hl
      refine lv_iload hx hb dX2_firstWritten_5 (lv_at hl 4 rfl) ?_
      refine lv_if_le (tgt := 44) hx hb dX2_firstWritten_7 (by decide) (fun c_4 => ?_) (fun c_4 => ?_)
      · refine lv_aload_n hx hb dX2_firstWritten_44 rfl (lv_at hl 0 rfl) ?_
        refine va_get (D := D) (ci := 2) (v := .ref al) (C := RX2) (T := TX2) (N := 9) hx hb hts hinX2 hown hK hP 0 rfl rfl 1 (by decide) (hts (.fieldLink RX2 15 "CobblerCodes$Tree" "leaf" "[I") (by decide +kernel)) (fun _ h9 => h9) rfl dX2_firstWritten_45 ?_
        refine lv_iload_n hx hb dX2_firstWritten_48 rfl (lv_at hl 3 rfl) ?_
        have hPc := hP.sub (ws' := [(al, .inl (cy, 65, .inl T.2.1))]) [2] rfl
        refine cb_callSi (r0 := (atN 65 T.2.1 x3)) (va_runSN (As := [.ref al, .int x3]) (rest := []) ⟨hx, hb, hml, hown, hts⟩ (kX3_at l D cy al 65 T.2.1 x3 (by first | assumption | decide)) ⟨va_cnB 2 hts gX2_firstWritten_X3_at_n54 rfl rfl rfl (hnw (.methodLinkNest RX2 54 yX3_at RX3) (by decide +kernel)) (hts (.initialized RX3) (by decide +kernel)) (by decide +kernel) ⟨Nat.le_of_ble_eq_true rfl, Nat.le_of_ble_eq_true rfl⟩, hts (.static yX3_at) (by decide +kernel), trivial⟩ (cb_Pp.ps hK hPc hnw) rfl rfl hl.1 rfl (lv_room (Nat.le_of_ble_eq_true rfl)) dX2_firstWritten_49 ⟨Nat.le_of_ble_eq_true rfl, Nat.le_of_ble_eq_true rfl⟩) ?_
        refine lv_istore (lv' := [(5, .int (atN 65 T.2.1 x3)), (0, .ref a0), (1, .int u0), (2, .int u1), (3, .int x3), (4, .int x4)]) hx hb dX2_firstWritten_52 hl (by decide) rfl (fun ls hl => ?_)
        refine lv_iload hx hb dX2_firstWritten_54 (lv_at hl 0 rfl) ?_
        refine lv_bipush (v := 32) hx hb dX2_firstWritten_56 (by decide) ?_
        refine lv_icmp_eq (tgt := 64) hx hb dX2_firstWritten_58 (by decide) (fun c_5 => ?_) (fun c_5 => ?_)
        · refine lv_iload hx hb dX2_firstWritten_64 (lv_at hl 5 rfl) ?_
          refine lv_iconst (v := 5) hx hb dX2_firstWritten_66 (by decide) ?_
          refine lv_icmp_ge (tgt := 72) hx hb dX2_firstWritten_67 (by decide) (fun c_6 => ?_) (fun c_6 => ?_)
          · refine lv_bipush (v := 100) hx hb dX2_firstWritten_72 (by decide) ?_
            refine lv_iload_n hx hb dX2_firstWritten_74 rfl (lv_at hl 2 rfl) ?_
            refine lv_iload hx hb dX2_firstWritten_75 (lv_at hl 5 rfl) ?_
            refine lv_iconst (v := 5) hx hb dX2_firstWritten_77 (by decide) ?_
            refine lv_isub hx hb dX2_firstWritten_78 ?_
            refine lv_ishr hx hb dX2_firstWritten_79 ?_
            refine lv_bipush (v := 31) hx hb dX2_firstWritten_80 (by decide) ?_
            refine lv_iand hx hb dX2_firstWritten_82 ?_
            refine lv_iadd hx hb dX2_firstWritten_83 ?_
            exact cb_endSi (v := 100 + ((u0 >>> ((x4 - 5) &&& 31)) &&& 31)) hx hb hr hlocks (by rw [← hT]; simp only [cWrittenL, cWrittenEnd, if_pos c_4, if_pos c_5, if_pos c_6]) dX2_firstWritten_84
          · refine lv_iconst (v := (-1)) hx hb dX2_firstWritten_70 (by decide) ?_
            exact cb_endSi (v := (-1)) hx hb hr hlocks (by rw [← hT]; simp only [cWrittenL, cWrittenEnd, if_pos c_4, if_pos c_5, if_neg c_6]) dX2_firstWritten_71
        · refine lv_iload hx hb dX2_firstWritten_61 (lv_at hl 0 rfl) ?_
          exact cb_endSi (v := atN 65 T.2.1 x3) hx hb hr hlocks (by rw [← hT]; simp only [cWrittenL, cWrittenEnd, if_pos c_4, if_neg c_5]) dX2_firstWritten_63
      · refine lv_aload_n hx hb dX2_firstWritten_10 rfl (lv_at hl 0 rfl) ?_
        refine va_get (D := D) (ci := 2) (v := .ref af) (C := RX2) (T := TX2) (N := 9) hx hb hts hinX2 hown hK hP 0 rfl rfl 2 (by decide) (hts (.fieldLink RX2 18 "CobblerCodes$Tree" "firstPart" "[I") (by decide +kernel)) (fun _ h9 => h9) rfl dX2_firstWritten_11 ?_
        refine lv_iload_n hx hb dX2_firstWritten_14 rfl (lv_at hl 3 rfl) ?_
        have hPc := hP.sub (ws' := [(af, .inl (cy, 65, .inl T.2.2.1))]) [3] rfl
        refine cb_callSi (r0 := (atN 65 T.2.2.1 x3)) (va_runSN (As := [.ref af, .int x3]) (rest := []) ⟨hx, hb, hml, hown, hts⟩ (kX3_at l D cy af 65 T.2.2.1 x3 (by first | assumption | decide)) ⟨va_cnB 2 hts gX2_firstWritten_X3_at_n54 rfl rfl rfl (hnw (.methodLinkNest RX2 54 yX3_at RX3) (by decide +kernel)) (hts (.initialized RX3) (by decide +kernel)) (by decide +kernel) ⟨Nat.le_of_ble_eq_true rfl, Nat.le_of_ble_eq_true rfl⟩, hts (.static yX3_at) (by decide +kernel), trivial⟩ (cb_Pp.ps hK hPc hnw) rfl rfl hl.1 rfl (lv_room (Nat.le_of_ble_eq_true rfl)) dX2_firstWritten_15 ⟨Nat.le_of_ble_eq_true rfl, Nat.le_of_ble_eq_true rfl⟩) ?_
        refine lv_iconst (v := (-1)) hx hb dX2_firstWritten_18 (by decide) ?_
        refine lv_icmp_eq (tgt := 44) hx hb dX2_firstWritten_19 (by decide) (fun c_7 => ?_) (fun c_7 => ?_)
        · refine lv_aload_n hx hb dX2_firstWritten_44 rfl (lv_at hl 0 rfl) ?_
          refine va_get (D := D) (ci := 2) (v := .ref al) (C := RX2) (T := TX2) (N := 9) hx hb hts hinX2 hown hK hP 0 rfl rfl 1 (by decide) (hts (.fieldLink RX2 15 "CobblerCodes$Tree" "leaf" "[I") (by decide +kernel)) (fun _ h9 => h9) rfl dX2_firstWritten_45 ?_
          refine lv_iload_n hx hb dX2_firstWritten_48 rfl (lv_at hl 3 rfl) ?_
          have hPc := hP.sub (ws' := [(al, .inl (cy, 65, .inl T.2.1))]) [2] rfl
          refine cb_callSi (r0 := (atN 65 T.2.1 x3)) (va_runSN (As := [.ref al, .int x3]) (rest := []) ⟨hx, hb, hml, hown, hts⟩ (kX3_at l D cy al 65 T.2.1 x3 (by first | assumption | decide)) ⟨va_cnB 2 hts gX2_firstWritten_X3_at_n54 rfl rfl rfl (hnw (.methodLinkNest RX2 54 yX3_at RX3) (by decide +kernel)) (hts (.initialized RX3) (by decide +kernel)) (by decide +kernel) ⟨Nat.le_of_ble_eq_true rfl, Nat.le_of_ble_eq_true rfl⟩, hts (.static yX3_at) (by decide +kernel), trivial⟩ (cb_Pp.ps hK hPc hnw) rfl rfl hl.1 rfl (lv_room (Nat.le_of_ble_eq_true rfl)) dX2_firstWritten_49 ⟨Nat.le_of_ble_eq_true rfl, Nat.le_of_ble_eq_true rfl⟩) ?_
          refine lv_istore (lv' := [(5, .int (atN 65 T.2.1 x3)), (0, .ref a0), (1, .int u0), (2, .int u1), (3, .int x3), (4, .int x4)]) hx hb dX2_firstWritten_52 hl (by decide) rfl (fun ls hl => ?_)
          refine lv_iload hx hb dX2_firstWritten_54 (lv_at hl 0 rfl) ?_
          refine lv_bipush (v := 32) hx hb dX2_firstWritten_56 (by decide) ?_
          refine lv_icmp_eq (tgt := 64) hx hb dX2_firstWritten_58 (by decide) (fun c_8 => ?_) (fun c_8 => ?_)
          · refine lv_iload hx hb dX2_firstWritten_64 (lv_at hl 5 rfl) ?_
            refine lv_iconst (v := 5) hx hb dX2_firstWritten_66 (by decide) ?_
            refine lv_icmp_ge (tgt := 72) hx hb dX2_firstWritten_67 (by decide) (fun c_9 => ?_) (fun c_9 => ?_)
            · refine lv_bipush (v := 100) hx hb dX2_firstWritten_72 (by decide) ?_
              refine lv_iload_n hx hb dX2_firstWritten_74 rfl (lv_at hl 2 rfl) ?_
              refine lv_iload hx hb dX2_firstWritten_75 (lv_at hl 5 rfl) ?_
              refine lv_iconst (v := 5) hx hb dX2_firstWritten_77 (by decide) ?_
              refine lv_isub hx hb dX2_firstWritten_78 ?_
              refine lv_ishr hx hb dX2_firstWritten_79 ?_
              refine lv_bipush (v := 31) hx hb dX2_firstWritten_80 (by decide) ?_
              refine lv_iand hx hb dX2_firstWritten_82 ?_
              refine lv_iadd hx hb dX2_firstWritten_83 ?_
              exact cb_endSi (v := 100 + ((u0 >>> ((x4 - 5) &&& 31)) &&& 31)) hx hb hr hlocks (by rw [← hT]; simp only [cWrittenL, cWrittenEnd, if_neg c_4, if_pos c_7, if_pos c_8, if_pos c_9]) dX2_firstWritten_84
            · refine lv_iconst (v := (-1)) hx hb dX2_firstWritten_70 (by decide) ?_
              exact cb_endSi (v := (-1)) hx hb hr hlocks (by rw [← hT]; simp only [cWrittenL, cWrittenEnd, if_neg c_4, if_pos c_7, if_pos c_8, if_neg c_9]) dX2_firstWritten_71
          · refine lv_iload hx hb dX2_firstWritten_61 (lv_at hl 0 rfl) ?_
            exact cb_endSi (v := atN 65 T.2.1 x3) hx hb hr hlocks (by rw [← hT]; simp only [cWrittenL, cWrittenEnd, if_neg c_4, if_pos c_7, if_neg c_8]) dX2_firstWritten_63
        · refine lv_iinc (v := x4 + (-1)) (lv' := [(4, .int (x4 + (-1))), (0, .ref a0), (1, .int u0), (2, .int u1), (3, .int x3)]) hx hb dX2_firstWritten_22 hl (k := 4) rfl rfl (by decide) rfl (fun ls hl => ?_)
          refine lv_aload_n hx hb dX2_firstWritten_25 rfl (lv_at hl 1 rfl) ?_
          refine va_get (D := D) (ci := 2) (v := .ref af) (C := RX2) (T := TX2) (N := 9) hx hb hts hinX2 hown hK hP 0 rfl rfl 2 (by decide) (hts (.fieldLink RX2 18 "CobblerCodes$Tree" "firstPart" "[I") (by decide +kernel)) (fun _ h9 => h9) rfl dX2_firstWritten_26 ?_
          refine lv_iload_n hx hb dX2_firstWritten_29 rfl (lv_at hl 4 rfl) ?_
          have hPc := hP.sub (ws' := [(af, .inl (cy, 65, .inl T.2.2.1))]) [3] rfl
          refine cb_callSi (r0 := (atN 65 T.2.2.1 x3)) (va_runSN (As := [.ref af, .int x3]) (rest := []) ⟨hx, hb, hml, hown, hts⟩ (kX3_at l D cy af 65 T.2.2.1 x3 (by first | assumption | decide)) ⟨va_cnB 2 hts gX2_firstWritten_X3_at_n54 rfl rfl rfl (hnw (.methodLinkNest RX2 54 yX3_at RX3) (by decide +kernel)) (hts (.initialized RX3) (by decide +kernel)) (by decide +kernel) ⟨Nat.le_of_ble_eq_true rfl, Nat.le_of_ble_eq_true rfl⟩, hts (.static yX3_at) (by decide +kernel), trivial⟩ (cb_Pp.ps hK hPc hnw) rfl rfl hl.1 rfl (lv_room (Nat.le_of_ble_eq_true rfl)) dX2_firstWritten_30 ⟨Nat.le_of_ble_eq_true rfl, Nat.le_of_ble_eq_true rfl⟩) ?_
          refine lv_iload_n hx hb dX2_firstWritten_33 rfl (lv_at hl 2 rfl) ?_
          refine lv_iload hx hb dX2_firstWritten_34 (lv_at hl 0 rfl) ?_
          refine lv_ishr hx hb dX2_firstWritten_36 ?_
          refine lv_iconst (v := 1) hx hb dX2_firstWritten_37 (by decide) ?_
          refine lv_iand hx hb dX2_firstWritten_38 ?_
          refine lv_iadd hx hb dX2_firstWritten_39 ?_
          refine lv_istore_n (lv' := [(3, .int ((atN 65 T.2.2.1 x3) + ((u0 >>> ((x4 + (-1)) &&& 31)) &&& 1))), (4, .int (x4 + (-1))), (0, .ref a0), (1, .int u0), (2, .int u1)]) hx hb dX2_firstWritten_40 rfl hl (by decide) rfl (fun ls hl => ?_)
          refine lv_goto (tgt := 5) hx hb dX2_firstWritten_41 (by decide) ?_
          exact ih _ _ (cb_down1 hk c_4) (by rw [← hT]; simp only [cWrittenL, if_neg c_4, if_neg c_7]; try rfl) ls (lv_sub hl [2, 3, 4, 0, 1] rfl)
  exact L5 u1.toNatClampNeg 0 u1 (Nat.le_refl _) rfl ls (lv_sub hl [2, 3, 4, 1, 0] rfl)

set_option maxHeartbeats 4000000 in
set_option maxRecDepth 100000 in
theorem kX2_firstAsHeavyAs (l : Launch) (D : va_G) (cy : ClassId) (a0 aw al af ab ap ah : Nat) (T : N5) (sn ex wr : Int32) (u0 : Int32) : Met l yX2_firstAsHeavyAs wsX2_firstAsHeavyAs ({ frames := 1, cells := 0, slots := 0, locals := 21 }) (cb_Pp D (cb_tys cy) [(a0, .inr (2, [.ref aw, .ref al, .ref af, .ref ab, .ref ap, .ref ah, .int sn, .int ex, .int wr])), (aw, .inl (cy, 65, .inl T.1)), (al, .inl (cy, 65, .inl T.2.1)), (af, .inl (cy, 65, .inl T.2.2.1)), (ab, .inl (cy, 65, .inl T.2.2.2.1)), (ap, .inl (cy, 33, .inl T.2.2.2.2))] [.ref a0, .int u0]) (cb_Si (cFirst T.1 u0)) 0 0 (fun _ => False) := by
  refine Met.ofW (cc := cX2_firstAsHeavyAs) (maxL := 4) (ret := (some .int)) (by decide) rfl ?_
  intro p e s m args below meth c s₁ B hml hv
  obtain ⟨rfl, hP, hK, hnw⟩ := hv
  have hx := B.exec
  have hb := B.bytes
  have hr := B.returns
  have hts := atoms_spec (ws := wsX2_firstAsHeavyAs) B.pre
  have hown : s.vm.findClass RX2 = some m.cls := findClass_of_methodNamed B.named
  have hlocks := B.notSynchronized
  have hinX2 : ∀ w ∈ wsX20, w ∈ wsX2_firstAsHeavyAs := by decide +kernel
  have hl := lv_entry ([.ref a0, .int u0]) (n := 4) (Nat.le_of_ble_eq_true rfl)
  rw [lg_entry_eq]
  generalize (lg_sl ([.ref a0, .int u0]) ++ List.replicate (4 - (lg_sl ([.ref a0, .int u0])).length) Slot.unset).toArray = ls at hl ⊢
  have hl : lv_has ls 4 [(0, .ref a0), (1, .int u0)] := hl
  refine lv_aload_n hx hb dX2_firstAsHeavyAs_0 rfl (lv_at hl 0 rfl) ?_
  refine va_get (D := D) (ci := 2) (v := .ref aw) (C := RX2) (T := TX2) (N := 9) hx hb hts hinX2 hown hK hP 0 rfl rfl 0 (by decide) (hts (.fieldLink RX2 9 "CobblerCodes$Tree" "weight" "[I") (by decide +kernel)) (fun _ h9 => h9) rfl dX2_firstAsHeavyAs_1 ?_
  refine lv_iload_n hx hb dX2_firstAsHeavyAs_4 rfl (lv_at hl 1 rfl) ?_
  have hPc := hP.sub (ws' := [(aw, .inl (cy, 65, .inl T.1))]) [1] rfl
  refine cb_callSi (r0 := (atN 65 T.1 u0)) (va_runSN (As := [.ref aw, .int u0]) (rest := []) ⟨hx, hb, hml, hown, hts⟩ (kX3_at l D cy aw 65 T.1 u0 (by first | assumption | decide)) ⟨va_cnB 2 hts gX2_firstAsHeavyAs_X3_at_n54 rfl rfl rfl (hnw (.methodLinkNest RX2 54 yX3_at RX3) (by decide +kernel)) (hts (.initialized RX3) (by decide +kernel)) (by decide +kernel) ⟨Nat.le_of_ble_eq_true rfl, Nat.le_of_ble_eq_true rfl⟩, hts (.static yX3_at) (by decide +kernel), trivial⟩ (cb_Pp.ps hK hPc hnw) rfl rfl hl.1 rfl (lv_room (Nat.le_of_ble_eq_true rfl)) dX2_firstAsHeavyAs_5 ⟨Nat.le_of_ble_eq_true rfl, Nat.le_of_ble_eq_true rfl⟩) ?_
  refine lv_istore_n (lv' := [(2, .int (atN 65 T.1 u0)), (0, .ref a0), (1, .int u0)]) hx hb dX2_firstAsHeavyAs_8 rfl hl (by decide) rfl (fun ls hl => ?_)
  refine lv_iconst (v := 0) hx hb dX2_firstAsHeavyAs_9 (by decide) ?_
  refine lv_istore_n (lv' := [(3, .int 0), (2, .int (atN 65 T.1 u0)), (0, .ref a0), (1, .int u0)]) hx hb dX2_firstAsHeavyAs_10 rfl hl (by decide) rfl (fun ls hl => ?_)
  have L11 : ∀ (k : Nat) (i : Nat) (x3 : Int32), x3 = nI i → i + k = u0.toNatClampNeg → cFirstL T.1 u0 (atN 65 T.1 u0) k x3 = cFirst T.1 u0 → ∀ (ls : Array Slot), lv_has ls 4 [(0, .ref a0), (1, .int u0), (2, .int (atN 65 T.1 u0)), (3, .int x3)] → W p l e ({ frames := 1, cells := 0, slots := 0, locals := 21 } : Room) s m [.ref a0, .int u0].toArray below meth c s.heap [] 0 0 (MQ below (cb_Si (cFirst T.1 u0)) [.ref a0, .int u0].toArray s 0 0 (fun _ => False)) (F0 m 11 ls []) := by
    clear hl
    intro k
    induction k with
    | zero =>
      intro i x3 e3 hi hT ls hl
      refine lv_iload_n hx hb dX2_firstAsHeavyAs_11 rfl (lv_at hl 3 rfl) ?_
      refine lv_iload_n hx hb dX2_firstAsHeavyAs_12 rfl (lv_at hl 1 rfl) ?_
      refine lv_icmp_ge (tgt := 36) hx hb dX2_firstAsHeavyAs_13 (by decide) (fun c_1 => ?_) (fun c9 => absurd (by rw [e3]; exact cb_lo hi) c9)
      refine lv_iload_n hx hb dX2_firstAsHeavyAs_36 rfl (lv_at hl 1 rfl) ?_
      exact cb_endSi (v := u0) hx hb hr hlocks (by rw [← hT]; rfl) dX2_firstAsHeavyAs_37
    | succ k ih =>
      intro i x3 e3 hi hT ls hl
      refine lv_iload_n hx hb dX2_firstAsHeavyAs_11 rfl (lv_at hl 3 rfl) ?_
      refine lv_iload_n hx hb dX2_firstAsHeavyAs_12 rfl (lv_at hl 1 rfl) ?_
      refine lv_icmp_ge (tgt := 36) hx hb dX2_firstAsHeavyAs_13 (by decide) (fun c9 => absurd c9 (by rw [e3]; exact cb_hi hi)) (fun c_2 => ?_)
      refine lv_aload_n hx hb dX2_firstAsHeavyAs_16 rfl (lv_at hl 0 rfl) ?_
      refine va_get (D := D) (ci := 2) (v := .ref aw) (C := RX2) (T := TX2) (N := 9) hx hb hts hinX2 hown hK hP 0 rfl rfl 0 (by decide) (hts (.fieldLink RX2 9 "CobblerCodes$Tree" "weight" "[I") (by decide +kernel)) (fun _ h9 => h9) rfl dX2_firstAsHeavyAs_17 ?_
      refine lv_iload_n hx hb dX2_firstAsHeavyAs_20 rfl (lv_at hl 3 rfl) ?_
      have hPc := hP.sub (ws' := [(aw, .inl (cy, 65, .inl T.1))]) [1] rfl
      refine cb_callSi (r0 := (atN 65 T.1 x3)) (va_runSN (As := [.ref aw, .int x3]) (rest := []) ⟨hx, hb, hml, hown, hts⟩ (kX3_at l D cy aw 65 T.1 x3 (by first | assumption | decide)) ⟨va_cnB 2 hts gX2_firstAsHeavyAs_X3_at_n54 rfl rfl rfl (hnw (.methodLinkNest RX2 54 yX3_at RX3) (by decide +kernel)) (hts (.initialized RX3) (by decide +kernel)) (by decide +kernel) ⟨Nat.le_of_ble_eq_true rfl, Nat.le_of_ble_eq_true rfl⟩, hts (.static yX3_at) (by decide +kernel), trivial⟩ (cb_Pp.ps hK hPc hnw) rfl rfl hl.1 rfl (lv_room (Nat.le_of_ble_eq_true rfl)) dX2_firstAsHeavyAs_21 ⟨Nat.le_of_ble_eq_true rfl, Nat.le_of_ble_eq_true rfl⟩) ?_
      refine lv_iload_n hx hb dX2_firstAsHeavyAs_24 rfl (lv_at hl 2 rfl) ?_
      refine lv_icmp_ne (tgt := 30) hx hb dX2_firstAsHeavyAs_25 (by decide) (fun c_3 => ?_) (fun c_3 => ?_)
      · refine lv_iinc (v := x3 + 1) (lv' := [(3, .int (x3 + 1)), (0, .ref a0), (1, .int u0), (2, .int (atN 65 T.1 u0))]) hx hb dX2_firstAsHeavyAs_30 hl (k := 3) rfl rfl (by decide) rfl (fun ls hl => ?_)
        refine lv_goto (tgt := 11) hx hb dX2_firstAsHeavyAs_33 (by decide) ?_
        exact ih (i + 1) _ (by rw [e3]; exact nI_1 i) (by omega) (by rw [← hT]; simp only [cFirstL, if_neg c_3]; try rfl) ls (lv_sub hl [1, 2, 3, 0] rfl)
      · refine lv_iload_n hx hb dX2_firstAsHeavyAs_28 rfl (lv_at hl 3 rfl) ?_
        exact cb_endSi (v := x3) hx hb hr hlocks (by rw [← hT]; simp only [cFirstL, if_pos c_3]; try rfl) dX2_firstAsHeavyAs_29
  exact L11 u0.toNatClampNeg 0 0 rfl (Nat.zero_add _) rfl ls (lv_sub hl [2, 3, 1, 0] rfl)
end
section
set_option maxHeartbeats 4000000 in
set_option maxRecDepth 100000 in
theorem kX2_putNode (l : Launch) (D : va_G) (cy : ClassId) (sz : Nat) (a0 aw al af ab ap ah : Nat) (T : N5) (sn ex wr : Int32) (u0 u1 u2 u3 : Int32) : Met l yX2_putNode wsX2_putNode ({ frames := 1, cells := 0, slots := 0, locals := 22 }) (cb_Pw D (cb_tys cy) [(a0, .inr (2, [.ref aw, .ref al, .ref af, .ref ab, .ref ap, .ref ah, .int sn, .int ex, .int wr])), (aw, .inl (cy, 65, .inl T.1)), (al, .inl (cy, 65, .inl T.2.1)), (af, .inl (cy, 65, .inl T.2.2.1)), (ab, .inl (cy, 65, .inl T.2.2.2.1)), (ap, .inl (cy, 33, .inl T.2.2.2.2))] sz [.ref a0, .int u0, .int u1, .int u2, .int u3]) (cb_Qv D (cb_tys cy) (va_A [(a0, .inr (2, [.ref aw, .ref al, .ref af, .ref ab, .ref ap, .ref ah, .int sn, .int ex, .int wr])), (aw, .inl (cy, 65, .inl T.1)), (al, .inl (cy, 65, .inl T.2.1)), (af, .inl (cy, 65, .inl T.2.2.1)), (ab, .inl (cy, 65, .inl T.2.2.2.1)), (ap, .inl (cy, 33, .inl T.2.2.2.2))] sz) [(a0, .inr (2, [.ref aw, .ref al, .ref af, .ref ab, .ref ap, .ref ah, .int sn, .int ex, .int wr])), (aw, .inl (cy, 65, .inl (cPutNode T u0 u1 u2 u3).1)), (al, .inl (cy, 65, .inl (cPutNode T u0 u1 u2 u3).2.1)), (af, .inl (cy, 65, .inl (cPutNode T u0 u1 u2 u3).2.2.1)), (ab, .inl (cy, 65, .inl (cPutNode T u0 u1 u2 u3).2.2.2.1)), (ap, .inl (cy, 33, .inl (cPutNode T u0 u1 u2 u3).2.2.2.2))]) 0 0 (va_A [(a0, .inr (2, [.ref aw, .ref al, .ref af, .ref ab, .ref ap, .ref ah, .int sn, .int ex, .int wr])), (aw, .inl (cy, 65, .inl T.1)), (al, .inl (cy, 65, .inl T.2.1)), (af, .inl (cy, 65, .inl T.2.2.1)), (ab, .inl (cy, 65, .inl T.2.2.2.1)), (ap, .inl (cy, 33, .inl T.2.2.2.2))] sz) := by
  refine Met.ofW (cc := cX2_putNode) (maxL := 5) (ret := none) (by decide) rfl ?_
  intro p e s m args below meth c s₁ B hml hv
  obtain ⟨rfl, hsz, hP, hK, hD0, hnw⟩ := hv
  have hx := B.exec
  have hb := B.bytes
  have hr := B.returns
  have hts := atoms_spec (ws := wsX2_putNode) B.pre
  have hown : s.vm.findClass RX2 = some m.cls := findClass_of_methodNamed B.named
  have hlocks := B.notSynchronized
  have hinX2 : ∀ w ∈ wsX20, w ∈ wsX2_putNode := by decide +kernel
  subst hsz
  have hD := hD0.self (sz := s.heap.size)
  generalize hAe : va_A [(a0, .inr (2, [.ref aw, .ref al, .ref af, .ref ab, .ref ap, .ref ah, .int sn, .int ex, .int wr])), (aw, .inl (cy, 65, .inl T.1)), (al, .inl (cy, 65, .inl T.2.1)), (af, .inl (cy, 65, .inl T.2.2.1)), (ab, .inl (cy, 65, .inl T.2.2.2.1)), (ap, .inl (cy, 33, .inl T.2.2.2.2))] s.heap.size = A at hD ⊢
  have hA : ∀ q : Nat, s.heap.size ≤ q → A q := fun q h => by rw [← hAe]; exact Or.inr h
  clear hAe
  have hS : va_S A s.heap s.heap [] := va_S.rf
  have hl := lv_entry ([.ref a0, .int u0, .int u1, .int u2, .int u3]) (n := 5) (Nat.le_of_ble_eq_true rfl)
  rw [lg_entry_eq]
  generalize (lg_sl ([.ref a0, .int u0, .int u1, .int u2, .int u3]) ++ List.replicate (5 - (lg_sl ([.ref a0, .int u0, .int u1, .int u2, .int u3])).length) Slot.unset).toArray = ls at hl ⊢
  have hl : lv_has ls 5 [(0, .ref a0), (1, .int u0), (2, .int u1), (3, .int u2), (4, .int u3)] := hl
  refine lv_aload_n hx hb dX2_putNode_0 rfl (lv_at hl 0 rfl) ?_
  refine va_get (D := D) (ci := 2) (v := .ref aw) (C := RX2) (T := TX2) (N := 9) hx hb hts hinX2 hown hK hP 0 rfl rfl 0 (by decide) (hts (.fieldLink RX2 9 "CobblerCodes$Tree" "weight" "[I") (by decide +kernel)) (fun _ h9 => h9) rfl dX2_putNode_1 ?_
  refine lv_iload_n hx hb dX2_putNode_4 rfl (lv_at hl 1 rfl) ?_
  refine lv_iload_n hx hb dX2_putNode_5 rfl (lv_at hl 2 rfl) ?_
  have hPc := hP.sub (ws' := [(aw, .inl (cy, 65, .inl T.1))]) [1] rfl
  have hDc := hD.sub (ws' := [(aw, .inl (cy, 65, .inl T.1))]) [1] (by decide) rfl
  refine cb_callQv (wc := [(aw, .inl (cy, 65, .inl T.1))]) (wr := [(a0, .inr (2, [.ref aw, .ref al, .ref af, .ref ab, .ref ap, .ref ah, .int sn, .int ex, .int wr])), (al, .inl (cy, 65, .inl T.2.1)), (af, .inl (cy, 65, .inl T.2.2.1)), (ab, .inl (cy, 65, .inl T.2.2.2.1)), (ap, .inl (cy, 33, .inl T.2.2.2.2))]) (wc' := [(aw, .inl (cy, 65, .inl (putN 65 T.1 u0 u1)))]) (ws2 := [(a0, .inr (2, [.ref aw, .ref al, .ref af, .ref ab, .ref ap, .ref ah, .int sn, .int ex, .int wr])), (aw, .inl (cy, 65, .inl (putN 65 T.1 u0 u1))), (al, .inl (cy, 65, .inl T.2.1)), (af, .inl (cy, 65, .inl T.2.2.1)), (ab, .inl (cy, 65, .inl T.2.2.2.1)), (ap, .inl (cy, 33, .inl T.2.2.2.2))]) hP hD hS hA [1] [0, 2, 3, 4, 5] [0, 5, 1, 2, 3, 4] (va_runSN (As := [.ref aw, .int u0, .int u1]) (rest := []) ⟨hx, hb, hml, hown, hts⟩ (kX3_put l D cy _ aw 65 T.1 u0 u1 (by first | assumption | decide)) ⟨va_cnB 3 hts gX2_putNode_X3_put_n68 rfl rfl rfl (hnw (.methodLinkNest RX2 68 yX3_put RX3) (by decide +kernel)) (hts (.initialized RX3) (by decide +kernel)) (by decide +kernel) ⟨Nat.le_of_ble_eq_true rfl, Nat.le_of_ble_eq_true rfl⟩, hts (.static yX3_put) (by decide +kernel), trivial⟩ (cb_Pw.ps hK hPc hDc hnw) rfl rfl hl.1 rfl (lv_room (Nat.le_of_ble_eq_true rfl)) dX2_putNode_6 ⟨Nat.le_of_ble_eq_true rfl, Nat.le_of_ble_eq_true rfl⟩) rfl rfl (by decide) (by decide) rfl (by decide) (fun H locs hP hD hS => ?_)
  refine lv_aload_n hx hb dX2_putNode_9 rfl (lv_at hl 0 rfl) ?_
  refine va_get (D := D) (ci := 2) (v := .ref al) (C := RX2) (T := TX2) (N := 9) hx hb hts hinX2 hown hK hP 0 rfl rfl 1 (by decide) (hts (.fieldLink RX2 15 "CobblerCodes$Tree" "leaf" "[I") (by decide +kernel)) (fun _ h9 => h9) rfl dX2_putNode_10 ?_
  refine lv_iload_n hx hb dX2_putNode_13 rfl (lv_at hl 1 rfl) ?_
  refine lv_iload_n hx hb dX2_putNode_14 rfl (lv_at hl 3 rfl) ?_
  have hPc := hP.sub (ws' := [(al, .inl (cy, 65, .inl T.2.1))]) [2] rfl
  have hDc := hD.sub (ws' := [(al, .inl (cy, 65, .inl T.2.1))]) [2] (by decide) rfl
  refine cb_callQv (wc := [(al, .inl (cy, 65, .inl T.2.1))]) (wr := [(a0, .inr (2, [.ref aw, .ref al, .ref af, .ref ab, .ref ap, .ref ah, .int sn, .int ex, .int wr])), (aw, .inl (cy, 65, .inl (putN 65 T.1 u0 u1))), (af, .inl (cy, 65, .inl T.2.2.1)), (ab, .inl (cy, 65, .inl T.2.2.2.1)), (ap, .inl (cy, 33, .inl T.2.2.2.2))]) (wc' := [(al, .inl (cy, 65, .inl (putN 65 T.2.1 u0 u2)))]) (ws2 := [(a0, .inr (2, [.ref aw, .ref al, .ref af, .ref ab, .ref ap, .ref ah, .int sn, .int ex, .int wr])), (aw, .inl (cy, 65, .inl (putN 65 T.1 u0 u1))), (al, .inl (cy, 65, .inl (putN 65 T.2.1 u0 u2))), (af, .inl (cy, 65, .inl T.2.2.1)), (ab, .inl (cy, 65, .inl T.2.2.2.1)), (ap, .inl (cy, 33, .inl T.2.2.2.2))]) hP hD hS hA [2] [0, 1, 3, 4, 5] [0, 1, 5, 2, 3, 4] (va_runSN (As := [.ref al, .int u0, .int u2]) (rest := []) ⟨hx, hb, hml, hown, hts⟩ (kX3_put l D cy _ al 65 T.2.1 u0 u2 (by first | assumption | decide)) ⟨va_cnB 3 hts gX2_putNode_X3_put_n68 rfl rfl rfl (hnw (.methodLinkNest RX2 68 yX3_put RX3) (by decide +kernel)) (hts (.initialized RX3) (by decide +kernel)) (by decide +kernel) ⟨Nat.le_of_ble_eq_true rfl, Nat.le_of_ble_eq_true rfl⟩, hts (.static yX3_put) (by decide +kernel), trivial⟩ (cb_Pw.ps hK hPc hDc hnw) rfl rfl hl.1 rfl (lv_room (Nat.le_of_ble_eq_true rfl)) dX2_putNode_15 ⟨Nat.le_of_ble_eq_true rfl, Nat.le_of_ble_eq_true rfl⟩) rfl rfl (by decide) (by decide) rfl (by decide) (fun H locs hP hD hS => ?_)
  refine lv_aload_n hx hb dX2_putNode_18 rfl (lv_at hl 0 rfl) ?_
  refine va_get (D := D) (ci := 2) (v := .ref af) (C := RX2) (T := TX2) (N := 9) hx hb hts hinX2 hown hK hP 0 rfl rfl 2 (by decide) (hts (.fieldLink RX2 18 "CobblerCodes$Tree" "firstPart" "[I") (by decide +kernel)) (fun _ h9 => h9) rfl dX2_putNode_19 ?_
  refine lv_iload_n hx hb dX2_putNode_22 rfl (lv_at hl 1 rfl) ?_
  refine lv_iload hx hb dX2_putNode_23 (lv_at hl 4 rfl) ?_
  have hPc := hP.sub (ws' := [(af, .inl (cy, 65, .inl T.2.2.1))]) [3] rfl
  have hDc := hD.sub (ws' := [(af, .inl (cy, 65, .inl T.2.2.1))]) [3] (by decide) rfl
  refine cb_callQv (wc := [(af, .inl (cy, 65, .inl T.2.2.1))]) (wr := [(a0, .inr (2, [.ref aw, .ref al, .ref af, .ref ab, .ref ap, .ref ah, .int sn, .int ex, .int wr])), (aw, .inl (cy, 65, .inl (putN 65 T.1 u0 u1))), (al, .inl (cy, 65, .inl (putN 65 T.2.1 u0 u2))), (ab, .inl (cy, 65, .inl T.2.2.2.1)), (ap, .inl (cy, 33, .inl T.2.2.2.2))]) (wc' := [(af, .inl (cy, 65, .inl (putN 65 T.2.2.1 u0 u3)))]) (ws2 := [(a0, .inr (2, [.ref aw, .ref al, .ref af, .ref ab, .ref ap, .ref ah, .int sn, .int ex, .int wr])), (aw, .inl (cy, 65, .inl (putN 65 T.1 u0 u1))), (al, .inl (cy, 65, .inl (putN 65 T.2.1 u0 u2))), (af, .inl (cy, 65, .inl (putN 65 T.2.2.1 u0 u3))), (ab, .inl (cy, 65, .inl T.2.2.2.1)), (ap, .inl (cy, 33, .inl T.2.2.2.2))]) hP hD hS hA [3] [0, 1, 2, 4, 5] [0, 1, 2, 5, 3, 4] (va_runSN (As := [.ref af, .int u0, .int u3]) (rest := []) ⟨hx, hb, hml, hown, hts⟩ (kX3_put l D cy _ af 65 T.2.2.1 u0 u3 (by first | assumption | decide)) ⟨va_cnB 3 hts gX2_putNode_X3_put_n68 rfl rfl rfl (hnw (.methodLinkNest RX2 68 yX3_put RX3) (by decide +kernel)) (hts (.initialized RX3) (by decide +kernel)) (by decide +kernel) ⟨Nat.le_of_ble_eq_true rfl, Nat.le_of_ble_eq_true rfl⟩, hts (.static yX3_put) (by decide +kernel), trivial⟩ (cb_Pw.ps hK hPc hDc hnw) rfl rfl hl.1 rfl (lv_room (Nat.le_of_ble_eq_true rfl)) dX2_putNode_25 ⟨Nat.le_of_ble_eq_true rfl, Nat.le_of_ble_eq_true rfl⟩) rfl rfl (by decide) (by decide) rfl (by decide) (fun H locs hP hD hS => ?_)
  refine lv_iload hx hb dX2_putNode_28 (lv_at hl 4 rfl) ?_
  refine lv_iconst (v := (-1)) hx hb dX2_putNode_30 (by decide) ?_
  refine lv_icmp_ne (tgt := 46) hx hb dX2_putNode_31 (by decide) (fun c_1 => ?_) (fun c_1 => ?_)
  · refine lv_aload_n hx hb dX2_putNode_46 rfl (lv_at hl 0 rfl) ?_
    refine va_get (D := D) (ci := 2) (v := .ref ab) (C := RX2) (T := TX2) (N := 9) hx hb hts hinX2 hown hK hP 0 rfl rfl 3 (by decide) (hts (.fieldLink RX2 21 "CobblerCodes$Tree" "above" "[I") (by decide +kernel)) (fun _ h9 => h9) rfl dX2_putNode_47 ?_
    refine lv_iload hx hb dX2_putNode_50 (lv_at hl 4 rfl) ?_
    refine lv_iload_n hx hb dX2_putNode_52 rfl (lv_at hl 1 rfl) ?_
    have hPc := hP.sub (ws' := [(ab, .inl (cy, 65, .inl T.2.2.2.1))]) [4] rfl
    have hDc := hD.sub (ws' := [(ab, .inl (cy, 65, .inl T.2.2.2.1))]) [4] (by decide) rfl
    refine cb_callQv (wc := [(ab, .inl (cy, 65, .inl T.2.2.2.1))]) (wr := [(a0, .inr (2, [.ref aw, .ref al, .ref af, .ref ab, .ref ap, .ref ah, .int sn, .int ex, .int wr])), (aw, .inl (cy, 65, .inl (putN 65 T.1 u0 u1))), (al, .inl (cy, 65, .inl (putN 65 T.2.1 u0 u2))), (af, .inl (cy, 65, .inl (putN 65 T.2.2.1 u0 u3))), (ap, .inl (cy, 33, .inl T.2.2.2.2))]) (wc' := [(ab, .inl (cy, 65, .inl (putN 65 T.2.2.2.1 u3 u0)))]) (ws2 := [(a0, .inr (2, [.ref aw, .ref al, .ref af, .ref ab, .ref ap, .ref ah, .int sn, .int ex, .int wr])), (aw, .inl (cy, 65, .inl (putN 65 T.1 u0 u1))), (al, .inl (cy, 65, .inl (putN 65 T.2.1 u0 u2))), (af, .inl (cy, 65, .inl (putN 65 T.2.2.1 u0 u3))), (ab, .inl (cy, 65, .inl (putN 65 T.2.2.2.1 u3 u0))), (ap, .inl (cy, 33, .inl T.2.2.2.2))]) hP hD hS hA [4] [0, 1, 2, 3, 5] [0, 1, 2, 3, 5, 4] (va_runSN (As := [.ref ab, .int u3, .int u0]) (rest := []) ⟨hx, hb, hml, hown, hts⟩ (kX3_put l D cy _ ab 65 T.2.2.2.1 u3 u0 (by first | assumption | decide)) ⟨va_cnB 3 hts gX2_putNode_X3_put_n68 rfl rfl rfl (hnw (.methodLinkNest RX2 68 yX3_put RX3) (by decide +kernel)) (hts (.initialized RX3) (by decide +kernel)) (by decide +kernel) ⟨Nat.le_of_ble_eq_true rfl, Nat.le_of_ble_eq_true rfl⟩, hts (.static yX3_put) (by decide +kernel), trivial⟩ (cb_Pw.ps hK hPc hDc hnw) rfl rfl hl.1 rfl (lv_room (Nat.le_of_ble_eq_true rfl)) dX2_putNode_53 ⟨Nat.le_of_ble_eq_true rfl, Nat.le_of_ble_eq_true rfl⟩) rfl rfl (by decide) (by decide) rfl (by decide) (fun H locs hP hD hS => ?_)
    refine lv_aload_n hx hb dX2_putNode_56 rfl (lv_at hl 0 rfl) ?_
    refine va_get (D := D) (ci := 2) (v := .ref ab) (C := RX2) (T := TX2) (N := 9) hx hb hts hinX2 hown hK hP 0 rfl rfl 3 (by decide) (hts (.fieldLink RX2 21 "CobblerCodes$Tree" "above" "[I") (by decide +kernel)) (fun _ h9 => h9) rfl dX2_putNode_57 ?_
    refine lv_iload hx hb dX2_putNode_60 (lv_at hl 4 rfl) ?_
    refine lv_iconst (v := 1) hx hb dX2_putNode_62 (by decide) ?_
    refine lv_iadd hx hb dX2_putNode_63 ?_
    refine lv_iload_n hx hb dX2_putNode_64 rfl (lv_at hl 1 rfl) ?_
    have hPc := hP.sub (ws' := [(ab, .inl (cy, 65, .inl (putN 65 T.2.2.2.1 u3 u0)))]) [4] rfl
    have hDc := hD.sub (ws' := [(ab, .inl (cy, 65, .inl (putN 65 T.2.2.2.1 u3 u0)))]) [4] (by decide) rfl
    refine cb_callQv (wc := [(ab, .inl (cy, 65, .inl (putN 65 T.2.2.2.1 u3 u0)))]) (wr := [(a0, .inr (2, [.ref aw, .ref al, .ref af, .ref ab, .ref ap, .ref ah, .int sn, .int ex, .int wr])), (aw, .inl (cy, 65, .inl (putN 65 T.1 u0 u1))), (al, .inl (cy, 65, .inl (putN 65 T.2.1 u0 u2))), (af, .inl (cy, 65, .inl (putN 65 T.2.2.1 u0 u3))), (ap, .inl (cy, 33, .inl T.2.2.2.2))]) (wc' := [(ab, .inl (cy, 65, .inl (putN 65 (putN 65 T.2.2.2.1 u3 u0) (u3 + 1) u0)))]) (ws2 := [(a0, .inr (2, [.ref aw, .ref al, .ref af, .ref ab, .ref ap, .ref ah, .int sn, .int ex, .int wr])), (aw, .inl (cy, 65, .inl (putN 65 T.1 u0 u1))), (al, .inl (cy, 65, .inl (putN 65 T.2.1 u0 u2))), (af, .inl (cy, 65, .inl (putN 65 T.2.2.1 u0 u3))), (ab, .inl (cy, 65, .inl (putN 65 (putN 65 T.2.2.2.1 u3 u0) (u3 + 1) u0))), (ap, .inl (cy, 33, .inl T.2.2.2.2))]) hP hD hS hA [4] [0, 1, 2, 3, 5] [0, 1, 2, 3, 5, 4] (va_runSN (As := [.ref ab, .int (u3 + 1), .int u0]) (rest := []) ⟨hx, hb, hml, hown, hts⟩ (kX3_put l D cy _ ab 65 (putN 65 T.2.2.2.1 u3 u0) (u3 + 1) u0 (by first | assumption | decide)) ⟨va_cnB 3 hts gX2_putNode_X3_put_n68 rfl rfl rfl (hnw (.methodLinkNest RX2 68 yX3_put RX3) (by decide +kernel)) (hts (.initialized RX3) (by decide +kernel)) (by decide +kernel) ⟨Nat.le_of_ble_eq_true rfl, Nat.le_of_ble_eq_true rfl⟩, hts (.static yX3_put) (by decide +kernel), trivial⟩ (cb_Pw.ps hK hPc hDc hnw) rfl rfl hl.1 rfl (lv_room (Nat.le_of_ble_eq_true rfl)) dX2_putNode_65 ⟨Nat.le_of_ble_eq_true rfl, Nat.le_of_ble_eq_true rfl⟩) rfl rfl (by decide) (by decide) rfl (by decide) (fun H locs hP hD hS => ?_)
    exact cb_endQv hx hb hr hlocks hP hD hK hS (by simp only [cPutNode, if_neg c_1]) (by omega) (by omega) dX2_putNode_68
  · refine lv_aload_n hx hb dX2_putNode_34 rfl (lv_at hl 0 rfl) ?_
    refine va_get (D := D) (ci := 2) (v := .ref ap) (C := RX2) (T := TX2) (N := 9) hx hb hts hinX2 hown hK hP 0 rfl rfl 4 (by decide) (hts (.fieldLink RX2 24 "CobblerCodes$Tree" "placeOf" "[I") (by decide +kernel)) (fun _ h9 => h9) rfl dX2_putNode_35 ?_
    refine lv_iload_n hx hb dX2_putNode_38 rfl (lv_at hl 3 rfl) ?_
    refine lv_iload_n hx hb dX2_putNode_39 rfl (lv_at hl 1 rfl) ?_
    have hPc := hP.sub (ws' := [(ap, .inl (cy, 33, .inl T.2.2.2.2))]) [5] rfl
    have hDc := hD.sub (ws' := [(ap, .inl (cy, 33, .inl T.2.2.2.2))]) [5] (by decide) rfl
    refine cb_callQv (wc := [(ap, .inl (cy, 33, .inl T.2.2.2.2))]) (wr := [(a0, .inr (2, [.ref aw, .ref al, .ref af, .ref ab, .ref ap, .ref ah, .int sn, .int ex, .int wr])), (aw, .inl (cy, 65, .inl (putN 65 T.1 u0 u1))), (al, .inl (cy, 65, .inl (putN 65 T.2.1 u0 u2))), (af, .inl (cy, 65, .inl (putN 65 T.2.2.1 u0 u3))), (ab, .inl (cy, 65, .inl T.2.2.2.1))]) (wc' := [(ap, .inl (cy, 33, .inl (putN 33 T.2.2.2.2 u2 u0)))]) (ws2 := [(a0, .inr (2, [.ref aw, .ref al, .ref af, .ref ab, .ref ap, .ref ah, .int sn, .int ex, .int wr])), (aw, .inl (cy, 65, .inl (putN 65 T.1 u0 u1))), (al, .inl (cy, 65, .inl (putN 65 T.2.1 u0 u2))), (af, .inl (cy, 65, .inl (putN 65 T.2.2.1 u0 u3))), (ab, .inl (cy, 65, .inl T.2.2.2.1)), (ap, .inl (cy, 33, .inl (putN 33 T.2.2.2.2 u2 u0)))]) hP hD hS hA [5] [0, 1, 2, 3, 4] [0, 1, 2, 3, 4, 5] (va_runSN (As := [.ref ap, .int u2, .int u0]) (rest := []) ⟨hx, hb, hml, hown, hts⟩ (kX3_put l D cy _ ap 33 T.2.2.2.2 u2 u0 (by first | assumption | decide)) ⟨va_cnB 3 hts gX2_putNode_X3_put_n68 rfl rfl rfl (hnw (.methodLinkNest RX2 68 yX3_put RX3) (by decide +kernel)) (hts (.initialized RX3) (by decide +kernel)) (by decide +kernel) ⟨Nat.le_of_ble_eq_true rfl, Nat.le_of_ble_eq_true rfl⟩, hts (.static yX3_put) (by decide +kernel), trivial⟩ (cb_Pw.ps hK hPc hDc hnw) rfl rfl hl.1 rfl (lv_room (Nat.le_of_ble_eq_true rfl)) dX2_putNode_40 ⟨Nat.le_of_ble_eq_true rfl, Nat.le_of_ble_eq_true rfl⟩) rfl rfl (by decide) (by decide) rfl (by decide) (fun H locs hP hD hS => ?_)
    refine lv_goto (tgt := 68) hx hb dX2_putNode_43 (by decide) ?_
    exact cb_endQv hx hb hr hlocks hP hD hK hS (by simp only [cPutNode, if_pos c_1]) (by omega) (by omega) dX2_putNode_68

set_option maxHeartbeats 4000000 in
set_option maxRecDepth 100000 in
theorem kX2_exchange (l : Launch) (D : va_G) (cy : ClassId) (sz : Nat) (a0 aw al af ab ap ah : Nat) (T : N5) (sn ex wr : Int32) (u0 u1 : Int32) : Met l yX2_exchange wsX2_exchange ({ frames := 2, cells := 0, slots := 0, locals := 46 }) (cb_Pw D (cb_tys cy) [(a0, .inr (2, [.ref aw, .ref al, .ref af, .ref ab, .ref ap, .ref ah, .int sn, .int ex, .int wr])), (aw, .inl (cy, 65, .inl T.1)), (al, .inl (cy, 65, .inl T.2.1)), (af, .inl (cy, 65, .inl T.2.2.1)), (ab, .inl (cy, 65, .inl T.2.2.2.1)), (ap, .inl (cy, 33, .inl T.2.2.2.2))] sz [.ref a0, .int u0, .int u1]) (cb_Qv D (cb_tys cy) (va_A [(a0, .inr (2, [.ref aw, .ref al, .ref af, .ref ab, .ref ap, .ref ah, .int sn, .int ex, .int wr])), (aw, .inl (cy, 65, .inl T.1)), (al, .inl (cy, 65, .inl T.2.1)), (af, .inl (cy, 65, .inl T.2.2.1)), (ab, .inl (cy, 65, .inl T.2.2.2.1)), (ap, .inl (cy, 33, .inl T.2.2.2.2))] sz) [(a0, .inr (2, [.ref aw, .ref al, .ref af, .ref ab, .ref ap, .ref ah, .int sn, .int ex, .int wr])), (aw, .inl (cy, 65, .inl (cExch T u0 u1).1)), (al, .inl (cy, 65, .inl (cExch T u0 u1).2.1)), (af, .inl (cy, 65, .inl (cExch T u0 u1).2.2.1)), (ab, .inl (cy, 65, .inl (cExch T u0 u1).2.2.2.1)), (ap, .inl (cy, 33, .inl (cExch T u0 u1).2.2.2.2))]) 0 0 (va_A [(a0, .inr (2, [.ref aw, .ref al, .ref af, .ref ab, .ref ap, .ref ah, .int sn, .int ex, .int wr])), (aw, .inl (cy, 65, .inl T.1)), (al, .inl (cy, 65, .inl T.2.1)), (af, .inl (cy, 65, .inl T.2.2.1)), (ab, .inl (cy, 65, .inl T.2.2.2.1)), (ap, .inl (cy, 33, .inl T.2.2.2.2))] sz) := by
  refine Met.ofW (cc := cX2_exchange) (maxL := 6) (ret := none) (by decide) rfl ?_
  intro p e s m args below meth c s₁ B hml hv
  obtain ⟨rfl, hsz, hP, hK, hD0, hnw⟩ := hv
  have hx := B.exec
  have hb := B.bytes
  have hr := B.returns
  have hts := atoms_spec (ws := wsX2_exchange) B.pre
  have hown : s.vm.findClass RX2 = some m.cls := findClass_of_methodNamed B.named
  have hlocks := B.notSynchronized
  have hinX2 : ∀ w ∈ wsX20, w ∈ wsX2_exchange := by decide +kernel
  subst hsz
  have hD := hD0.self (sz := s.heap.size)
  generalize hAe : va_A [(a0, .inr (2, [.ref aw, .ref al, .ref af, .ref ab, .ref ap, .ref ah, .int sn, .int ex, .int wr])), (aw, .inl (cy, 65, .inl T.1)), (al, .inl (cy, 65, .inl T.2.1)), (af, .inl (cy, 65, .inl T.2.2.1)), (ab, .inl (cy, 65, .inl T.2.2.2.1)), (ap, .inl (cy, 33, .inl T.2.2.2.2))] s.heap.size = A at hD ⊢
  have hA : ∀ q : Nat, s.heap.size ≤ q → A q := fun q h => by rw [← hAe]; exact Or.inr h
  clear hAe
  have hS : va_S A s.heap s.heap [] := va_S.rf
  have hl := lv_entry ([.ref a0, .int u0, .int u1]) (n := 6) (Nat.le_of_ble_eq_true rfl)
  rw [lg_entry_eq]
  generalize (lg_sl ([.ref a0, .int u0, .int u1]) ++ List.replicate (6 - (lg_sl ([.ref a0, .int u0, .int u1])).length) Slot.unset).toArray = ls at hl ⊢
  have hl : lv_has ls 6 [(0, .ref a0), (1, .int u0), (2, .int u1)] := hl
  refine lv_aload_n hx hb dX2_exchange_0 rfl (lv_at hl 0 rfl) ?_
  refine va_get (D := D) (ci := 2) (v := .ref aw) (C := RX2) (T := TX2) (N := 9) hx hb hts hinX2 hown hK hP 0 rfl rfl 0 (by decide) (hts (.fieldLink RX2 9 "CobblerCodes$Tree" "weight" "[I") (by decide +kernel)) (fun _ h9 => h9) rfl dX2_exchange_1 ?_
  refine lv_iload_n hx hb dX2_exchange_4 rfl (lv_at hl 1 rfl) ?_
  have hPc := hP.sub (ws' := [(aw, .inl (cy, 65, .inl T.1))]) [1] rfl
  refine cb_callSi (r0 := (atN 65 T.1 u0)) (va_runSN (As := [.ref aw, .int u0]) (rest := []) ⟨hx, hb, hml, hown, hts⟩ (kX3_at l D cy aw 65 T.1 u0 (by first | assumption | decide)) ⟨va_cnB 2 hts gX2_exchange_X3_at_n54 rfl rfl rfl (hnw (.methodLinkNest RX2 54 yX3_at RX3) (by decide +kernel)) (hts (.initialized RX3) (by decide +kernel)) (by decide +kernel) ⟨Nat.le_of_ble_eq_true rfl, Nat.le_of_ble_eq_true rfl⟩, hts (.static yX3_at) (by decide +kernel), trivial⟩ (cb_Pp.ps hK hPc hnw) rfl rfl hl.1 rfl (lv_room (Nat.le_of_ble_eq_true rfl)) dX2_exchange_5 ⟨Nat.le_of_ble_eq_true rfl, Nat.le_of_ble_eq_true rfl⟩) ?_
  refine lv_istore_n (lv' := [(3, .int (atN 65 T.1 u0)), (0, .ref a0), (1, .int u0), (2, .int u1)]) hx hb dX2_exchange_8 rfl hl (by decide) rfl (fun ls hl => ?_)
  refine lv_aload_n hx hb dX2_exchange_9 rfl (lv_at hl 1 rfl) ?_
  refine va_get (D := D) (ci := 2) (v := .ref al) (C := RX2) (T := TX2) (N := 9) hx hb hts hinX2 hown hK hP 0 rfl rfl 1 (by decide) (hts (.fieldLink RX2 15 "CobblerCodes$Tree" "leaf" "[I") (by decide +kernel)) (fun _ h9 => h9) rfl dX2_exchange_10 ?_
  refine lv_iload_n hx hb dX2_exchange_13 rfl (lv_at hl 2 rfl) ?_
  have hPc := hP.sub (ws' := [(al, .inl (cy, 65, .inl T.2.1))]) [2] rfl
  refine cb_callSi (r0 := (atN 65 T.2.1 u0)) (va_runSN (As := [.ref al, .int u0]) (rest := []) ⟨hx, hb, hml, hown, hts⟩ (kX3_at l D cy al 65 T.2.1 u0 (by first | assumption | decide)) ⟨va_cnB 2 hts gX2_exchange_X3_at_n54 rfl rfl rfl (hnw (.methodLinkNest RX2 54 yX3_at RX3) (by decide +kernel)) (hts (.initialized RX3) (by decide +kernel)) (by decide +kernel) ⟨Nat.le_of_ble_eq_true rfl, Nat.le_of_ble_eq_true rfl⟩, hts (.static yX3_at) (by decide +kernel), trivial⟩ (cb_Pp.ps hK hPc hnw) rfl rfl hl.1 rfl (lv_room (Nat.le_of_ble_eq_true rfl)) dX2_exchange_14 ⟨Nat.le_of_ble_eq_true rfl, Nat.le_of_ble_eq_true rfl⟩) ?_
  refine lv_istore (lv' := [(4, .int (atN 65 T.2.1 u0)), (3, .int (atN 65 T.1 u0)), (0, .ref a0), (1, .int u0), (2, .int u1)]) hx hb dX2_exchange_17 hl (by decide) rfl (fun ls hl => ?_)
  refine lv_aload_n hx hb dX2_exchange_19 rfl (lv_at hl 2 rfl) ?_
  refine va_get (D := D) (ci := 2) (v := .ref af) (C := RX2) (T := TX2) (N := 9) hx hb hts hinX2 hown hK hP 0 rfl rfl 2 (by decide) (hts (.fieldLink RX2 18 "CobblerCodes$Tree" "firstPart" "[I") (by decide +kernel)) (fun _ h9 => h9) rfl dX2_exchange_20 ?_
  refine lv_iload_n hx hb dX2_exchange_23 rfl (lv_at hl 3 rfl) ?_
  have hPc := hP.sub (ws' := [(af, .inl (cy, 65, .inl T.2.2.1))]) [3] rfl
  refine cb_callSi (r0 := (atN 65 T.2.2.1 u0)) (va_runSN (As := [.ref af, .int u0]) (rest := []) ⟨hx, hb, hml, hown, hts⟩ (kX3_at l D cy af 65 T.2.2.1 u0 (by first | assumption | decide)) ⟨va_cnB 2 hts gX2_exchange_X3_at_n54 rfl rfl rfl (hnw (.methodLinkNest RX2 54 yX3_at RX3) (by decide +kernel)) (hts (.initialized RX3) (by decide +kernel)) (by decide +kernel) ⟨Nat.le_of_ble_eq_true rfl, Nat.le_of_ble_eq_true rfl⟩, hts (.static yX3_at) (by decide +kernel), trivial⟩ (cb_Pp.ps hK hPc hnw) rfl rfl hl.1 rfl (lv_room (Nat.le_of_ble_eq_true rfl)) dX2_exchange_24 ⟨Nat.le_of_ble_eq_true rfl, Nat.le_of_ble_eq_true rfl⟩) ?_
  refine lv_istore (lv' := [(5, .int (atN 65 T.2.2.1 u0)), (4, .int (atN 65 T.2.1 u0)), (3, .int (atN 65 T.1 u0)), (0, .ref a0), (1, .int u0), (2, .int u1)]) hx hb dX2_exchange_27 hl (by decide) rfl (fun ls hl => ?_)
  refine lv_aload_n hx hb dX2_exchange_29 rfl (lv_at hl 3 rfl) ?_
  refine lv_iload_n hx hb dX2_exchange_30 rfl (lv_at hl 4 rfl) ?_
  refine lv_aload_n hx hb dX2_exchange_31 rfl (lv_at hl 3 rfl) ?_
  refine va_get (D := D) (ci := 2) (v := .ref aw) (C := RX2) (T := TX2) (N := 9) hx hb hts hinX2 hown hK hP 0 rfl rfl 0 (by decide) (hts (.fieldLink RX2 9 "CobblerCodes$Tree" "weight" "[I") (by decide +kernel)) (fun _ h9 => h9) rfl dX2_exchange_32 ?_
  refine lv_iload_n hx hb dX2_exchange_35 rfl (lv_at hl 5 rfl) ?_
  have hPc := hP.sub (ws' := [(aw, .inl (cy, 65, .inl T.1))]) [1] rfl
  refine cb_callSi (r0 := (atN 65 T.1 u1)) (va_runSN (As := [.ref aw, .int u1]) (rest := [.int u0, .ref a0]) ⟨hx, hb, hml, hown, hts⟩ (kX3_at l D cy aw 65 T.1 u1 (by first | assumption | decide)) ⟨va_cnB 2 hts gX2_exchange_X3_at_n54 rfl rfl rfl (hnw (.methodLinkNest RX2 54 yX3_at RX3) (by decide +kernel)) (hts (.initialized RX3) (by decide +kernel)) (by decide +kernel) ⟨Nat.le_of_ble_eq_true rfl, Nat.le_of_ble_eq_true rfl⟩, hts (.static yX3_at) (by decide +kernel), trivial⟩ (cb_Pp.ps hK hPc hnw) rfl rfl hl.1 rfl (lv_room (Nat.le_of_ble_eq_true rfl)) dX2_exchange_36 ⟨Nat.le_of_ble_eq_true rfl, Nat.le_of_ble_eq_true rfl⟩) ?_
  refine lv_aload_n hx hb dX2_exchange_39 rfl (lv_at hl 3 rfl) ?_
  refine va_get (D := D) (ci := 2) (v := .ref al) (C := RX2) (T := TX2) (N := 9) hx hb hts hinX2 hown hK hP 0 rfl rfl 1 (by decide) (hts (.fieldLink RX2 15 "CobblerCodes$Tree" "leaf" "[I") (by decide +kernel)) (fun _ h9 => h9) rfl dX2_exchange_40 ?_
  refine lv_iload_n hx hb dX2_exchange_43 rfl (lv_at hl 5 rfl) ?_
  have hPc := hP.sub (ws' := [(al, .inl (cy, 65, .inl T.2.1))]) [2] rfl
  refine cb_callSi (r0 := (atN 65 T.2.1 u1)) (va_runSN (As := [.ref al, .int u1]) (rest := [.int (atN 65 T.1 u1), .int u0, .ref a0]) ⟨hx, hb, hml, hown, hts⟩ (kX3_at l D cy al 65 T.2.1 u1 (by first | assumption | decide)) ⟨va_cnB 2 hts gX2_exchange_X3_at_n54 rfl rfl rfl (hnw (.methodLinkNest RX2 54 yX3_at RX3) (by decide +kernel)) (hts (.initialized RX3) (by decide +kernel)) (by decide +kernel) ⟨Nat.le_of_ble_eq_true rfl, Nat.le_of_ble_eq_true rfl⟩, hts (.static yX3_at) (by decide +kernel), trivial⟩ (cb_Pp.ps hK hPc hnw) rfl rfl hl.1 rfl (lv_room (Nat.le_of_ble_eq_true rfl)) dX2_exchange_44 ⟨Nat.le_of_ble_eq_true rfl, Nat.le_of_ble_eq_true rfl⟩) ?_
  refine lv_aload_n hx hb dX2_exchange_47 rfl (lv_at hl 3 rfl) ?_
  refine va_get (D := D) (ci := 2) (v := .ref af) (C := RX2) (T := TX2) (N := 9) hx hb hts hinX2 hown hK hP 0 rfl rfl 2 (by decide) (hts (.fieldLink RX2 18 "CobblerCodes$Tree" "firstPart" "[I") (by decide +kernel)) (fun _ h9 => h9) rfl dX2_exchange_48 ?_
  refine lv_iload_n hx hb dX2_exchange_51 rfl (lv_at hl 5 rfl) ?_
  have hPc := hP.sub (ws' := [(af, .inl (cy, 65, .inl T.2.2.1))]) [3] rfl
  refine cb_callSi (r0 := (atN 65 T.2.2.1 u1)) (va_runSN (As := [.ref af, .int u1]) (rest := [.int (atN 65 T.2.1 u1), .int (atN 65 T.1 u1), .int u0, .ref a0]) ⟨hx, hb, hml, hown, hts⟩ (kX3_at l D cy af 65 T.2.2.1 u1 (by first | assumption | decide)) ⟨va_cnB 2 hts gX2_exchange_X3_at_n54 rfl rfl rfl (hnw (.methodLinkNest RX2 54 yX3_at RX3) (by decide +kernel)) (hts (.initialized RX3) (by decide +kernel)) (by decide +kernel) ⟨Nat.le_of_ble_eq_true rfl, Nat.le_of_ble_eq_true rfl⟩, hts (.static yX3_at) (by decide +kernel), trivial⟩ (cb_Pp.ps hK hPc hnw) rfl rfl hl.1 rfl (lv_room (Nat.le_of_ble_eq_true rfl)) dX2_exchange_52 ⟨Nat.le_of_ble_eq_true rfl, Nat.le_of_ble_eq_true rfl⟩) ?_
  have hPc := hP.sub (ws' := [(a0, .inr (2, [.ref aw, .ref al, .ref af, .ref ab, .ref ap, .ref ah, .int sn, .int ex, .int wr])), (aw, .inl (cy, 65, .inl T.1)), (al, .inl (cy, 65, .inl T.2.1)), (af, .inl (cy, 65, .inl T.2.2.1)), (ab, .inl (cy, 65, .inl T.2.2.2.1)), (ap, .inl (cy, 33, .inl T.2.2.2.2))]) [0, 1, 2, 3, 4, 5] rfl
  have hDc := hD.sub (ws' := [(a0, .inr (2, [.ref aw, .ref al, .ref af, .ref ab, .ref ap, .ref ah, .int sn, .int ex, .int wr])), (aw, .inl (cy, 65, .inl T.1)), (al, .inl (cy, 65, .inl T.2.1)), (af, .inl (cy, 65, .inl T.2.2.1)), (ab, .inl (cy, 65, .inl T.2.2.2.1)), (ap, .inl (cy, 33, .inl T.2.2.2.2))]) [0, 1, 2, 3, 4, 5] (by decide) rfl
  refine cb_callQv (wc := [(a0, .inr (2, [.ref aw, .ref al, .ref af, .ref ab, .ref ap, .ref ah, .int sn, .int ex, .int wr])), (aw, .inl (cy, 65, .inl T.1)), (al, .inl (cy, 65, .inl T.2.1)), (af, .inl (cy, 65, .inl T.2.2.1)), (ab, .inl (cy, 65, .inl T.2.2.2.1)), (ap, .inl (cy, 33, .inl T.2.2.2.2))]) (wr := []) (wc' := [(a0, .inr (2, [.ref aw, .ref al, .ref af, .ref ab, .ref ap, .ref ah, .int sn, .int ex, .int wr])), (aw, .inl (cy, 65, .inl ((cPutNode T u0 (atN 65 T.1 u1) (atN 65 T.2.1 u1) (atN 65 T.2.2.1 u1)).1))), (al, .inl (cy, 65, .inl ((cPutNode T u0 (atN 65 T.1 u1) (atN 65 T.2.1 u1) (atN 65 T.2.2.1 u1)).2.1))), (af, .inl (cy, 65, .inl ((cPutNode T u0 (atN 65 T.1 u1) (atN 65 T.2.1 u1) (atN 65 T.2.2.1 u1)).2.2.1))), (ab, .inl (cy, 65, .inl ((cPutNode T u0 (atN 65 T.1 u1) (atN 65 T.2.1 u1) (atN 65 T.2.2.1 u1)).2.2.2.1))), (ap, .inl (cy, 33, .inl ((cPutNode T u0 (atN 65 T.1 u1) (atN 65 T.2.1 u1) (atN 65 T.2.2.1 u1)).2.2.2.2)))]) (ws2 := [(a0, .inr (2, [.ref aw, .ref al, .ref af, .ref ab, .ref ap, .ref ah, .int sn, .int ex, .int wr])), (aw, .inl (cy, 65, .inl ((cPutNode T u0 (atN 65 T.1 u1) (atN 65 T.2.1 u1) (atN 65 T.2.2.1 u1)).1))), (al, .inl (cy, 65, .inl ((cPutNode T u0 (atN 65 T.1 u1) (atN 65 T.2.1 u1) (atN 65 T.2.2.1 u1)).2.1))), (af, .inl (cy, 65, .inl ((cPutNode T u0 (atN 65 T.1 u1) (atN 65 T.2.1 u1) (atN 65 T.2.2.1 u1)).2.2.1))), (ab, .inl (cy, 65, .inl ((cPutNode T u0 (atN 65 T.1 u1) (atN 65 T.2.1 u1) (atN 65 T.2.2.1 u1)).2.2.2.1))), (ap, .inl (cy, 33, .inl ((cPutNode T u0 (atN 65 T.1 u1) (atN 65 T.2.1 u1) (atN 65 T.2.2.1 u1)).2.2.2.2)))]) hP hD hS hA [0, 1, 2, 3, 4, 5] [] [0, 1, 2, 3, 4, 5] (va_runV (As := [.int u0, .int (atN 65 T.1 u1), .int (atN 65 T.2.1 u1), .int (atN 65 T.2.2.1 u1)]) (rest := []) ⟨hx, hb, hml, hown, hts⟩ (kX2_putNode l D cy _ a0 aw al af ab ap ah T sn ex wr u0 (atN 65 T.1 u1) (atN 65 T.2.1 u1) (atN 65 T.2.2.1 u1)) (cwV 4 hts gX2_exchange_X2_putNode rfl rfl rfl (by decide +kernel) ⟨Nat.le_of_ble_eq_true rfl, Nat.le_of_ble_eq_true rfl⟩) (cb_Pw.pv hK hPc hDc hnw (ci := 2) (q0 := 0) rfl rfl) rfl rfl hl.1 rfl (lv_room (Nat.le_of_ble_eq_true rfl)) dX2_exchange_55 ⟨Nat.le_of_ble_eq_true rfl, Nat.le_of_ble_eq_true rfl⟩) rfl rfl (by decide) (by decide) rfl (by decide) (fun H locs hP hD hS => ?_)
  generalize eT2_1 : cPutNode T u0 (atN 65 T.1 u1) (atN 65 T.2.1 u1) (atN 65 T.2.2.1 u1) = T2_1 at hP hD ⊢
  refine lv_aload_n hx hb dX2_exchange_58 rfl (lv_at hl 3 rfl) ?_
  refine lv_iload_n hx hb dX2_exchange_59 rfl (lv_at hl 5 rfl) ?_
  refine lv_iload_n hx hb dX2_exchange_60 rfl (lv_at hl 2 rfl) ?_
  refine lv_iload hx hb dX2_exchange_61 (lv_at hl 1 rfl) ?_
  refine lv_iload hx hb dX2_exchange_63 (lv_at hl 0 rfl) ?_
  have hPc := hP.sub (ws' := [(a0, .inr (2, [.ref aw, .ref al, .ref af, .ref ab, .ref ap, .ref ah, .int sn, .int ex, .int wr])), (aw, .inl (cy, 65, .inl T2_1.1)), (al, .inl (cy, 65, .inl T2_1.2.1)), (af, .inl (cy, 65, .inl T2_1.2.2.1)), (ab, .inl (cy, 65, .inl T2_1.2.2.2.1)), (ap, .inl (cy, 33, .inl T2_1.2.2.2.2))]) [0, 1, 2, 3, 4, 5] rfl
  have hDc := hD.sub (ws' := [(a0, .inr (2, [.ref aw, .ref al, .ref af, .ref ab, .ref ap, .ref ah, .int sn, .int ex, .int wr])), (aw, .inl (cy, 65, .inl T2_1.1)), (al, .inl (cy, 65, .inl T2_1.2.1)), (af, .inl (cy, 65, .inl T2_1.2.2.1)), (ab, .inl (cy, 65, .inl T2_1.2.2.2.1)), (ap, .inl (cy, 33, .inl T2_1.2.2.2.2))]) [0, 1, 2, 3, 4, 5] (by decide) rfl
  refine cb_callQv (wc := [(a0, .inr (2, [.ref aw, .ref al, .ref af, .ref ab, .ref ap, .ref ah, .int sn, .int ex, .int wr])), (aw, .inl (cy, 65, .inl T2_1.1)), (al, .inl (cy, 65, .inl T2_1.2.1)), (af, .inl (cy, 65, .inl T2_1.2.2.1)), (ab, .inl (cy, 65, .inl T2_1.2.2.2.1)), (ap, .inl (cy, 33, .inl T2_1.2.2.2.2))]) (wr := []) (wc' := [(a0, .inr (2, [.ref aw, .ref al, .ref af, .ref ab, .ref ap, .ref ah, .int sn, .int ex, .int wr])), (aw, .inl (cy, 65, .inl ((cPutNode T2_1 u1 (atN 65 T.1 u0) (atN 65 T.2.1 u0) (atN 65 T.2.2.1 u0)).1))), (al, .inl (cy, 65, .inl ((cPutNode T2_1 u1 (atN 65 T.1 u0) (atN 65 T.2.1 u0) (atN 65 T.2.2.1 u0)).2.1))), (af, .inl (cy, 65, .inl ((cPutNode T2_1 u1 (atN 65 T.1 u0) (atN 65 T.2.1 u0) (atN 65 T.2.2.1 u0)).2.2.1))), (ab, .inl (cy, 65, .inl ((cPutNode T2_1 u1 (atN 65 T.1 u0) (atN 65 T.2.1 u0) (atN 65 T.2.2.1 u0)).2.2.2.1))), (ap, .inl (cy, 33, .inl ((cPutNode T2_1 u1 (atN 65 T.1 u0) (atN 65 T.2.1 u0) (atN 65 T.2.2.1 u0)).2.2.2.2)))]) (ws2 := [(a0, .inr (2, [.ref aw, .ref al, .ref af, .ref ab, .ref ap, .ref ah, .int sn, .int ex, .int wr])), (aw, .inl (cy, 65, .inl ((cPutNode T2_1 u1 (atN 65 T.1 u0) (atN 65 T.2.1 u0) (atN 65 T.2.2.1 u0)).1))), (al, .inl (cy, 65, .inl ((cPutNode T2_1 u1 (atN 65 T.1 u0) (atN 65 T.2.1 u0) (atN 65 T.2.2.1 u0)).2.1))), (af, .inl (cy, 65, .inl ((cPutNode T2_1 u1 (atN 65 T.1 u0) (atN 65 T.2.1 u0) (atN 65 T.2.2.1 u0)).2.2.1))), (ab, .inl (cy, 65, .inl ((cPutNode T2_1 u1 (atN 65 T.1 u0) (atN 65 T.2.1 u0) (atN 65 T.2.2.1 u0)).2.2.2.1))), (ap, .inl (cy, 33, .inl ((cPutNode T2_1 u1 (atN 65 T.1 u0) (atN 65 T.2.1 u0) (atN 65 T.2.2.1 u0)).2.2.2.2)))]) hP hD hS hA [0, 1, 2, 3, 4, 5] [] [0, 1, 2, 3, 4, 5] (va_runV (As := [.int u1, .int (atN 65 T.1 u0), .int (atN 65 T.2.1 u0), .int (atN 65 T.2.2.1 u0)]) (rest := []) ⟨hx, hb, hml, hown, hts⟩ (kX2_putNode l D cy _ a0 aw al af ab ap ah T2_1 sn ex wr u1 (atN 65 T.1 u0) (atN 65 T.2.1 u0) (atN 65 T.2.2.1 u0)) (cwV 4 hts gX2_exchange_X2_putNode rfl rfl rfl (by decide +kernel) ⟨Nat.le_of_ble_eq_true rfl, Nat.le_of_ble_eq_true rfl⟩) (cb_Pw.pv hK hPc hDc hnw (ci := 2) (q0 := 0) rfl rfl) rfl rfl hl.1 rfl (lv_room (Nat.le_of_ble_eq_true rfl)) dX2_exchange_65 ⟨Nat.le_of_ble_eq_true rfl, Nat.le_of_ble_eq_true rfl⟩) rfl rfl (by decide) (by decide) rfl (by decide) (fun H locs hP hD hS => ?_)
  generalize eT2_2 : cPutNode T2_1 u1 (atN 65 T.1 u0) (atN 65 T.2.1 u0) (atN 65 T.2.2.1 u0) = T2_2 at hP hD ⊢
  exact cb_endQv hx hb hr hlocks hP hD hK hS (by subst eT2_2; subst eT2_1; rfl) (by omega) (by omega) dX2_exchange_68

set_option maxHeartbeats 4000000 in
set_option maxRecDepth 100000 in
theorem kX2_learn (l : Launch) (D : va_G) (cy : ClassId) (sz : Nat) (a0 aw al af ab ap ah : Nat) (T : N5) (sn ex wr : Int32) (u0 : Int32) : Met l yX2_learn wsX2_learn ({ frames := 2, cells := 0, slots := 0, locals := 46 }) (cb_Pw D (cb_tys cy) [(a0, .inr (2, [.ref aw, .ref al, .ref af, .ref ab, .ref ap, .ref ah, .int sn, .int ex, .int wr])), (aw, .inl (cy, 65, .inl T.1)), (al, .inl (cy, 65, .inl T.2.1)), (af, .inl (cy, 65, .inl T.2.2.1)), (ab, .inl (cy, 65, .inl T.2.2.2.1)), (ap, .inl (cy, 33, .inl T.2.2.2.2))] sz [.ref a0, .int u0]) (cb_Qv D (cb_tys cy) (va_A [(a0, .inr (2, [.ref aw, .ref al, .ref af, .ref ab, .ref ap, .ref ah, .int sn, .int ex, .int wr])), (aw, .inl (cy, 65, .inl T.1)), (al, .inl (cy, 65, .inl T.2.1)), (af, .inl (cy, 65, .inl T.2.2.1)), (ab, .inl (cy, 65, .inl T.2.2.2.1)), (ap, .inl (cy, 33, .inl T.2.2.2.2))] sz) [(a0, .inr (2, [.ref aw, .ref al, .ref af, .ref ab, .ref ap, .ref ah, .int (sn + 2), .int ex, .int wr])), (aw, .inl (cy, 65, .inl (cLearn T sn u0).1)), (al, .inl (cy, 65, .inl (cLearn T sn u0).2.1)), (af, .inl (cy, 65, .inl (cLearn T sn u0).2.2.1)), (ab, .inl (cy, 65, .inl (cLearn T sn u0).2.2.2.1)), (ap, .inl (cy, 33, .inl (cLearn T sn u0).2.2.2.2))]) 0 0 (va_A [(a0, .inr (2, [.ref aw, .ref al, .ref af, .ref ab, .ref ap, .ref ah, .int sn, .int ex, .int wr])), (aw, .inl (cy, 65, .inl T.1)), (al, .inl (cy, 65, .inl T.2.1)), (af, .inl (cy, 65, .inl T.2.2.1)), (ab, .inl (cy, 65, .inl T.2.2.2.1)), (ap, .inl (cy, 33, .inl T.2.2.2.2))] sz) := by
  refine Met.ofW (cc := cX2_learn) (maxL := 4) (ret := none) (by decide) rfl ?_
  intro p e s m args below meth c s₁ B hml hv
  obtain ⟨rfl, hsz, hP, hK, hD0, hnw⟩ := hv
  have hx := B.exec
  have hb := B.bytes
  have hr := B.returns
  have hts := atoms_spec (ws := wsX2_learn) B.pre
  have hown : s.vm.findClass RX2 = some m.cls := findClass_of_methodNamed B.named
  have hlocks := B.notSynchronized
  have hinX2 : ∀ w ∈ wsX20, w ∈ wsX2_learn := by decide +kernel
  subst hsz
  have hD := hD0.self (sz := s.heap.size)
  generalize hAe : va_A [(a0, .inr (2, [.ref aw, .ref al, .ref af, .ref ab, .ref ap, .ref ah, .int sn, .int ex, .int wr])), (aw, .inl (cy, 65, .inl T.1)), (al, .inl (cy, 65, .inl T.2.1)), (af, .inl (cy, 65, .inl T.2.2.1)), (ab, .inl (cy, 65, .inl T.2.2.2.1)), (ap, .inl (cy, 33, .inl T.2.2.2.2))] s.heap.size = A at hD ⊢
  have hA : ∀ q : Nat, s.heap.size ≤ q → A q := fun q h => by rw [← hAe]; exact Or.inr h
  clear hAe
  have hS : va_S A s.heap s.heap [] := va_S.rf
  have hl := lv_entry ([.ref a0, .int u0]) (n := 4) (Nat.le_of_ble_eq_true rfl)
  rw [lg_entry_eq]
  generalize (lg_sl ([.ref a0, .int u0]) ++ List.replicate (4 - (lg_sl ([.ref a0, .int u0])).length) Slot.unset).toArray = ls at hl ⊢
  have hl : lv_has ls 4 [(0, .ref a0), (1, .int u0)] := hl
  refine lv_aload_n hx hb dX2_learn_0 rfl (lv_at hl 0 rfl) ?_
  refine va_get (D := D) (ci := 2) (v := .ref ap) (C := RX2) (T := TX2) (N := 9) hx hb hts hinX2 hown hK hP 0 rfl rfl 4 (by decide) (hts (.fieldLink RX2 24 "CobblerCodes$Tree" "placeOf" "[I") (by decide +kernel)) (fun _ h9 => h9) rfl dX2_learn_1 ?_
  refine lv_bipush (v := 32) hx hb dX2_learn_4 (by decide) ?_
  have hPc := hP.sub (ws' := [(ap, .inl (cy, 33, .inl T.2.2.2.2))]) [5] rfl
  refine cb_callSi (r0 := (atN 33 T.2.2.2.2 32)) (va_runSN (As := [.ref ap, .int 32]) (rest := []) ⟨hx, hb, hml, hown, hts⟩ (kX3_at l D cy ap 33 T.2.2.2.2 32 (by first | assumption | decide)) ⟨va_cnB 2 hts gX2_learn_X3_at_n54 rfl rfl rfl (hnw (.methodLinkNest RX2 54 yX3_at RX3) (by decide +kernel)) (hts (.initialized RX3) (by decide +kernel)) (by decide +kernel) ⟨Nat.le_of_ble_eq_true rfl, Nat.le_of_ble_eq_true rfl⟩, hts (.static yX3_at) (by decide +kernel), trivial⟩ (cb_Pp.ps hK hPc hnw) rfl rfl hl.1 rfl (lv_room (Nat.le_of_ble_eq_true rfl)) dX2_learn_6 ⟨Nat.le_of_ble_eq_true rfl, Nat.le_of_ble_eq_true rfl⟩) ?_
  refine lv_istore_n (lv' := [(2, .int (atN 33 T.2.2.2.2 32)), (0, .ref a0), (1, .int u0)]) hx hb dX2_learn_9 rfl hl (by decide) rfl (fun ls hl => ?_)
  refine lv_aload_n hx hb dX2_learn_10 rfl (lv_at hl 1 rfl) ?_
  refine va_get (D := D) (ci := 2) (v := .int sn) (C := RX2) (T := TX2) (N := 9) hx hb hts hinX2 hown hK hP 0 rfl rfl 6 (by decide) (hts (.fieldLink RX2 40 "CobblerCodes$Tree" "size" "I") (by decide +kernel)) (fun _ h9 => h9) rfl dX2_learn_11 ?_
  refine lv_istore_n (lv' := [(3, .int sn), (2, .int (atN 33 T.2.2.2.2 32)), (0, .ref a0), (1, .int u0)]) hx hb dX2_learn_14 rfl hl (by decide) rfl (fun ls hl => ?_)
  refine lv_aload_n hx hb dX2_learn_15 rfl (lv_at hl 2 rfl) ?_
  refine lv_dup hx hb dX2_learn_16 rfl ?_
  refine va_get (D := D) (ci := 2) (v := .int sn) (C := RX2) (T := TX2) (N := 9) hx hb hts hinX2 hown hK hP 0 rfl rfl 6 (by decide) (hts (.fieldLink RX2 40 "CobblerCodes$Tree" "size" "I") (by decide +kernel)) (fun _ h9 => h9) rfl dX2_learn_17 ?_
  refine lv_iconst (v := 2) hx hb dX2_learn_20 (by decide) ?_
  refine lv_iadd hx hb dX2_learn_21 ?_
  refine va_put (D := D) (ci := 2) (v := .int (sn + 2)) (ty := .int) (C := RX2) (T := TX2) (N := 9) hx hb hts hinX2 tyX2 tyX2_ok nmX2 hown hK hP hD hS 0 rfl rfl 6 (by decide) (hts (.fieldLink RX2 40 "CobblerCodes$Tree" "size" "I") (by decide +kernel)) (fun _ h9 => h9) rfl (by decide +kernel) rfl rfl (Nat.le_of_ble_eq_true rfl) dX2_learn_22 (fun H locs hP hD hS => ?_)
  have hP : va_P D vwCl [(a0, .inr (2, [.ref aw, .ref al, .ref af, .ref ab, .ref ap, .ref ah, .int (sn + 2), .int ex, .int wr])), (aw, .inl (cy, 65, .inl T.1)), (al, .inl (cy, 65, .inl T.2.1)), (af, .inl (cy, 65, .inl T.2.2.1)), (ab, .inl (cy, 65, .inl T.2.2.2.1)), (ap, .inl (cy, 33, .inl T.2.2.2.2))] H := hP
  have hD : va_D A [(a0, .inr (2, [.ref aw, .ref al, .ref af, .ref ab, .ref ap, .ref ah, .int (sn + 2), .int ex, .int wr])), (aw, .inl (cy, 65, .inl T.1)), (al, .inl (cy, 65, .inl T.2.1)), (af, .inl (cy, 65, .inl T.2.2.1)), (ab, .inl (cy, 65, .inl T.2.2.2.1)), (ap, .inl (cy, 33, .inl T.2.2.2.2))] := hD
  refine lv_aload_n hx hb dX2_learn_25 rfl (lv_at hl 2 rfl) ?_
  refine lv_iload_n hx hb dX2_learn_26 rfl (lv_at hl 1 rfl) ?_
  refine lv_iconst (v := 1) hx hb dX2_learn_27 (by decide) ?_
  refine lv_iconst (v := (-1)) hx hb dX2_learn_28 (by decide) ?_
  refine lv_iload_n hx hb dX2_learn_29 rfl (lv_at hl 0 rfl) ?_
  have hPc := hP.sub (ws' := [(a0, .inr (2, [.ref aw, .ref al, .ref af, .ref ab, .ref ap, .ref ah, .int (sn + 2), .int ex, .int wr])), (aw, .inl (cy, 65, .inl T.1)), (al, .inl (cy, 65, .inl T.2.1)), (af, .inl (cy, 65, .inl T.2.2.1)), (ab, .inl (cy, 65, .inl T.2.2.2.1)), (ap, .inl (cy, 33, .inl T.2.2.2.2))]) [0, 1, 2, 3, 4, 5] rfl
  have hDc := hD.sub (ws' := [(a0, .inr (2, [.ref aw, .ref al, .ref af, .ref ab, .ref ap, .ref ah, .int (sn + 2), .int ex, .int wr])), (aw, .inl (cy, 65, .inl T.1)), (al, .inl (cy, 65, .inl T.2.1)), (af, .inl (cy, 65, .inl T.2.2.1)), (ab, .inl (cy, 65, .inl T.2.2.2.1)), (ap, .inl (cy, 33, .inl T.2.2.2.2))]) [0, 1, 2, 3, 4, 5] (by decide) rfl
  refine cb_callQv (wc := [(a0, .inr (2, [.ref aw, .ref al, .ref af, .ref ab, .ref ap, .ref ah, .int (sn + 2), .int ex, .int wr])), (aw, .inl (cy, 65, .inl T.1)), (al, .inl (cy, 65, .inl T.2.1)), (af, .inl (cy, 65, .inl T.2.2.1)), (ab, .inl (cy, 65, .inl T.2.2.2.1)), (ap, .inl (cy, 33, .inl T.2.2.2.2))]) (wr := []) (wc' := [(a0, .inr (2, [.ref aw, .ref al, .ref af, .ref ab, .ref ap, .ref ah, .int (sn + 2), .int ex, .int wr])), (aw, .inl (cy, 65, .inl ((cPutNode T (atN 33 T.2.2.2.2 32) 1 (-1) sn).1))), (al, .inl (cy, 65, .inl ((cPutNode T (atN 33 T.2.2.2.2 32) 1 (-1) sn).2.1))), (af, .inl (cy, 65, .inl ((cPutNode T (atN 33 T.2.2.2.2 32) 1 (-1) sn).2.2.1))), (ab, .inl (cy, 65, .inl ((cPutNode T (atN 33 T.2.2.2.2 32) 1 (-1) sn).2.2.2.1))), (ap, .inl (cy, 33, .inl ((cPutNode T (atN 33 T.2.2.2.2 32) 1 (-1) sn).2.2.2.2)))]) (ws2 := [(a0, .inr (2, [.ref aw, .ref al, .ref af, .ref ab, .ref ap, .ref ah, .int (sn + 2), .int ex, .int wr])), (aw, .inl (cy, 65, .inl ((cPutNode T (atN 33 T.2.2.2.2 32) 1 (-1) sn).1))), (al, .inl (cy, 65, .inl ((cPutNode T (atN 33 T.2.2.2.2 32) 1 (-1) sn).2.1))), (af, .inl (cy, 65, .inl ((cPutNode T (atN 33 T.2.2.2.2 32) 1 (-1) sn).2.2.1))), (ab, .inl (cy, 65, .inl ((cPutNode T (atN 33 T.2.2.2.2 32) 1 (-1) sn).2.2.2.1))), (ap, .inl (cy, 33, .inl ((cPutNode T (atN 33 T.2.2.2.2 32) 1 (-1) sn).2.2.2.2)))]) hP hD hS hA [0, 1, 2, 3, 4, 5] [] [0, 1, 2, 3, 4, 5] (va_runV (As := [.int (atN 33 T.2.2.2.2 32), .int 1, .int (-1), .int sn]) (rest := []) ⟨hx, hb, hml, hown, hts⟩ (kX2_putNode l D cy _ a0 aw al af ab ap ah T (sn + 2) ex wr (atN 33 T.2.2.2.2 32) 1 (-1) sn) (cwV 4 hts gX2_learn_X2_putNode rfl rfl rfl (by decide +kernel) ⟨Nat.le_of_ble_eq_true rfl, Nat.le_of_ble_eq_true rfl⟩) (cb_Pw.pv hK hPc hDc hnw (ci := 2) (q0 := 0) rfl rfl) rfl rfl hl.1 rfl (lv_room (Nat.le_of_ble_eq_true rfl)) dX2_learn_30 ⟨Nat.le_of_ble_eq_true rfl, Nat.le_of_ble_eq_true rfl⟩) rfl rfl (by decide) (by decide) rfl (by decide) (fun H locs hP hD hS => ?_)
  generalize eT2_1 : cPutNode T (atN 33 T.2.2.2.2 32) 1 (-1) sn = T2_1 at hP hD ⊢
  refine lv_aload_n hx hb dX2_learn_33 rfl (lv_at hl 2 rfl) ?_
  refine lv_iload_n hx hb dX2_learn_34 rfl (lv_at hl 0 rfl) ?_
  refine lv_iconst (v := 1) hx hb dX2_learn_35 (by decide) ?_
  refine lv_bipush (v := 32) hx hb dX2_learn_36 (by decide) ?_
  refine lv_iconst (v := (-1)) hx hb dX2_learn_38 (by decide) ?_
  have hPc := hP.sub (ws' := [(a0, .inr (2, [.ref aw, .ref al, .ref af, .ref ab, .ref ap, .ref ah, .int (sn + 2), .int ex, .int wr])), (aw, .inl (cy, 65, .inl T2_1.1)), (al, .inl (cy, 65, .inl T2_1.2.1)), (af, .inl (cy, 65, .inl T2_1.2.2.1)), (ab, .inl (cy, 65, .inl T2_1.2.2.2.1)), (ap, .inl (cy, 33, .inl T2_1.2.2.2.2))]) [0, 1, 2, 3, 4, 5] rfl
  have hDc := hD.sub (ws' := [(a0, .inr (2, [.ref aw, .ref al, .ref af, .ref ab, .ref ap, .ref ah, .int (sn + 2), .int ex, .int wr])), (aw, .inl (cy, 65, .inl T2_1.1)), (al, .inl (cy, 65, .inl T2_1.2.1)), (af, .inl (cy, 65, .inl T2_1.2.2.1)), (ab, .inl (cy, 65, .inl T2_1.2.2.2.1)), (ap, .inl (cy, 33, .inl T2_1.2.2.2.2))]) [0, 1, 2, 3, 4, 5] (by decide) rfl
  refine cb_callQv (wc := [(a0, .inr (2, [.ref aw, .ref al, .ref af, .ref ab, .ref ap, .ref ah, .int (sn + 2), .int ex, .int wr])), (aw, .inl (cy, 65, .inl T2_1.1)), (al, .inl (cy, 65, .inl T2_1.2.1)), (af, .inl (cy, 65, .inl T2_1.2.2.1)), (ab, .inl (cy, 65, .inl T2_1.2.2.2.1)), (ap, .inl (cy, 33, .inl T2_1.2.2.2.2))]) (wr := []) (wc' := [(a0, .inr (2, [.ref aw, .ref al, .ref af, .ref ab, .ref ap, .ref ah, .int (sn + 2), .int ex, .int wr])), (aw, .inl (cy, 65, .inl ((cPutNode T2_1 sn 1 32 (-1)).1))), (al, .inl (cy, 65, .inl ((cPutNode T2_1 sn 1 32 (-1)).2.1))), (af, .inl (cy, 65, .inl ((cPutNode T2_1 sn 1 32 (-1)).2.2.1))), (ab, .inl (cy, 65, .inl ((cPutNode T2_1 sn 1 32 (-1)).2.2.2.1))), (ap, .inl (cy, 33, .inl ((cPutNode T2_1 sn 1 32 (-1)).2.2.2.2)))]) (ws2 := [(a0, .inr (2, [.ref aw, .ref al, .ref af, .ref ab, .ref ap, .ref ah, .int (sn + 2), .int ex, .int wr])), (aw, .inl (cy, 65, .inl ((cPutNode T2_1 sn 1 32 (-1)).1))), (al, .inl (cy, 65, .inl ((cPutNode T2_1 sn 1 32 (-1)).2.1))), (af, .inl (cy, 65, .inl ((cPutNode T2_1 sn 1 32 (-1)).2.2.1))), (ab, .inl (cy, 65, .inl ((cPutNode T2_1 sn 1 32 (-1)).2.2.2.1))), (ap, .inl (cy, 33, .inl ((cPutNode T2_1 sn 1 32 (-1)).2.2.2.2)))]) hP hD hS hA [0, 1, 2, 3, 4, 5] [] [0, 1, 2, 3, 4, 5] (va_runV (As := [.int sn, .int 1, .int 32, .int (-1)]) (rest := []) ⟨hx, hb, hml, hown, hts⟩ (kX2_putNode l D cy _ a0 aw al af ab ap ah T2_1 (sn + 2) ex wr sn 1 32 (-1)) (cwV 4 hts gX2_learn_X2_putNode rfl rfl rfl (by decide +kernel) ⟨Nat.le_of_ble_eq_true rfl, Nat.le_of_ble_eq_true rfl⟩) (cb_Pw.pv hK hPc hDc hnw (ci := 2) (q0 := 0) rfl rfl) rfl rfl hl.1 rfl (lv_room (Nat.le_of_ble_eq_true rfl)) dX2_learn_39 ⟨Nat.le_of_ble_eq_true rfl, Nat.le_of_ble_eq_true rfl⟩) rfl rfl (by decide) (by decide) rfl (by decide) (fun H locs hP hD hS => ?_)
  generalize eT2_2 : cPutNode T2_1 sn 1 32 (-1) = T2_2 at hP hD ⊢
  refine lv_aload_n hx hb dX2_learn_42 rfl (lv_at hl 2 rfl) ?_
  refine lv_iload_n hx hb dX2_learn_43 rfl (lv_at hl 0 rfl) ?_
  refine lv_iconst (v := 1) hx hb dX2_learn_44 (by decide) ?_
  refine lv_iadd hx hb dX2_learn_45 ?_
  refine lv_iconst (v := 0) hx hb dX2_learn_46 (by decide) ?_
  refine lv_iload_n hx hb dX2_learn_47 rfl (lv_at hl 3 rfl) ?_
  refine lv_iconst (v := (-1)) hx hb dX2_learn_48 (by decide) ?_
  have hPc := hP.sub (ws' := [(a0, .inr (2, [.ref aw, .ref al, .ref af, .ref ab, .ref ap, .ref ah, .int (sn + 2), .int ex, .int wr])), (aw, .inl (cy, 65, .inl T2_2.1)), (al, .inl (cy, 65, .inl T2_2.2.1)), (af, .inl (cy, 65, .inl T2_2.2.2.1)), (ab, .inl (cy, 65, .inl T2_2.2.2.2.1)), (ap, .inl (cy, 33, .inl T2_2.2.2.2.2))]) [0, 1, 2, 3, 4, 5] rfl
  have hDc := hD.sub (ws' := [(a0, .inr (2, [.ref aw, .ref al, .ref af, .ref ab, .ref ap, .ref ah, .int (sn + 2), .int ex, .int wr])), (aw, .inl (cy, 65, .inl T2_2.1)), (al, .inl (cy, 65, .inl T2_2.2.1)), (af, .inl (cy, 65, .inl T2_2.2.2.1)), (ab, .inl (cy, 65, .inl T2_2.2.2.2.1)), (ap, .inl (cy, 33, .inl T2_2.2.2.2.2))]) [0, 1, 2, 3, 4, 5] (by decide) rfl
  refine cb_callQv (wc := [(a0, .inr (2, [.ref aw, .ref al, .ref af, .ref ab, .ref ap, .ref ah, .int (sn + 2), .int ex, .int wr])), (aw, .inl (cy, 65, .inl T2_2.1)), (al, .inl (cy, 65, .inl T2_2.2.1)), (af, .inl (cy, 65, .inl T2_2.2.2.1)), (ab, .inl (cy, 65, .inl T2_2.2.2.2.1)), (ap, .inl (cy, 33, .inl T2_2.2.2.2.2))]) (wr := []) (wc' := [(a0, .inr (2, [.ref aw, .ref al, .ref af, .ref ab, .ref ap, .ref ah, .int (sn + 2), .int ex, .int wr])), (aw, .inl (cy, 65, .inl ((cPutNode T2_2 (sn + 1) 0 u0 (-1)).1))), (al, .inl (cy, 65, .inl ((cPutNode T2_2 (sn + 1) 0 u0 (-1)).2.1))), (af, .inl (cy, 65, .inl ((cPutNode T2_2 (sn + 1) 0 u0 (-1)).2.2.1))), (ab, .inl (cy, 65, .inl ((cPutNode T2_2 (sn + 1) 0 u0 (-1)).2.2.2.1))), (ap, .inl (cy, 33, .inl ((cPutNode T2_2 (sn + 1) 0 u0 (-1)).2.2.2.2)))]) (ws2 := [(a0, .inr (2, [.ref aw, .ref al, .ref af, .ref ab, .ref ap, .ref ah, .int (sn + 2), .int ex, .int wr])), (aw, .inl (cy, 65, .inl ((cPutNode T2_2 (sn + 1) 0 u0 (-1)).1))), (al, .inl (cy, 65, .inl ((cPutNode T2_2 (sn + 1) 0 u0 (-1)).2.1))), (af, .inl (cy, 65, .inl ((cPutNode T2_2 (sn + 1) 0 u0 (-1)).2.2.1))), (ab, .inl (cy, 65, .inl ((cPutNode T2_2 (sn + 1) 0 u0 (-1)).2.2.2.1))), (ap, .inl (cy, 33, .inl ((cPutNode T2_2 (sn + 1) 0 u0 (-1)).2.2.2.2)))]) hP hD hS hA [0, 1, 2, 3, 4, 5] [] [0, 1, 2, 3, 4, 5] (va_runV (As := [.int (sn + 1), .int 0, .int u0, .int (-1)]) (rest := []) ⟨hx, hb, hml, hown, hts⟩ (kX2_putNode l D cy _ a0 aw al af ab ap ah T2_2 (sn + 2) ex wr (sn + 1) 0 u0 (-1)) (cwV 4 hts gX2_learn_X2_putNode rfl rfl rfl (by decide +kernel) ⟨Nat.le_of_ble_eq_true rfl, Nat.le_of_ble_eq_true rfl⟩) (cb_Pw.pv hK hPc hDc hnw (ci := 2) (q0 := 0) rfl rfl) rfl rfl hl.1 rfl (lv_room (Nat.le_of_ble_eq_true rfl)) dX2_learn_49 ⟨Nat.le_of_ble_eq_true rfl, Nat.le_of_ble_eq_true rfl⟩) rfl rfl (by decide) (by decide) rfl (by decide) (fun H locs hP hD hS => ?_)
  generalize eT2_3 : cPutNode T2_2 (sn + 1) 0 u0 (-1) = T2_3 at hP hD ⊢
  exact cb_endQv hx hb hr hlocks hP hD hK hS (by subst eT2_3; subst eT2_2; subst eT2_1; rfl) (by omega) (by omega) dX2_learn_52

set_option maxHeartbeats 4000000 in
set_option maxRecDepth 100000 in
theorem kX2_makeHeavier (l : Launch) (D : va_G) (cy : ClassId) (sz : Nat) (a0 aw al af ab ap ah : Nat) (T : N5) (sn ex wr : Int32) (u0 : Int32) : Met l yX2_makeHeavier wsX2_makeHeavier ({ frames := 3, cells := 0, slots := 0, locals := 71 }) (cb_Pw D (cb_tys cy) [(a0, .inr (2, [.ref aw, .ref al, .ref af, .ref ab, .ref ap, .ref ah, .int sn, .int ex, .int wr])), (aw, .inl (cy, 65, .inl T.1)), (al, .inl (cy, 65, .inl T.2.1)), (af, .inl (cy, 65, .inl T.2.2.1)), (ab, .inl (cy, 65, .inl T.2.2.2.1)), (ap, .inl (cy, 33, .inl T.2.2.2.2))] sz [.ref a0, .int u0]) (cb_Qv D (cb_tys cy) (va_A [(a0, .inr (2, [.ref aw, .ref al, .ref af, .ref ab, .ref ap, .ref ah, .int sn, .int ex, .int wr])), (aw, .inl (cy, 65, .inl T.1)), (al, .inl (cy, 65, .inl T.2.1)), (af, .inl (cy, 65, .inl T.2.2.1)), (ab, .inl (cy, 65, .inl T.2.2.2.1)), (ap, .inl (cy, 33, .inl T.2.2.2.2))] sz) [(a0, .inr (2, [.ref aw, .ref al, .ref af, .ref ab, .ref ap, .ref ah, .int sn, .int (cHeavy T ex u0).2, .int wr])), (aw, .inl (cy, 65, .inl (cHeavy T ex u0).1.1)), (al, .inl (cy, 65, .inl (cHeavy T ex u0).1.2.1)), (af, .inl (cy, 65, .inl (cHeavy T ex u0).1.2.2.1)), (ab, .inl (cy, 65, .inl (cHeavy T ex u0).1.2.2.2.1)), (ap, .inl (cy, 33, .inl (cHeavy T ex u0).1.2.2.2.2))]) 0 0 (va_A [(a0, .inr (2, [.ref aw, .ref al, .ref af, .ref ab, .ref ap, .ref ah, .int sn, .int ex, .int wr])), (aw, .inl (cy, 65, .inl T.1)), (al, .inl (cy, 65, .inl T.2.1)), (af, .inl (cy, 65, .inl T.2.2.1)), (ab, .inl (cy, 65, .inl T.2.2.2.1)), (ap, .inl (cy, 33, .inl T.2.2.2.2))] sz) := by
  refine Met.ofW (cc := cX2_makeHeavier) (maxL := 5) (ret := none) (by decide) rfl ?_
  intro p e s m args below meth c s₁ B hml hv
  obtain ⟨rfl, hsz, hP, hK, hD0, hnw⟩ := hv
  have hx := B.exec
  have hb := B.bytes
  have hr := B.returns
  have hts := atoms_spec (ws := wsX2_makeHeavier) B.pre
  have hown : s.vm.findClass RX2 = some m.cls := findClass_of_methodNamed B.named
  have hlocks := B.notSynchronized
  have hinX2 : ∀ w ∈ wsX20, w ∈ wsX2_makeHeavier := by decide +kernel
  subst hsz
  have hD := hD0.self (sz := s.heap.size)
  generalize hAe : va_A [(a0, .inr (2, [.ref aw, .ref al, .ref af, .ref ab, .ref ap, .ref ah, .int sn, .int ex, .int wr])), (aw, .inl (cy, 65, .inl T.1)), (al, .inl (cy, 65, .inl T.2.1)), (af, .inl (cy, 65, .inl T.2.2.1)), (ab, .inl (cy, 65, .inl T.2.2.2.1)), (ap, .inl (cy, 33, .inl T.2.2.2.2))] s.heap.size = A at hD ⊢
  have hA : ∀ q : Nat, s.heap.size ≤ q → A q := fun q h => by rw [← hAe]; exact Or.inr h
  clear hAe
  have hS : va_S A s.heap s.heap [] := va_S.rf
  have hl := lv_entry ([.ref a0, .int u0]) (n := 5) (Nat.le_of_ble_eq_true rfl)
  rw [lg_entry_eq]
  generalize (lg_sl ([.ref a0, .int u0]) ++ List.replicate (5 - (lg_sl ([.ref a0, .int u0])).length) Slot.unset).toArray = ls at hl ⊢
  have hl : lv_has ls 5 [(0, .ref a0), (1, .int u0)] := hl
  refine lv_aload_n hx hb dX2_makeHeavier_0 rfl (lv_at hl 0 rfl) ?_
  refine va_get (D := D) (ci := 2) (v := .ref ap) (C := RX2) (T := TX2) (N := 9) hx hb hts hinX2 hown hK hP 0 rfl rfl 4 (by decide) (hts (.fieldLink RX2 24 "CobblerCodes$Tree" "placeOf" "[I") (by decide +kernel)) (fun _ h9 => h9) rfl dX2_makeHeavier_1 ?_
  refine lv_iload_n hx hb dX2_makeHeavier_4 rfl (lv_at hl 1 rfl) ?_
  have hPc := hP.sub (ws' := [(ap, .inl (cy, 33, .inl T.2.2.2.2))]) [5] rfl
  refine cb_callSi (r0 := (atN 33 T.2.2.2.2 u0)) (va_runSN (As := [.ref ap, .int u0]) (rest := []) ⟨hx, hb, hml, hown, hts⟩ (kX3_at l D cy ap 33 T.2.2.2.2 u0 (by first | assumption | decide)) ⟨va_cnB 2 hts gX2_makeHeavier_X3_at_n54 rfl rfl rfl (hnw (.methodLinkNest RX2 54 yX3_at RX3) (by decide +kernel)) (hts (.initialized RX3) (by decide +kernel)) (by decide +kernel) ⟨Nat.le_of_ble_eq_true rfl, Nat.le_of_ble_eq_true rfl⟩, hts (.static yX3_at) (by decide +kernel), trivial⟩ (cb_Pp.ps hK hPc hnw) rfl rfl hl.1 rfl (lv_room (Nat.le_of_ble_eq_true rfl)) dX2_makeHeavier_5 ⟨Nat.le_of_ble_eq_true rfl, Nat.le_of_ble_eq_true rfl⟩) ?_
  refine lv_istore_n (lv' := [(2, .int (atN 33 T.2.2.2.2 u0)), (0, .ref a0), (1, .int u0)]) hx hb dX2_makeHeavier_8 rfl hl (by decide) rfl (fun ls hl => ?_)
  refine lv_iconst (v := 0) hx hb dX2_makeHeavier_9 (by decide) ?_
  refine lv_istore_n (lv' := [(3, .int 0), (2, .int (atN 33 T.2.2.2.2 u0)), (0, .ref a0), (1, .int u0)]) hx hb dX2_makeHeavier_10 rfl hl (by decide) rfl (fun ls hl => ?_)
  have L11 : ∀ (k : Nat) (T1 : N5) (e1 x2 x3 : Int32), k ≤ 65 → x3 = nI (65 - k) → cHeavyL k T1 e1 x2 = cHeavy T ex u0 → ∀ (H : Heap) (locs : List Loc), va_P D vwCl [(a0, .inr (2, [.ref aw, .ref al, .ref af, .ref ab, .ref ap, .ref ah, .int sn, .int e1, .int wr])), (aw, .inl (cy, 65, .inl T1.1)), (al, .inl (cy, 65, .inl T1.2.1)), (af, .inl (cy, 65, .inl T1.2.2.1)), (ab, .inl (cy, 65, .inl T1.2.2.2.1)), (ap, .inl (cy, 33, .inl T1.2.2.2.2))] H → va_D A [(a0, .inr (2, [.ref aw, .ref al, .ref af, .ref ab, .ref ap, .ref ah, .int sn, .int e1, .int wr])), (aw, .inl (cy, 65, .inl T1.1)), (al, .inl (cy, 65, .inl T1.2.1)), (af, .inl (cy, 65, .inl T1.2.2.1)), (ab, .inl (cy, 65, .inl T1.2.2.2.1)), (ap, .inl (cy, 33, .inl T1.2.2.2.2))] → va_S A s.heap H locs → ∀ (ls : Array Slot), lv_has ls 5 [(0, .ref a0), (1, .int u0), (2, .int x2), (3, .int x3)] → W p l e ({ frames := 3, cells := 0, slots := 0, locals := 71 } : Room) s m [.ref a0, .int u0].toArray below meth c H locs 0 0 (MQ below (cb_Qv D (cb_tys cy) A [(a0, .inr (2, [.ref aw, .ref al, .ref af, .ref ab, .ref ap, .ref ah, .int sn, .int (cHeavy T ex u0).2, .int wr])), (aw, .inl (cy, 65, .inl (cHeavy T ex u0).1.1)), (al, .inl (cy, 65, .inl (cHeavy T ex u0).1.2.1)), (af, .inl (cy, 65, .inl (cHeavy T ex u0).1.2.2.1)), (ab, .inl (cy, 65, .inl (cHeavy T ex u0).1.2.2.2.1)), (ap, .inl (cy, 33, .inl (cHeavy T ex u0).1.2.2.2.2))]) [.ref a0, .int u0].toArray s 0 0 A) (F0 m 11 ls []) := by
    clear hP hD hS hl
    intro k
    induction k with
    | zero =>
      intro T1 e1 x2 x3 hk e3 hT H locs hP hD hS ls hl
      refine lv_iload_n hx hb dX2_makeHeavier_11 rfl (lv_at hl 2 rfl) ?_
      refine lv_iconst (v := (-1)) hx hb dX2_makeHeavier_12 (by decide) ?_
      refine lv_icmp_eq (tgt := 88) hx hb dX2_makeHeavier_13 (by decide) (fun c_1 => ?_) (fun c_1 => ?_)
      · exact cb_endQv hx hb hr hlocks hP hD hK hS (by rw [← hT]; rfl) (by omega) (by omega) dX2_makeHeavier_88
      · refine lv_iload_n hx hb dX2_makeHeavier_16 rfl (lv_at hl 3 rfl) ?_
        refine lv_bipush (v := 65) hx hb dX2_makeHeavier_17 (by decide) ?_
        refine lv_icmp_ge (tgt := 88) hx hb dX2_makeHeavier_19 (by decide) (fun c_2 => ?_) (fun c9 => absurd (by rw [e3]; decide) c9)
        exact cb_endQv hx hb hr hlocks hP hD hK hS (by rw [← hT]; rfl) (by omega) (by omega) dX2_makeHeavier_88
    | succ k ih =>
      intro T1 e1 x2 x3 hk e3 hT H locs hP hD hS ls hl
      refine lv_iload_n hx hb dX2_makeHeavier_11 rfl (lv_at hl 2 rfl) ?_
      refine lv_iconst (v := (-1)) hx hb dX2_makeHeavier_12 (by decide) ?_
      refine lv_icmp_eq (tgt := 88) hx hb dX2_makeHeavier_13 (by decide) (fun c_3 => ?_) (fun c_3 => ?_)
      · exact cb_endQv hx hb hr hlocks hP hD hK hS (by rw [← hT]; simp only [cHeavyL, if_pos c_3]; try rfl) (by omega) (by omega) dX2_makeHeavier_88
      · refine lv_iload_n hx hb dX2_makeHeavier_16 rfl (lv_at hl 3 rfl) ?_
        refine lv_bipush (v := 65) hx hb dX2_makeHeavier_17 (by decide) ?_
        refine lv_icmp_ge (tgt := 88) hx hb dX2_makeHeavier_19 (by decide) (fun c9 => absurd c9 (by rw [e3]; exact nI_ge (b := 65) (by omega) (by decide))) (fun c_4 => ?_)
        refine lv_aload_n hx hb dX2_makeHeavier_22 rfl (lv_at hl 0 rfl) ?_
        refine lv_iload_n hx hb dX2_makeHeavier_23 rfl (lv_at hl 2 rfl) ?_
        have hPc := hP.sub (ws' := [(a0, .inr (2, [.ref aw, .ref al, .ref af, .ref ab, .ref ap, .ref ah, .int sn, .int e1, .int wr])), (aw, .inl (cy, 65, .inl T1.1)), (al, .inl (cy, 65, .inl T1.2.1)), (af, .inl (cy, 65, .inl T1.2.2.1)), (ab, .inl (cy, 65, .inl T1.2.2.2.1)), (ap, .inl (cy, 33, .inl T1.2.2.2.2))]) [0, 1, 2, 3, 4, 5] rfl
        refine cb_callSi (r0 := (cFirst T1.1 x2)) (va_runV (As := [.int x2]) (rest := []) ⟨hx, hb, hml, hown, hts⟩ (kX2_firstAsHeavyAs l D cy a0 aw al af ab ap ah T1 sn e1 wr x2) (cwV 1 hts gX2_makeHeavier_X2_firstAsHeavyAs rfl rfl rfl (by decide +kernel) ⟨Nat.le_of_ble_eq_true rfl, Nat.le_of_ble_eq_true rfl⟩) (cb_Pp.pv hK hPc hnw (ci := 2) (q0 := 0) rfl rfl) rfl rfl hl.1 rfl (lv_room (Nat.le_of_ble_eq_true rfl)) dX2_makeHeavier_24 ⟨Nat.le_of_ble_eq_true rfl, Nat.le_of_ble_eq_true rfl⟩) ?_
        refine lv_istore (lv' := [(4, .int (cFirst T1.1 x2)), (0, .ref a0), (1, .int u0), (2, .int x2), (3, .int x3)]) hx hb dX2_makeHeavier_27 hl (by decide) rfl (fun ls hl => ?_)
        refine lv_iload hx hb dX2_makeHeavier_29 (lv_at hl 0 rfl) ?_
        refine lv_iload_n hx hb dX2_makeHeavier_31 rfl (lv_at hl 3 rfl) ?_
        refine lv_icmp_eq (tgt := 52) hx hb dX2_makeHeavier_32 (by decide) (fun c_5 => ?_) (fun c_5 => ?_)
        · refine lv_aload_n hx hb dX2_makeHeavier_52 rfl (lv_at hl 1 rfl) ?_
          refine va_get (D := D) (ci := 2) (v := .ref aw) (C := RX2) (T := TX2) (N := 9) hx hb hts hinX2 hown hK hP 0 rfl rfl 0 (by decide) (hts (.fieldLink RX2 9 "CobblerCodes$Tree" "weight" "[I") (by decide +kernel)) (fun _ h9 => h9) rfl dX2_makeHeavier_53 ?_
          refine lv_iload hx hb dX2_makeHeavier_56 (lv_at hl 0 rfl) ?_
          refine lv_aload_n hx hb dX2_makeHeavier_58 rfl (lv_at hl 1 rfl) ?_
          refine va_get (D := D) (ci := 2) (v := .ref aw) (C := RX2) (T := TX2) (N := 9) hx hb hts hinX2 hown hK hP 0 rfl rfl 0 (by decide) (hts (.fieldLink RX2 9 "CobblerCodes$Tree" "weight" "[I") (by decide +kernel)) (fun _ h9 => h9) rfl dX2_makeHeavier_59 ?_
          refine lv_iload hx hb dX2_makeHeavier_62 (lv_at hl 0 rfl) ?_
          have hPc := hP.sub (ws' := [(aw, .inl (cy, 65, .inl T1.1))]) [1] rfl
          refine cb_callSi (r0 := (atN 65 T1.1 (cFirst T1.1 x2))) (va_runSN (As := [.ref aw, .int (cFirst T1.1 x2)]) (rest := [.int (cFirst T1.1 x2), .ref aw]) ⟨hx, hb, hml, hown, hts⟩ (kX3_at l D cy aw 65 T1.1 (cFirst T1.1 x2) (by first | assumption | decide)) ⟨va_cnB 2 hts gX2_makeHeavier_X3_at_n54 rfl rfl rfl (hnw (.methodLinkNest RX2 54 yX3_at RX3) (by decide +kernel)) (hts (.initialized RX3) (by decide +kernel)) (by decide +kernel) ⟨Nat.le_of_ble_eq_true rfl, Nat.le_of_ble_eq_true rfl⟩, hts (.static yX3_at) (by decide +kernel), trivial⟩ (cb_Pp.ps hK hPc hnw) rfl rfl hl.1 rfl (lv_room (Nat.le_of_ble_eq_true rfl)) dX2_makeHeavier_64 ⟨Nat.le_of_ble_eq_true rfl, Nat.le_of_ble_eq_true rfl⟩) ?_
          refine lv_iconst (v := 1) hx hb dX2_makeHeavier_67 (by decide) ?_
          refine lv_iadd hx hb dX2_makeHeavier_68 ?_
          have hPc := hP.sub (ws' := [(aw, .inl (cy, 65, .inl T1.1))]) [1] rfl
          have hDc := hD.sub (ws' := [(aw, .inl (cy, 65, .inl T1.1))]) [1] (by decide) rfl
          refine cb_callQv (wc := [(aw, .inl (cy, 65, .inl T1.1))]) (wr := [(a0, .inr (2, [.ref aw, .ref al, .ref af, .ref ab, .ref ap, .ref ah, .int sn, .int e1, .int wr])), (al, .inl (cy, 65, .inl T1.2.1)), (af, .inl (cy, 65, .inl T1.2.2.1)), (ab, .inl (cy, 65, .inl T1.2.2.2.1)), (ap, .inl (cy, 33, .inl T1.2.2.2.2))]) (wc' := [(aw, .inl (cy, 65, .inl (putN 65 T1.1 (cFirst T1.1 x2) ((atN 65 T1.1 (cFirst T1.1 x2)) + 1))))]) (ws2 := [(a0, .inr (2, [.ref aw, .ref al, .ref af, .ref ab, .ref ap, .ref ah, .int sn, .int e1, .int wr])), (aw, .inl (cy, 65, .inl (putN 65 T1.1 (cFirst T1.1 x2) ((atN 65 T1.1 (cFirst T1.1 x2)) + 1)))), (al, .inl (cy, 65, .inl T1.2.1)), (af, .inl (cy, 65, .inl T1.2.2.1)), (ab, .inl (cy, 65, .inl T1.2.2.2.1)), (ap, .inl (cy, 33, .inl T1.2.2.2.2))]) hP hD hS hA [1] [0, 2, 3, 4, 5] [0, 5, 1, 2, 3, 4] (va_runSN (As := [.ref aw, .int (cFirst T1.1 x2), .int ((atN 65 T1.1 (cFirst T1.1 x2)) + 1)]) (rest := []) ⟨hx, hb, hml, hown, hts⟩ (kX3_put l D cy _ aw 65 T1.1 (cFirst T1.1 x2) ((atN 65 T1.1 (cFirst T1.1 x2)) + 1) (by first | assumption | decide)) ⟨va_cnB 3 hts gX2_makeHeavier_X3_put_n68 rfl rfl rfl (hnw (.methodLinkNest RX2 68 yX3_put RX3) (by decide +kernel)) (hts (.initialized RX3) (by decide +kernel)) (by decide +kernel) ⟨Nat.le_of_ble_eq_true rfl, Nat.le_of_ble_eq_true rfl⟩, hts (.static yX3_put) (by decide +kernel), trivial⟩ (cb_Pw.ps hK hPc hDc hnw) rfl rfl hl.1 rfl (lv_room (Nat.le_of_ble_eq_true rfl)) dX2_makeHeavier_69 ⟨Nat.le_of_ble_eq_true rfl, Nat.le_of_ble_eq_true rfl⟩) rfl rfl (by decide) (by decide) rfl (by decide) (fun H locs hP hD hS => ?_)
          refine lv_aload_n hx hb dX2_makeHeavier_72 rfl (lv_at hl 1 rfl) ?_
          refine va_get (D := D) (ci := 2) (v := .ref ab) (C := RX2) (T := TX2) (N := 9) hx hb hts hinX2 hown hK hP 0 rfl rfl 3 (by decide) (hts (.fieldLink RX2 21 "CobblerCodes$Tree" "above" "[I") (by decide +kernel)) (fun _ h9 => h9) rfl dX2_makeHeavier_73 ?_
          refine lv_iload hx hb dX2_makeHeavier_76 (lv_at hl 0 rfl) ?_
          have hPc := hP.sub (ws' := [(ab, .inl (cy, 65, .inl T1.2.2.2.1))]) [4] rfl
          refine cb_callSi (r0 := (atN 65 T1.2.2.2.1 (cFirst T1.1 x2))) (va_runSN (As := [.ref ab, .int (cFirst T1.1 x2)]) (rest := []) ⟨hx, hb, hml, hown, hts⟩ (kX3_at l D cy ab 65 T1.2.2.2.1 (cFirst T1.1 x2) (by first | assumption | decide)) ⟨va_cnB 2 hts gX2_makeHeavier_X3_at_n54 rfl rfl rfl (hnw (.methodLinkNest RX2 54 yX3_at RX3) (by decide +kernel)) (hts (.initialized RX3) (by decide +kernel)) (by decide +kernel) ⟨Nat.le_of_ble_eq_true rfl, Nat.le_of_ble_eq_true rfl⟩, hts (.static yX3_at) (by decide +kernel), trivial⟩ (cb_Pp.ps hK hPc hnw) rfl rfl hl.1 rfl (lv_room (Nat.le_of_ble_eq_true rfl)) dX2_makeHeavier_78 ⟨Nat.le_of_ble_eq_true rfl, Nat.le_of_ble_eq_true rfl⟩) ?_
          refine lv_istore_n (lv' := [(2, .int (atN 65 T1.2.2.2.1 (cFirst T1.1 x2))), (4, .int (cFirst T1.1 x2)), (0, .ref a0), (1, .int u0), (3, .int x3)]) hx hb dX2_makeHeavier_81 rfl hl (by decide) rfl (fun ls hl => ?_)
          refine lv_iinc (v := x3 + 1) (lv' := [(3, .int (x3 + 1)), (2, .int (atN 65 T1.2.2.2.1 (cFirst T1.1 x2))), (4, .int (cFirst T1.1 x2)), (0, .ref a0), (1, .int u0)]) hx hb dX2_makeHeavier_82 hl (k := 4) rfl rfl (by decide) rfl (fun ls hl => ?_)
          refine lv_goto (tgt := 11) hx hb dX2_makeHeavier_85 (by decide) ?_
          exact ih (putN 65 T1.1 (cFirst T1.1 x2) ((atN 65 T1.1 (cFirst T1.1 x2)) + 1), T1.2) _ _ _ (by omega) (by rw [e3, nI_1]; congr 1; omega) (by rw [← hT]; simp only [cHeavyL, if_neg c_3, if_neg c_4, if_pos c_5]; try rfl) _ _ hP hD hS ls (lv_sub hl [3, 4, 1, 0] rfl)
        · refine lv_aload_n hx hb dX2_makeHeavier_35 rfl (lv_at hl 1 rfl) ?_
          refine lv_iload_n hx hb dX2_makeHeavier_36 rfl (lv_at hl 3 rfl) ?_
          refine lv_iload hx hb dX2_makeHeavier_37 (lv_at hl 0 rfl) ?_
          have hPc := hP.sub (ws' := [(a0, .inr (2, [.ref aw, .ref al, .ref af, .ref ab, .ref ap, .ref ah, .int sn, .int e1, .int wr])), (aw, .inl (cy, 65, .inl T1.1)), (al, .inl (cy, 65, .inl T1.2.1)), (af, .inl (cy, 65, .inl T1.2.2.1)), (ab, .inl (cy, 65, .inl T1.2.2.2.1)), (ap, .inl (cy, 33, .inl T1.2.2.2.2))]) [0, 1, 2, 3, 4, 5] rfl
          have hDc := hD.sub (ws' := [(a0, .inr (2, [.ref aw, .ref al, .ref af, .ref ab, .ref ap, .ref ah, .int sn, .int e1, .int wr])), (aw, .inl (cy, 65, .inl T1.1)), (al, .inl (cy, 65, .inl T1.2.1)), (af, .inl (cy, 65, .inl T1.2.2.1)), (ab, .inl (cy, 65, .inl T1.2.2.2.1)), (ap, .inl (cy, 33, .inl T1.2.2.2.2))]) [0, 1, 2, 3, 4, 5] (by decide) rfl
          refine cb_callQv (wc := [(a0, .inr (2, [.ref aw, .ref al, .ref af, .ref ab, .ref ap, .ref ah, .int sn, .int e1, .int wr])), (aw, .inl (cy, 65, .inl T1.1)), (al, .inl (cy, 65, .inl T1.2.1)), (af, .inl (cy, 65, .inl T1.2.2.1)), (ab, .inl (cy, 65, .inl T1.2.2.2.1)), (ap, .inl (cy, 33, .inl T1.2.2.2.2))]) (wr := []) (wc' := [(a0, .inr (2, [.ref aw, .ref al, .ref af, .ref ab, .ref ap, .ref ah, .int sn, .int e1, .int wr])), (aw, .inl (cy, 65, .inl ((cExch T1 x2 (cFirst T1.1 x2)).1))), (al, .inl (cy, 65, .inl ((cExch T1 x2 (cFirst T1.1 x2)).2.1))), (af, .inl (cy, 65, .inl ((cExch T1 x2 (cFirst T1.1 x2)).2.2.1))), (ab, .inl (cy, 65, .inl ((cExch T1 x2 (cFirst T1.1 x2)).2.2.2.1))), (ap, .inl (cy, 33, .inl ((cExch T1 x2 (cFirst T1.1 x2)).2.2.2.2)))]) (ws2 := [(a0, .inr (2, [.ref aw, .ref al, .ref af, .ref ab, .ref ap, .ref ah, .int sn, .int e1, .int wr])), (aw, .inl (cy, 65, .inl ((cExch T1 x2 (cFirst T1.1 x2)).1))), (al, .inl (cy, 65, .inl ((cExch T1 x2 (cFirst T1.1 x2)).2.1))), (af, .inl (cy, 65, .inl ((cExch T1 x2 (cFirst T1.1 x2)).2.2.1))), (ab, .inl (cy, 65, .inl ((cExch T1 x2 (cFirst T1.1 x2)).2.2.2.1))), (ap, .inl (cy, 33, .inl ((cExch T1 x2 (cFirst T1.1 x2)).2.2.2.2)))]) hP hD hS hA [0, 1, 2, 3, 4, 5] [] [0, 1, 2, 3, 4, 5] (va_runV (As := [.int x2, .int (cFirst T1.1 x2)]) (rest := []) ⟨hx, hb, hml, hown, hts⟩ (kX2_exchange l D cy _ a0 aw al af ab ap ah T1 sn e1 wr x2 (cFirst T1.1 x2)) (cwV 2 hts gX2_makeHeavier_X2_exchange rfl rfl rfl (by decide +kernel) ⟨Nat.le_of_ble_eq_true rfl, Nat.le_of_ble_eq_true rfl⟩) (cb_Pw.pv hK hPc hDc hnw (ci := 2) (q0 := 0) rfl rfl) rfl rfl hl.1 rfl (lv_room (Nat.le_of_ble_eq_true rfl)) dX2_makeHeavier_39 ⟨Nat.le_of_ble_eq_true rfl, Nat.le_of_ble_eq_true rfl⟩) rfl rfl (by decide) (by decide) rfl (by decide) (fun H locs hP hD hS => ?_)
          generalize eT2_6 : cExch T1 x2 (cFirst T1.1 x2) = T2_6 at hP hD ⊢
          refine lv_aload_n hx hb dX2_makeHeavier_42 rfl (lv_at hl 1 rfl) ?_
          refine lv_dup hx hb dX2_makeHeavier_43 rfl ?_
          refine va_get (D := D) (ci := 2) (v := .int e1) (C := RX2) (T := TX2) (N := 9) hx hb hts hinX2 hown hK hP 0 rfl rfl 7 (by decide) (hts (.fieldLink RX2 79 "CobblerCodes$Tree" "exchanges" "I") (by decide +kernel)) (fun _ h9 => h9) rfl dX2_makeHeavier_44 ?_
          refine lv_iconst (v := 1) hx hb dX2_makeHeavier_47 (by decide) ?_
          refine lv_iadd hx hb dX2_makeHeavier_48 ?_
          refine va_put (D := D) (ci := 2) (v := .int (e1 + 1)) (ty := .int) (C := RX2) (T := TX2) (N := 9) hx hb hts hinX2 tyX2 tyX2_ok nmX2 hown hK hP hD hS 0 rfl rfl 7 (by decide) (hts (.fieldLink RX2 79 "CobblerCodes$Tree" "exchanges" "I") (by decide +kernel)) (fun _ h9 => h9) rfl (by decide +kernel) rfl rfl (Nat.le_of_ble_eq_true rfl) dX2_makeHeavier_49 (fun H locs hP hD hS => ?_)
          have hP : va_P D vwCl [(a0, .inr (2, [.ref aw, .ref al, .ref af, .ref ab, .ref ap, .ref ah, .int sn, .int (e1 + 1), .int wr])), (aw, .inl (cy, 65, .inl T2_6.1)), (al, .inl (cy, 65, .inl T2_6.2.1)), (af, .inl (cy, 65, .inl T2_6.2.2.1)), (ab, .inl (cy, 65, .inl T2_6.2.2.2.1)), (ap, .inl (cy, 33, .inl T2_6.2.2.2.2))] H := hP
          have hD : va_D A [(a0, .inr (2, [.ref aw, .ref al, .ref af, .ref ab, .ref ap, .ref ah, .int sn, .int (e1 + 1), .int wr])), (aw, .inl (cy, 65, .inl T2_6.1)), (al, .inl (cy, 65, .inl T2_6.2.1)), (af, .inl (cy, 65, .inl T2_6.2.2.1)), (ab, .inl (cy, 65, .inl T2_6.2.2.2.1)), (ap, .inl (cy, 33, .inl T2_6.2.2.2.2))] := hD
          refine lv_aload_n hx hb dX2_makeHeavier_52 rfl (lv_at hl 1 rfl) ?_
          refine va_get (D := D) (ci := 2) (v := .ref aw) (C := RX2) (T := TX2) (N := 9) hx hb hts hinX2 hown hK hP 0 rfl rfl 0 (by decide) (hts (.fieldLink RX2 9 "CobblerCodes$Tree" "weight" "[I") (by decide +kernel)) (fun _ h9 => h9) rfl dX2_makeHeavier_53 ?_
          refine lv_iload hx hb dX2_makeHeavier_56 (lv_at hl 0 rfl) ?_
          refine lv_aload_n hx hb dX2_makeHeavier_58 rfl (lv_at hl 1 rfl) ?_
          refine va_get (D := D) (ci := 2) (v := .ref aw) (C := RX2) (T := TX2) (N := 9) hx hb hts hinX2 hown hK hP 0 rfl rfl 0 (by decide) (hts (.fieldLink RX2 9 "CobblerCodes$Tree" "weight" "[I") (by decide +kernel)) (fun _ h9 => h9) rfl dX2_makeHeavier_59 ?_
          refine lv_iload hx hb dX2_makeHeavier_62 (lv_at hl 0 rfl) ?_
          have hPc := hP.sub (ws' := [(aw, .inl (cy, 65, .inl T2_6.1))]) [1] rfl
          refine cb_callSi (r0 := (atN 65 T2_6.1 (cFirst T1.1 x2))) (va_runSN (As := [.ref aw, .int (cFirst T1.1 x2)]) (rest := [.int (cFirst T1.1 x2), .ref aw]) ⟨hx, hb, hml, hown, hts⟩ (kX3_at l D cy aw 65 T2_6.1 (cFirst T1.1 x2) (by first | assumption | decide)) ⟨va_cnB 2 hts gX2_makeHeavier_X3_at_n54 rfl rfl rfl (hnw (.methodLinkNest RX2 54 yX3_at RX3) (by decide +kernel)) (hts (.initialized RX3) (by decide +kernel)) (by decide +kernel) ⟨Nat.le_of_ble_eq_true rfl, Nat.le_of_ble_eq_true rfl⟩, hts (.static yX3_at) (by decide +kernel), trivial⟩ (cb_Pp.ps hK hPc hnw) rfl rfl hl.1 rfl (lv_room (Nat.le_of_ble_eq_true rfl)) dX2_makeHeavier_64 ⟨Nat.le_of_ble_eq_true rfl, Nat.le_of_ble_eq_true rfl⟩) ?_
          refine lv_iconst (v := 1) hx hb dX2_makeHeavier_67 (by decide) ?_
          refine lv_iadd hx hb dX2_makeHeavier_68 ?_
          have hPc := hP.sub (ws' := [(aw, .inl (cy, 65, .inl T2_6.1))]) [1] rfl
          have hDc := hD.sub (ws' := [(aw, .inl (cy, 65, .inl T2_6.1))]) [1] (by decide) rfl
          refine cb_callQv (wc := [(aw, .inl (cy, 65, .inl T2_6.1))]) (wr := [(a0, .inr (2, [.ref aw, .ref al, .ref af, .ref ab, .ref ap, .ref ah, .int sn, .int (e1 + 1), .int wr])), (al, .inl (cy, 65, .inl T2_6.2.1)), (af, .inl (cy, 65, .inl T2_6.2.2.1)), (ab, .inl (cy, 65, .inl T2_6.2.2.2.1)), (ap, .inl (cy, 33, .inl T2_6.2.2.2.2))]) (wc' := [(aw, .inl (cy, 65, .inl (putN 65 T2_6.1 (cFirst T1.1 x2) ((atN 65 T2_6.1 (cFirst T1.1 x2)) + 1))))]) (ws2 := [(a0, .inr (2, [.ref aw, .ref al, .ref af, .ref ab, .ref ap, .ref ah, .int sn, .int (e1 + 1), .int wr])), (aw, .inl (cy, 65, .inl (putN 65 T2_6.1 (cFirst T1.1 x2) ((atN 65 T2_6.1 (cFirst T1.1 x2)) + 1)))), (al, .inl (cy, 65, .inl T2_6.2.1)), (af, .inl (cy, 65, .inl T2_6.2.2.1)), (ab, .inl (cy, 65, .inl T2_6.2.2.2.1)), (ap, .inl (cy, 33, .inl T2_6.2.2.2.2))]) hP hD hS hA [1] [0, 2, 3, 4, 5] [0, 5, 1, 2, 3, 4] (va_runSN (As := [.ref aw, .int (cFirst T1.1 x2), .int ((atN 65 T2_6.1 (cFirst T1.1 x2)) + 1)]) (rest := []) ⟨hx, hb, hml, hown, hts⟩ (kX3_put l D cy _ aw 65 T2_6.1 (cFirst T1.1 x2) ((atN 65 T2_6.1 (cFirst T1.1 x2)) + 1) (by first | assumption | decide)) ⟨va_cnB 3 hts gX2_makeHeavier_X3_put_n68 rfl rfl rfl (hnw (.methodLinkNest RX2 68 yX3_put RX3) (by decide +kernel)) (hts (.initialized RX3) (by decide +kernel)) (by decide +kernel) ⟨Nat.le_of_ble_eq_true rfl, Nat.le_of_ble_eq_true rfl⟩, hts (.static yX3_put) (by decide +kernel), trivial⟩ (cb_Pw.ps hK hPc hDc hnw) rfl rfl hl.1 rfl (lv_room (Nat.le_of_ble_eq_true rfl)) dX2_makeHeavier_69 ⟨Nat.le_of_ble_eq_true rfl, Nat.le_of_ble_eq_true rfl⟩) rfl rfl (by decide) (by decide) rfl (by decide) (fun H locs hP hD hS => ?_)
          refine lv_aload_n hx hb dX2_makeHeavier_72 rfl (lv_at hl 1 rfl) ?_
          refine va_get (D := D) (ci := 2) (v := .ref ab) (C := RX2) (T := TX2) (N := 9) hx hb hts hinX2 hown hK hP 0 rfl rfl 3 (by decide) (hts (.fieldLink RX2 21 "CobblerCodes$Tree" "above" "[I") (by decide +kernel)) (fun _ h9 => h9) rfl dX2_makeHeavier_73 ?_
          refine lv_iload hx hb dX2_makeHeavier_76 (lv_at hl 0 rfl) ?_
          have hPc := hP.sub (ws' := [(ab, .inl (cy, 65, .inl T2_6.2.2.2.1))]) [4] rfl
          refine cb_callSi (r0 := (atN 65 T2_6.2.2.2.1 (cFirst T1.1 x2))) (va_runSN (As := [.ref ab, .int (cFirst T1.1 x2)]) (rest := []) ⟨hx, hb, hml, hown, hts⟩ (kX3_at l D cy ab 65 T2_6.2.2.2.1 (cFirst T1.1 x2) (by first | assumption | decide)) ⟨va_cnB 2 hts gX2_makeHeavier_X3_at_n54 rfl rfl rfl (hnw (.methodLinkNest RX2 54 yX3_at RX3) (by decide +kernel)) (hts (.initialized RX3) (by decide +kernel)) (by decide +kernel) ⟨Nat.le_of_ble_eq_true rfl, Nat.le_of_ble_eq_true rfl⟩, hts (.static yX3_at) (by decide +kernel), trivial⟩ (cb_Pp.ps hK hPc hnw) rfl rfl hl.1 rfl (lv_room (Nat.le_of_ble_eq_true rfl)) dX2_makeHeavier_78 ⟨Nat.le_of_ble_eq_true rfl, Nat.le_of_ble_eq_true rfl⟩) ?_
          refine lv_istore_n (lv' := [(2, .int (atN 65 T2_6.2.2.2.1 (cFirst T1.1 x2))), (4, .int (cFirst T1.1 x2)), (0, .ref a0), (1, .int u0), (3, .int x3)]) hx hb dX2_makeHeavier_81 rfl hl (by decide) rfl (fun ls hl => ?_)
          refine lv_iinc (v := x3 + 1) (lv' := [(3, .int (x3 + 1)), (2, .int (atN 65 T2_6.2.2.2.1 (cFirst T1.1 x2))), (4, .int (cFirst T1.1 x2)), (0, .ref a0), (1, .int u0)]) hx hb dX2_makeHeavier_82 hl (k := 4) rfl rfl (by decide) rfl (fun ls hl => ?_)
          refine lv_goto (tgt := 11) hx hb dX2_makeHeavier_85 (by decide) ?_
          exact ih (putN 65 T2_6.1 (cFirst T1.1 x2) ((atN 65 T2_6.1 (cFirst T1.1 x2)) + 1), T2_6.2) _ _ _ (by omega) (by rw [e3, nI_1]; congr 1; omega) (by subst eT2_6; rw [← hT]; simp only [cHeavyL, if_neg c_3, if_neg c_4, if_neg c_5]; try rfl) _ _ hP hD hS ls (lv_sub hl [3, 4, 1, 0] rfl)
  exact L11 65 T ex _ 0 (Nat.le_refl 65) rfl rfl _ _ hP hD hS ls (lv_sub hl [2, 3, 1, 0] rfl)
end
section
set_option maxHeartbeats 4000000 in
set_option maxRecDepth 100000 in
theorem kX2_takeLightest (l : Launch) (D : va_G) (cy : ClassId) (sz : Nat) (a0 aw al af ab ap ah gw gl gf : Nat) (T : N5) (sn ex wr : Int32) (hh : H3) (hs : Int32) (u0 : Int32) : Met l yX2_takeLightest wsX2_takeLightest ({ frames := 2, cells := 0, slots := 0, locals := 46 }) (cb_Pw D (cb_tys cy) [(a0, .inr (2, [.ref aw, .ref al, .ref af, .ref ab, .ref ap, .ref ah, .int sn, .int ex, .int wr])), (aw, .inl (cy, 65, .inl T.1)), (al, .inl (cy, 65, .inl T.2.1)), (af, .inl (cy, 65, .inl T.2.2.1)), (ab, .inl (cy, 65, .inl T.2.2.2.1)), (ap, .inl (cy, 33, .inl T.2.2.2.2)), (ah, .inr (0, [.ref gw, .ref gl, .ref gf, .int hs])), (gw, .inl (cy, 65, .inl hh.1)), (gl, .inl (cy, 65, .inl hh.2.1)), (gf, .inl (cy, 65, .inl hh.2.2))] sz [.ref a0, .int u0]) (cb_Qi D (cb_tys cy) (va_A [(a0, .inr (2, [.ref aw, .ref al, .ref af, .ref ab, .ref ap, .ref ah, .int sn, .int ex, .int wr])), (aw, .inl (cy, 65, .inl T.1)), (al, .inl (cy, 65, .inl T.2.1)), (af, .inl (cy, 65, .inl T.2.2.1)), (ab, .inl (cy, 65, .inl T.2.2.2.1)), (ap, .inl (cy, 33, .inl T.2.2.2.2)), (ah, .inr (0, [.ref gw, .ref gl, .ref gf, .int hs])), (gw, .inl (cy, 65, .inl hh.1)), (gl, .inl (cy, 65, .inl hh.2.1)), (gf, .inl (cy, 65, .inl hh.2.2))] sz) [(a0, .inr (2, [.ref aw, .ref al, .ref af, .ref ab, .ref ap, .ref ah, .int sn, .int ex, .int wr])), (aw, .inl (cy, 65, .inl (cTake T hh hs u0).1.1)), (al, .inl (cy, 65, .inl (cTake T hh hs u0).1.2.1)), (af, .inl (cy, 65, .inl (cTake T hh hs u0).1.2.2.1)), (ab, .inl (cy, 65, .inl (cTake T hh hs u0).1.2.2.2.1)), (ap, .inl (cy, 33, .inl (cTake T hh hs u0).1.2.2.2.2)), (ah, .inr (0, [.ref gw, .ref gl, .ref gf, .int hs])), (gw, .inl (cy, 65, .inl (cTake T hh hs u0).2.1)), (gl, .inl (cy, 65, .inl hh.2.1)), (gf, .inl (cy, 65, .inl hh.2.2))] ((cTake T hh hs u0).2.2)) 0 0 (va_A [(a0, .inr (2, [.ref aw, .ref al, .ref af, .ref ab, .ref ap, .ref ah, .int sn, .int ex, .int wr])), (aw, .inl (cy, 65, .inl T.1)), (al, .inl (cy, 65, .inl T.2.1)), (af, .inl (cy, 65, .inl T.2.2.1)), (ab, .inl (cy, 65, .inl T.2.2.2.1)), (ap, .inl (cy, 33, .inl T.2.2.2.2)), (ah, .inr (0, [.ref gw, .ref gl, .ref gf, .int hs])), (gw, .inl (cy, 65, .inl hh.1)), (gl, .inl (cy, 65, .inl hh.2.1)), (gf, .inl (cy, 65, .inl hh.2.2))] sz) := by
  refine Met.ofW (cc := cX2_takeLightest) (maxL := 4) (ret := (some .int)) (by decide) rfl ?_
  intro p e s m args below meth c s₁ B hml hv
  obtain ⟨rfl, hsz, hP, hK, hD0, hnw⟩ := hv
  have hx := B.exec
  have hb := B.bytes
  have hr := B.returns
  have hts := atoms_spec (ws := wsX2_takeLightest) B.pre
  have hown : s.vm.findClass RX2 = some m.cls := findClass_of_methodNamed B.named
  have hlocks := B.notSynchronized
  have hinX2 : ∀ w ∈ wsX20, w ∈ wsX2_takeLightest := by decide +kernel
  have hinX0 : ∀ w ∈ wsX00, w ∈ wsX2_takeLightest := by decide +kernel
  subst hsz
  have hD := hD0.self (sz := s.heap.size)
  generalize hAe : va_A [(a0, .inr (2, [.ref aw, .ref al, .ref af, .ref ab, .ref ap, .ref ah, .int sn, .int ex, .int wr])), (aw, .inl (cy, 65, .inl T.1)), (al, .inl (cy, 65, .inl T.2.1)), (af, .inl (cy, 65, .inl T.2.2.1)), (ab, .inl (cy, 65, .inl T.2.2.2.1)), (ap, .inl (cy, 33, .inl T.2.2.2.2)), (ah, .inr (0, [.ref gw, .ref gl, .ref gf, .int hs])), (gw, .inl (cy, 65, .inl hh.1)), (gl, .inl (cy, 65, .inl hh.2.1)), (gf, .inl (cy, 65, .inl hh.2.2))] s.heap.size = A at hD ⊢
  have hA : ∀ q : Nat, s.heap.size ≤ q → A q := fun q h => by rw [← hAe]; exact Or.inr h
  clear hAe
  have hS : va_S A s.heap s.heap [] := va_S.rf
  have hl := lv_entry ([.ref a0, .int u0]) (n := 4) (Nat.le_of_ble_eq_true rfl)
  rw [lg_entry_eq]
  generalize (lg_sl ([.ref a0, .int u0]) ++ List.replicate (4 - (lg_sl ([.ref a0, .int u0])).length) Slot.unset).toArray = ls at hl ⊢
  have hl : lv_has ls 4 [(0, .ref a0), (1, .int u0)] := hl
  refine lv_aload_n hx hb dX2_takeLightest_0 rfl (lv_at hl 0 rfl) ?_
  refine va_get (D := D) (ci := 2) (v := .ref ah) (C := RX2) (T := TX2) (N := 9) hx hb hts hinX2 hown hK hP 0 rfl rfl 5 (by decide) (hts (.fieldLink RX2 30 "CobblerCodes$Tree" "heap" "LCobblerCodes$Heap;") (by decide +kernel)) (fun _ h9 => h9) rfl dX2_takeLightest_1 ?_
  have hPc := hP.sub (ws' := [(ah, .inr (0, [.ref gw, .ref gl, .ref gf, .int hs])), (gw, .inl (cy, 65, .inl hh.1)), (gl, .inl (cy, 65, .inl hh.2.1)), (gf, .inl (cy, 65, .inl hh.2.2))]) [6, 7, 8, 9] rfl
  refine cb_callSi (r0 := (cLight hh.1 hs)) (va_runVN (As := []) (rest := []) ⟨hx, hb, hml, hown, hts⟩ (kX0_lightest l D cy ah gw gl gf hh hs) ⟨va_cnB 0 hts gX2_takeLightest_X0_lightest_n103 rfl rfl rfl (hnw (.methodLinkNest RX2 103 yX0_lightest RX3) (by decide +kernel)) (hts (.initialized RX0) (by decide +kernel)) (by decide +kernel) ⟨Nat.le_of_ble_eq_true rfl, Nat.le_of_ble_eq_true rfl⟩, hts (.instanceMethod yX0_lightest) (by decide +kernel), hts (.selects RX0 yX0_lightest yX0_lightest) (by decide +kernel)⟩ (cb_Pp.pv hK hPc hnw (ci := 0) (q0 := 0) rfl rfl) rfl rfl hl.1 rfl (lv_room (Nat.le_of_ble_eq_true rfl)) dX2_takeLightest_4 ⟨Nat.le_of_ble_eq_true rfl, Nat.le_of_ble_eq_true rfl⟩) ?_
  refine lv_istore_n (lv' := [(2, .int (cLight hh.1 hs)), (0, .ref a0), (1, .int u0)]) hx hb dX2_takeLightest_7 rfl hl (by decide) rfl (fun ls hl => ?_)
  refine lv_aload_n hx hb dX2_takeLightest_8 rfl (lv_at hl 1 rfl) ?_
  refine va_get (D := D) (ci := 2) (v := .ref ah) (C := RX2) (T := TX2) (N := 9) hx hb hts hinX2 hown hK hP 0 rfl rfl 5 (by decide) (hts (.fieldLink RX2 30 "CobblerCodes$Tree" "heap" "LCobblerCodes$Heap;") (by decide +kernel)) (fun _ h9 => h9) rfl dX2_takeLightest_9 ?_
  refine va_getN (host := RX3) (D := D) (ci := 0) (v := .ref gw) (C := RX0) (T := TX0) (N := 4) hx hb hts hinX0 hown hK hP 6 rfl rfl 0 (by decide) (va_Nw.use rfl (hnw (.fieldLinkNest RX2 106 "CobblerCodes$Heap" "weight" "[I" RX3) (by decide +kernel))) (fun _ h9 => h9) rfl dX2_takeLightest_12 ?_
  refine lv_iload_n hx hb dX2_takeLightest_15 rfl (lv_at hl 0 rfl) ?_
  have hPc := hP.sub (ws' := [(gw, .inl (cy, 65, .inl hh.1))]) [7] rfl
  refine cb_callSi (r0 := (atN 65 hh.1 (cLight hh.1 hs))) (va_runSN (As := [.ref gw, .int (cLight hh.1 hs)]) (rest := []) ⟨hx, hb, hml, hown, hts⟩ (kX3_at l D cy gw 65 hh.1 (cLight hh.1 hs) (by first | assumption | decide)) ⟨va_cnB 2 hts gX2_takeLightest_X3_at_n54 rfl rfl rfl (hnw (.methodLinkNest RX2 54 yX3_at RX3) (by decide +kernel)) (hts (.initialized RX3) (by decide +kernel)) (by decide +kernel) ⟨Nat.le_of_ble_eq_true rfl, Nat.le_of_ble_eq_true rfl⟩, hts (.static yX3_at) (by decide +kernel), trivial⟩ (cb_Pp.ps hK hPc hnw) rfl rfl hl.1 rfl (lv_room (Nat.le_of_ble_eq_true rfl)) dX2_takeLightest_16 ⟨Nat.le_of_ble_eq_true rfl, Nat.le_of_ble_eq_true rfl⟩) ?_
  refine lv_istore_n (lv' := [(3, .int (atN 65 hh.1 (cLight hh.1 hs))), (2, .int (cLight hh.1 hs)), (0, .ref a0), (1, .int u0)]) hx hb dX2_takeLightest_19 rfl hl (by decide) rfl (fun ls hl => ?_)
  refine lv_aload_n hx hb dX2_takeLightest_20 rfl (lv_at hl 2 rfl) ?_
  refine lv_iload_n hx hb dX2_takeLightest_21 rfl (lv_at hl 3 rfl) ?_
  refine lv_iload_n hx hb dX2_takeLightest_22 rfl (lv_at hl 0 rfl) ?_
  refine lv_aload_n hx hb dX2_takeLightest_23 rfl (lv_at hl 2 rfl) ?_
  refine va_get (D := D) (ci := 2) (v := .ref ah) (C := RX2) (T := TX2) (N := 9) hx hb hts hinX2 hown hK hP 0 rfl rfl 5 (by decide) (hts (.fieldLink RX2 30 "CobblerCodes$Tree" "heap" "LCobblerCodes$Heap;") (by decide +kernel)) (fun _ h9 => h9) rfl dX2_takeLightest_24 ?_
  refine va_getN (host := RX3) (D := D) (ci := 0) (v := .ref gl) (C := RX0) (T := TX0) (N := 4) hx hb hts hinX0 hown hK hP 6 rfl rfl 1 (by decide) (va_Nw.use rfl (hnw (.fieldLinkNest RX2 107 "CobblerCodes$Heap" "leaf" "[I" RX3) (by decide +kernel))) (fun _ h9 => h9) rfl dX2_takeLightest_27 ?_
  refine lv_iload_n hx hb dX2_takeLightest_30 rfl (lv_at hl 1 rfl) ?_
  have hPc := hP.sub (ws' := [(gl, .inl (cy, 65, .inl hh.2.1))]) [8] rfl
  refine cb_callSi (r0 := (atN 65 hh.2.1 (cLight hh.1 hs))) (va_runSN (As := [.ref gl, .int (cLight hh.1 hs)]) (rest := [.int (atN 65 hh.1 (cLight hh.1 hs)), .int u0, .ref a0]) ⟨hx, hb, hml, hown, hts⟩ (kX3_at l D cy gl 65 hh.2.1 (cLight hh.1 hs) (by first | assumption | decide)) ⟨va_cnB 2 hts gX2_takeLightest_X3_at_n54 rfl rfl rfl (hnw (.methodLinkNest RX2 54 yX3_at RX3) (by decide +kernel)) (hts (.initialized RX3) (by decide +kernel)) (by decide +kernel) ⟨Nat.le_of_ble_eq_true rfl, Nat.le_of_ble_eq_true rfl⟩, hts (.static yX3_at) (by decide +kernel), trivial⟩ (cb_Pp.ps hK hPc hnw) rfl rfl hl.1 rfl (lv_room (Nat.le_of_ble_eq_true rfl)) dX2_takeLightest_31 ⟨Nat.le_of_ble_eq_true rfl, Nat.le_of_ble_eq_true rfl⟩) ?_
  refine lv_aload_n hx hb dX2_takeLightest_34 rfl (lv_at hl 2 rfl) ?_
  refine va_get (D := D) (ci := 2) (v := .ref ah) (C := RX2) (T := TX2) (N := 9) hx hb hts hinX2 hown hK hP 0 rfl rfl 5 (by decide) (hts (.fieldLink RX2 30 "CobblerCodes$Tree" "heap" "LCobblerCodes$Heap;") (by decide +kernel)) (fun _ h9 => h9) rfl dX2_takeLightest_35 ?_
  refine va_getN (host := RX3) (D := D) (ci := 0) (v := .ref gf) (C := RX0) (T := TX0) (N := 4) hx hb hts hinX0 hown hK hP 6 rfl rfl 2 (by decide) (va_Nw.use rfl (hnw (.fieldLinkNest RX2 108 "CobblerCodes$Heap" "firstPart" "[I" RX3) (by decide +kernel))) (fun _ h9 => h9) rfl dX2_takeLightest_38 ?_
  refine lv_iload_n hx hb dX2_takeLightest_41 rfl (lv_at hl 1 rfl) ?_
  have hPc := hP.sub (ws' := [(gf, .inl (cy, 65, .inl hh.2.2))]) [9] rfl
  refine cb_callSi (r0 := (atN 65 hh.2.2 (cLight hh.1 hs))) (va_runSN (As := [.ref gf, .int (cLight hh.1 hs)]) (rest := [.int (atN 65 hh.2.1 (cLight hh.1 hs)), .int (atN 65 hh.1 (cLight hh.1 hs)), .int u0, .ref a0]) ⟨hx, hb, hml, hown, hts⟩ (kX3_at l D cy gf 65 hh.2.2 (cLight hh.1 hs) (by first | assumption | decide)) ⟨va_cnB 2 hts gX2_takeLightest_X3_at_n54 rfl rfl rfl (hnw (.methodLinkNest RX2 54 yX3_at RX3) (by decide +kernel)) (hts (.initialized RX3) (by decide +kernel)) (by decide +kernel) ⟨Nat.le_of_ble_eq_true rfl, Nat.le_of_ble_eq_true rfl⟩, hts (.static yX3_at) (by decide +kernel), trivial⟩ (cb_Pp.ps hK hPc hnw) rfl rfl hl.1 rfl (lv_room (Nat.le_of_ble_eq_true rfl)) dX2_takeLightest_42 ⟨Nat.le_of_ble_eq_true rfl, Nat.le_of_ble_eq_true rfl⟩) ?_
  have hPc := hP.sub (ws' := [(a0, .inr (2, [.ref aw, .ref al, .ref af, .ref ab, .ref ap, .ref ah, .int sn, .int ex, .int wr])), (aw, .inl (cy, 65, .inl T.1)), (al, .inl (cy, 65, .inl T.2.1)), (af, .inl (cy, 65, .inl T.2.2.1)), (ab, .inl (cy, 65, .inl T.2.2.2.1)), (ap, .inl (cy, 33, .inl T.2.2.2.2))]) [0, 1, 2, 3, 4, 5] rfl
  have hDc := hD.sub (ws' := [(a0, .inr (2, [.ref aw, .ref al, .ref af, .ref ab, .ref ap, .ref ah, .int sn, .int ex, .int wr])), (aw, .inl (cy, 65, .inl T.1)), (al, .inl (cy, 65, .inl T.2.1)), (af, .inl (cy, 65, .inl T.2.2.1)), (ab, .inl (cy, 65, .inl T.2.2.2.1)), (ap, .inl (cy, 33, .inl T.2.2.2.2))]) [0, 1, 2, 3, 4, 5] (by decide) rfl
  refine cb_callQv (wc := [(a0, .inr (2, [.ref aw, .ref al, .ref af, .ref ab, .ref ap, .ref ah, .int sn, .int ex, .int wr])), (aw, .inl (cy, 65, .inl T.1)), (al, .inl (cy, 65, .inl T.2.1)), (af, .inl (cy, 65, .inl T.2.2.1)), (ab, .inl (cy, 65, .inl T.2.2.2.1)), (ap, .inl (cy, 33, .inl T.2.2.2.2))]) (wr := [(ah, .inr (0, [.ref gw, .ref gl, .ref gf, .int hs])), (gw, .inl (cy, 65, .inl hh.1)), (gl, .inl (cy, 65, .inl hh.2.1)), (gf, .inl (cy, 65, .inl hh.2.2))]) (wc' := [(a0, .inr (2, [.ref aw, .ref al, .ref af, .ref ab, .ref ap, .ref ah, .int sn, .int ex, .int wr])), (aw, .inl (cy, 65, .inl ((cPutNode T u0 (atN 65 hh.1 (cLight hh.1 hs)) (atN 65 hh.2.1 (cLight hh.1 hs)) (atN 65 hh.2.2 (cLight hh.1 hs))).1))), (al, .inl (cy, 65, .inl ((cPutNode T u0 (atN 65 hh.1 (cLight hh.1 hs)) (atN 65 hh.2.1 (cLight hh.1 hs)) (atN 65 hh.2.2 (cLight hh.1 hs))).2.1))), (af, .inl (cy, 65, .inl ((cPutNode T u0 (atN 65 hh.1 (cLight hh.1 hs)) (atN 65 hh.2.1 (cLight hh.1 hs)) (atN 65 hh.2.2 (cLight hh.1 hs))).2.2.1))), (ab, .inl (cy, 65, .inl ((cPutNode T u0 (atN 65 hh.1 (cLight hh.1 hs)) (atN 65 hh.2.1 (cLight hh.1 hs)) (atN 65 hh.2.2 (cLight hh.1 hs))).2.2.2.1))), (ap, .inl (cy, 33, .inl ((cPutNode T u0 (atN 65 hh.1 (cLight hh.1 hs)) (atN 65 hh.2.1 (cLight hh.1 hs)) (atN 65 hh.2.2 (cLight hh.1 hs))).2.2.2.2)))]) (ws2 := [(a0, .inr (2, [.ref aw, .ref al, .ref af, .ref ab, .ref ap, .ref ah, .int sn, .int ex, .int wr])), (aw, .inl (cy, 65, .inl ((cPutNode T u0 (atN 65 hh.1 (cLight hh.1 hs)) (atN 65 hh.2.1 (cLight hh.1 hs)) (atN 65 hh.2.2 (cLight hh.1 hs))).1))), (al, .inl (cy, 65, .inl ((cPutNode T u0 (atN 65 hh.1 (cLight hh.1 hs)) (atN 65 hh.2.1 (cLight hh.1 hs)) (atN 65 hh.2.2 (cLight hh.1 hs))).2.1))), (af, .inl (cy, 65, .inl ((cPutNode T u0 (atN 65 hh.1 (cLight hh.1 hs)) (atN 65 hh.2.1 (cLight hh.1 hs)) (atN 65 hh.2.2 (cLight hh.1 hs))).2.2.1))), (ab, .inl (cy, 65, .inl ((cPutNode T u0 (atN 65 hh.1 (cLight hh.1 hs)) (atN 65 hh.2.1 (cLight hh.1 hs)) (atN 65 hh.2.2 (cLight hh.1 hs))).2.2.2.1))), (ap, .inl (cy, 33, .inl ((cPutNode T u0 (atN 65 hh.1 (cLight hh.1 hs)) (atN 65 hh.2.1 (cLight hh.1 hs)) (atN 65 hh.2.2 (cLight hh.1 hs))).2.2.2.2))), (ah, .inr (0, [.ref gw, .ref gl, .ref gf, .int hs])), (gw, .inl (cy, 65, .inl hh.1)), (gl, .inl (cy, 65, .inl hh.2.1)), (gf, .inl (cy, 65, .inl hh.2.2))]) hP hD hS hA [0, 1, 2, 3, 4, 5] [6, 7, 8, 9] [4, 5, 6, 7, 8, 9, 0, 1, 2, 3] (va_runV (As := [.int u0, .int (atN 65 hh.1 (cLight hh.1 hs)), .int (atN 65 hh.2.1 (cLight hh.1 hs)), .int (atN 65 hh.2.2 (cLight hh.1 hs))]) (rest := []) ⟨hx, hb, hml, hown, hts⟩ (kX2_putNode l D cy _ a0 aw al af ab ap ah T sn ex wr u0 (atN 65 hh.1 (cLight hh.1 hs)) (atN 65 hh.2.1 (cLight hh.1 hs)) (atN 65 hh.2.2 (cLight hh.1 hs))) (cwV 4 hts gX2_takeLightest_X2_putNode rfl rfl rfl (by decide +kernel) ⟨Nat.le_of_ble_eq_true rfl, Nat.le_of_ble_eq_true rfl⟩) (cb_Pw.pv hK hPc hDc hnw (ci := 2) (q0 := 0) rfl rfl) rfl rfl hl.1 rfl (lv_room (Nat.le_of_ble_eq_true rfl)) dX2_takeLightest_45 ⟨Nat.le_of_ble_eq_true rfl, Nat.le_of_ble_eq_true rfl⟩) rfl rfl (by decide) (by decide) rfl (by decide) (fun H locs hP hD hS => ?_)
  generalize eT2_1 : cPutNode T u0 (atN 65 hh.1 (cLight hh.1 hs)) (atN 65 hh.2.1 (cLight hh.1 hs)) (atN 65 hh.2.2 (cLight hh.1 hs)) = T2_1 at hP hD ⊢
  refine lv_aload_n hx hb dX2_takeLightest_48 rfl (lv_at hl 2 rfl) ?_
  refine va_get (D := D) (ci := 2) (v := .ref ah) (C := RX2) (T := TX2) (N := 9) hx hb hts hinX2 hown hK hP 0 rfl rfl 5 (by decide) (hts (.fieldLink RX2 30 "CobblerCodes$Tree" "heap" "LCobblerCodes$Heap;") (by decide +kernel)) (fun _ h9 => h9) rfl dX2_takeLightest_49 ?_
  refine lv_iload_n hx hb dX2_takeLightest_52 rfl (lv_at hl 1 rfl) ?_
  have hPc := hP.sub (ws' := [(ah, .inr (0, [.ref gw, .ref gl, .ref gf, .int hs])), (gw, .inl (cy, 65, .inl hh.1)), (gl, .inl (cy, 65, .inl hh.2.1)), (gf, .inl (cy, 65, .inl hh.2.2))]) [6, 7, 8, 9] rfl
  have hDc := hD.sub (ws' := [(ah, .inr (0, [.ref gw, .ref gl, .ref gf, .int hs])), (gw, .inl (cy, 65, .inl hh.1)), (gl, .inl (cy, 65, .inl hh.2.1)), (gf, .inl (cy, 65, .inl hh.2.2))]) [6, 7, 8, 9] (by decide) rfl
  refine cb_callQv (wc := [(ah, .inr (0, [.ref gw, .ref gl, .ref gf, .int hs])), (gw, .inl (cy, 65, .inl hh.1)), (gl, .inl (cy, 65, .inl hh.2.1)), (gf, .inl (cy, 65, .inl hh.2.2))]) (wr := [(a0, .inr (2, [.ref aw, .ref al, .ref af, .ref ab, .ref ap, .ref ah, .int sn, .int ex, .int wr])), (aw, .inl (cy, 65, .inl T2_1.1)), (al, .inl (cy, 65, .inl T2_1.2.1)), (af, .inl (cy, 65, .inl T2_1.2.2.1)), (ab, .inl (cy, 65, .inl T2_1.2.2.2.1)), (ap, .inl (cy, 33, .inl T2_1.2.2.2.2))]) (wc' := [(ah, .inr (0, [.ref gw, .ref gl, .ref gf, .int hs])), (gw, .inl (cy, 65, .inl (putN 65 hh.1 (cLight hh.1 hs) 0))), (gl, .inl (cy, 65, .inl hh.2.1)), (gf, .inl (cy, 65, .inl hh.2.2))]) (ws2 := [(a0, .inr (2, [.ref aw, .ref al, .ref af, .ref ab, .ref ap, .ref ah, .int sn, .int ex, .int wr])), (aw, .inl (cy, 65, .inl T2_1.1)), (al, .inl (cy, 65, .inl T2_1.2.1)), (af, .inl (cy, 65, .inl T2_1.2.2.1)), (ab, .inl (cy, 65, .inl T2_1.2.2.2.1)), (ap, .inl (cy, 33, .inl T2_1.2.2.2.2)), (ah, .inr (0, [.ref gw, .ref gl, .ref gf, .int hs])), (gw, .inl (cy, 65, .inl (putN 65 hh.1 (cLight hh.1 hs) 0))), (gl, .inl (cy, 65, .inl hh.2.1)), (gf, .inl (cy, 65, .inl hh.2.2))]) hP hD hS hA [6, 7, 8, 9] [0, 1, 2, 3, 4, 5] [0, 1, 2, 3, 4, 5, 6, 7, 8, 9] (va_runVN (As := [.int (cLight hh.1 hs)]) (rest := []) ⟨hx, hb, hml, hown, hts⟩ (kX0_drop l D cy _ ah gw gl gf hh hs (cLight hh.1 hs)) ⟨va_cnB 1 hts gX2_takeLightest_X0_drop_n109 rfl rfl rfl (hnw (.methodLinkNest RX2 109 yX0_drop RX3) (by decide +kernel)) (hts (.initialized RX0) (by decide +kernel)) (by decide +kernel) ⟨Nat.le_of_ble_eq_true rfl, Nat.le_of_ble_eq_true rfl⟩, hts (.instanceMethod yX0_drop) (by decide +kernel), hts (.selects RX0 yX0_drop yX0_drop) (by decide +kernel)⟩ (cb_Pw.pv hK hPc hDc hnw (ci := 0) (q0 := 0) rfl rfl) rfl rfl hl.1 rfl (lv_room (Nat.le_of_ble_eq_true rfl)) dX2_takeLightest_53 ⟨Nat.le_of_ble_eq_true rfl, Nat.le_of_ble_eq_true rfl⟩) rfl rfl (by decide) (by decide) rfl (by decide) (fun H locs hP hD hS => ?_)
  refine lv_iload_n hx hb dX2_takeLightest_56 rfl (lv_at hl 0 rfl) ?_
  exact cb_endQi (v := atN 65 hh.1 (cLight hh.1 hs)) hx hb hr hlocks hP hD hK hS (by subst eT2_1; rfl) (by subst eT2_1; rfl) (by omega) (by omega) dX2_takeLightest_57

set_option maxHeartbeats 4000000 in
set_option maxRecDepth 100000 in
theorem kX2_fillHeap (l : Launch) (D : va_G) (cy : ClassId) (sz : Nat) (a0 aw al af ab ap ah gw gl gf : Nat) (T : N5) (sn ex wr : Int32) (hh : H3) (hs : Int32) : Met l yX2_fillHeap wsX2_fillHeap ({ frames := 2, cells := 0, slots := 0, locals := 45 }) (cb_Pw D (cb_tys cy) [(a0, .inr (2, [.ref aw, .ref al, .ref af, .ref ab, .ref ap, .ref ah, .int sn, .int ex, .int wr])), (aw, .inl (cy, 65, .inl T.1)), (al, .inl (cy, 65, .inl T.2.1)), (af, .inl (cy, 65, .inl T.2.2.1)), (ab, .inl (cy, 65, .inl T.2.2.2.1)), (ap, .inl (cy, 33, .inl T.2.2.2.2)), (ah, .inr (0, [.ref gw, .ref gl, .ref gf, .int hs])), (gw, .inl (cy, 65, .inl hh.1)), (gl, .inl (cy, 65, .inl hh.2.1)), (gf, .inl (cy, 65, .inl hh.2.2))] sz [.ref a0]) (cb_Qi D (cb_tys cy) (va_A [(a0, .inr (2, [.ref aw, .ref al, .ref af, .ref ab, .ref ap, .ref ah, .int sn, .int ex, .int wr])), (aw, .inl (cy, 65, .inl T.1)), (al, .inl (cy, 65, .inl T.2.1)), (af, .inl (cy, 65, .inl T.2.2.1)), (ab, .inl (cy, 65, .inl T.2.2.2.1)), (ap, .inl (cy, 33, .inl T.2.2.2.2)), (ah, .inr (0, [.ref gw, .ref gl, .ref gf, .int hs])), (gw, .inl (cy, 65, .inl hh.1)), (gl, .inl (cy, 65, .inl hh.2.1)), (gf, .inl (cy, 65, .inl hh.2.2))] sz) [(a0, .inr (2, [.ref aw, .ref al, .ref af, .ref ab, .ref ap, .ref ah, .int sn, .int ex, .int wr])), (aw, .inl (cy, 65, .inl T.1)), (al, .inl (cy, 65, .inl T.2.1)), (af, .inl (cy, 65, .inl T.2.2.1)), (ab, .inl (cy, 65, .inl T.2.2.2.1)), (ap, .inl (cy, 33, .inl (cFill T hh).1)), (ah, .inr (0, [.ref gw, .ref gl, .ref gf, .int (cFill T hh).2.2.1])), (gw, .inl (cy, 65, .inl (cFill T hh).2.1.1)), (gl, .inl (cy, 65, .inl (cFill T hh).2.1.2.1)), (gf, .inl (cy, 65, .inl (cFill T hh).2.1.2.2))] ((cFill T hh).2.2.2)) 0 0 (va_A [(a0, .inr (2, [.ref aw, .ref al, .ref af, .ref ab, .ref ap, .ref ah, .int sn, .int ex, .int wr])), (aw, .inl (cy, 65, .inl T.1)), (al, .inl (cy, 65, .inl T.2.1)), (af, .inl (cy, 65, .inl T.2.2.1)), (ab, .inl (cy, 65, .inl T.2.2.2.1)), (ap, .inl (cy, 33, .inl T.2.2.2.2)), (ah, .inr (0, [.ref gw, .ref gl, .ref gf, .int hs])), (gw, .inl (cy, 65, .inl hh.1)), (gl, .inl (cy, 65, .inl hh.2.1)), (gf, .inl (cy, 65, .inl hh.2.2))] sz) := by
  refine Met.ofW (cc := cX2_fillHeap) (maxL := 4) (ret := (some .int)) (by decide) rfl ?_
  intro p e s m args below meth c s₁ B hml hv
  obtain ⟨rfl, hsz, hP, hK, hD0, hnw⟩ := hv
  have hx := B.exec
  have hb := B.bytes
  have hr := B.returns
  have hts := atoms_spec (ws := wsX2_fillHeap) B.pre
  have hown : s.vm.findClass RX2 = some m.cls := findClass_of_methodNamed B.named
  have hlocks := B.notSynchronized
  have hinX2 : ∀ w ∈ wsX20, w ∈ wsX2_fillHeap := by decide +kernel
  subst hsz
  have hD := hD0.self (sz := s.heap.size)
  generalize hAe : va_A [(a0, .inr (2, [.ref aw, .ref al, .ref af, .ref ab, .ref ap, .ref ah, .int sn, .int ex, .int wr])), (aw, .inl (cy, 65, .inl T.1)), (al, .inl (cy, 65, .inl T.2.1)), (af, .inl (cy, 65, .inl T.2.2.1)), (ab, .inl (cy, 65, .inl T.2.2.2.1)), (ap, .inl (cy, 33, .inl T.2.2.2.2)), (ah, .inr (0, [.ref gw, .ref gl, .ref gf, .int hs])), (gw, .inl (cy, 65, .inl hh.1)), (gl, .inl (cy, 65, .inl hh.2.1)), (gf, .inl (cy, 65, .inl hh.2.2))] s.heap.size = A at hD ⊢
  have hA : ∀ q : Nat, s.heap.size ≤ q → A q := fun q h => by rw [← hAe]; exact Or.inr h
  clear hAe
  have hS : va_S A s.heap s.heap [] := va_S.rf
  have hl := lv_entry ([.ref a0]) (n := 4) (Nat.le_of_ble_eq_true rfl)
  rw [lg_entry_eq]
  generalize (lg_sl ([.ref a0]) ++ List.replicate (4 - (lg_sl ([.ref a0])).length) Slot.unset).toArray = ls at hl ⊢
  have hl : lv_has ls 4 [(0, .ref a0)] := hl
  refine lv_iconst (v := 0) hx hb dX2_fillHeap_0 (by decide) ?_
  refine lv_istore_n (lv' := [(1, .int 0), (0, .ref a0)]) hx hb dX2_fillHeap_1 rfl hl (by decide) rfl (fun ls hl => ?_)
  refine lv_aload_n hx hb dX2_fillHeap_2 rfl (lv_at hl 1 rfl) ?_
  refine va_get (D := D) (ci := 2) (v := .ref ah) (C := RX2) (T := TX2) (N := 9) hx hb hts hinX2 hown hK hP 0 rfl rfl 5 (by decide) (hts (.fieldLink RX2 30 "CobblerCodes$Tree" "heap" "LCobblerCodes$Heap;") (by decide +kernel)) (fun _ h9 => h9) rfl dX2_fillHeap_3 ?_
  have hPc := hP.sub (ws' := [(ah, .inr (0, [.ref gw, .ref gl, .ref gf, .int hs])), (gw, .inl (cy, 65, .inl hh.1)), (gl, .inl (cy, 65, .inl hh.2.1)), (gf, .inl (cy, 65, .inl hh.2.2))]) [6, 7, 8, 9] rfl
  have hDc := hD.sub (ws' := [(ah, .inr (0, [.ref gw, .ref gl, .ref gf, .int hs])), (gw, .inl (cy, 65, .inl hh.1)), (gl, .inl (cy, 65, .inl hh.2.1)), (gf, .inl (cy, 65, .inl hh.2.2))]) [6, 7, 8, 9] (by decide) rfl
  refine cb_callQv (wc := [(ah, .inr (0, [.ref gw, .ref gl, .ref gf, .int hs])), (gw, .inl (cy, 65, .inl hh.1)), (gl, .inl (cy, 65, .inl hh.2.1)), (gf, .inl (cy, 65, .inl hh.2.2))]) (wr := [(a0, .inr (2, [.ref aw, .ref al, .ref af, .ref ab, .ref ap, .ref ah, .int sn, .int ex, .int wr])), (aw, .inl (cy, 65, .inl T.1)), (al, .inl (cy, 65, .inl T.2.1)), (af, .inl (cy, 65, .inl T.2.2.1)), (ab, .inl (cy, 65, .inl T.2.2.2.1)), (ap, .inl (cy, 33, .inl T.2.2.2.2))]) (wc' := [(ah, .inr (0, [.ref gw, .ref gl, .ref gf, .int 0])), (gw, .inl (cy, 65, .inl hh.1)), (gl, .inl (cy, 65, .inl hh.2.1)), (gf, .inl (cy, 65, .inl hh.2.2))]) (ws2 := [(a0, .inr (2, [.ref aw, .ref al, .ref af, .ref ab, .ref ap, .ref ah, .int sn, .int ex, .int wr])), (aw, .inl (cy, 65, .inl T.1)), (al, .inl (cy, 65, .inl T.2.1)), (af, .inl (cy, 65, .inl T.2.2.1)), (ab, .inl (cy, 65, .inl T.2.2.2.1)), (ap, .inl (cy, 33, .inl T.2.2.2.2)), (ah, .inr (0, [.ref gw, .ref gl, .ref gf, .int 0])), (gw, .inl (cy, 65, .inl hh.1)), (gl, .inl (cy, 65, .inl hh.2.1)), (gf, .inl (cy, 65, .inl hh.2.2))]) hP hD hS hA [6, 7, 8, 9] [0, 1, 2, 3, 4, 5] [0, 1, 2, 3, 4, 5, 6, 7, 8, 9] (va_runVN (As := []) (rest := []) ⟨hx, hb, hml, hown, hts⟩ (kX0_clear l D cy _ ah gw gl gf hh hs) ⟨va_cnB 0 hts gX2_fillHeap_X0_clear_n96 rfl rfl rfl (hnw (.methodLinkNest RX2 96 yX0_clear RX3) (by decide +kernel)) (hts (.initialized RX0) (by decide +kernel)) (by decide +kernel) ⟨Nat.le_of_ble_eq_true rfl, Nat.le_of_ble_eq_true rfl⟩, hts (.instanceMethod yX0_clear) (by decide +kernel), hts (.selects RX0 yX0_clear yX0_clear) (by decide +kernel)⟩ (cb_Pw.pv hK hPc hDc hnw (ci := 0) (q0 := 0) rfl rfl) rfl rfl hl.1 rfl (lv_room (Nat.le_of_ble_eq_true rfl)) dX2_fillHeap_6 ⟨Nat.le_of_ble_eq_true rfl, Nat.le_of_ble_eq_true rfl⟩) rfl rfl (by decide) (by decide) rfl (by decide) (fun H locs hP hD hS => ?_)
  refine lv_aload_n hx hb dX2_fillHeap_9 rfl (lv_at hl 1 rfl) ?_
  refine va_get (D := D) (ci := 2) (v := .ref ah) (C := RX2) (T := TX2) (N := 9) hx hb hts hinX2 hown hK hP 0 rfl rfl 5 (by decide) (hts (.fieldLink RX2 30 "CobblerCodes$Tree" "heap" "LCobblerCodes$Heap;") (by decide +kernel)) (fun _ h9 => h9) rfl dX2_fillHeap_10 ?_
  refine lv_iconst (v := 1) hx hb dX2_fillHeap_13 (by decide) ?_
  refine lv_bipush (v := 32) hx hb dX2_fillHeap_14 (by decide) ?_
  refine lv_iconst (v := (-1)) hx hb dX2_fillHeap_16 (by decide) ?_
  have hPc := hP.sub (ws' := [(ah, .inr (0, [.ref gw, .ref gl, .ref gf, .int 0])), (gw, .inl (cy, 65, .inl hh.1)), (gl, .inl (cy, 65, .inl hh.2.1)), (gf, .inl (cy, 65, .inl hh.2.2))]) [6, 7, 8, 9] rfl
  have hDc := hD.sub (ws' := [(ah, .inr (0, [.ref gw, .ref gl, .ref gf, .int 0])), (gw, .inl (cy, 65, .inl hh.1)), (gl, .inl (cy, 65, .inl hh.2.1)), (gf, .inl (cy, 65, .inl hh.2.2))]) [6, 7, 8, 9] (by decide) rfl
  refine cb_callQv (wc := [(ah, .inr (0, [.ref gw, .ref gl, .ref gf, .int 0])), (gw, .inl (cy, 65, .inl hh.1)), (gl, .inl (cy, 65, .inl hh.2.1)), (gf, .inl (cy, 65, .inl hh.2.2))]) (wr := [(a0, .inr (2, [.ref aw, .ref al, .ref af, .ref ab, .ref ap, .ref ah, .int sn, .int ex, .int wr])), (aw, .inl (cy, 65, .inl T.1)), (al, .inl (cy, 65, .inl T.2.1)), (af, .inl (cy, 65, .inl T.2.2.1)), (ab, .inl (cy, 65, .inl T.2.2.2.1)), (ap, .inl (cy, 33, .inl T.2.2.2.2))]) (wc' := [(ah, .inr (0, [.ref gw, .ref gl, .ref gf, .int (0 + 1)])), (gw, .inl (cy, 65, .inl ((cAdd hh 0 1 32 (-1)).1))), (gl, .inl (cy, 65, .inl ((cAdd hh 0 1 32 (-1)).2.1))), (gf, .inl (cy, 65, .inl ((cAdd hh 0 1 32 (-1)).2.2)))]) (ws2 := [(a0, .inr (2, [.ref aw, .ref al, .ref af, .ref ab, .ref ap, .ref ah, .int sn, .int ex, .int wr])), (aw, .inl (cy, 65, .inl T.1)), (al, .inl (cy, 65, .inl T.2.1)), (af, .inl (cy, 65, .inl T.2.2.1)), (ab, .inl (cy, 65, .inl T.2.2.2.1)), (ap, .inl (cy, 33, .inl T.2.2.2.2)), (ah, .inr (0, [.ref gw, .ref gl, .ref gf, .int (0 + 1)])), (gw, .inl (cy, 65, .inl ((cAdd hh 0 1 32 (-1)).1))), (gl, .inl (cy, 65, .inl ((cAdd hh 0 1 32 (-1)).2.1))), (gf, .inl (cy, 65, .inl ((cAdd hh 0 1 32 (-1)).2.2)))]) hP hD hS hA [6, 7, 8, 9] [0, 1, 2, 3, 4, 5] [0, 1, 2, 3, 4, 5, 6, 7, 8, 9] (va_runVN (As := [.int 1, .int 32, .int (-1)]) (rest := []) ⟨hx, hb, hml, hown, hts⟩ (kX0_add l D cy _ ah gw gl gf hh 0 1 32 (-1)) ⟨va_cnB 3 hts gX2_fillHeap_X0_add_n89 rfl rfl rfl (hnw (.methodLinkNest RX2 89 yX0_add RX3) (by decide +kernel)) (hts (.initialized RX0) (by decide +kernel)) (by decide +kernel) ⟨Nat.le_of_ble_eq_true rfl, Nat.le_of_ble_eq_true rfl⟩, hts (.instanceMethod yX0_add) (by decide +kernel), hts (.selects RX0 yX0_add yX0_add) (by decide +kernel)⟩ (cb_Pw.pv hK hPc hDc hnw (ci := 0) (q0 := 0) rfl rfl) rfl rfl hl.1 rfl (lv_room (Nat.le_of_ble_eq_true rfl)) dX2_fillHeap_17 ⟨Nat.le_of_ble_eq_true rfl, Nat.le_of_ble_eq_true rfl⟩) rfl rfl (by decide) (by decide) rfl (by decide) (fun H locs hP hD hS => ?_)
  generalize eh2_1 : cAdd hh 0 1 32 (-1) = h2_1 at hP hD ⊢
  refine lv_iconst (v := 0) hx hb dX2_fillHeap_20 (by decide) ?_
  refine lv_istore_n (lv' := [(2, .int 0), (1, .int 0), (0, .ref a0)]) hx hb dX2_fillHeap_21 rfl hl (by decide) rfl (fun ls hl => ?_)
  have L22 : ∀ (k : Nat) (po : A1) (h1 : H3) (hs1 x1 x2 : Int32), k ≤ 32 → x2 = nI (32 - k) → cFillL T.1 k x2 po h1 hs1 x1 = cFill T hh → ∀ (H : Heap) (locs : List Loc), va_P D vwCl [(a0, .inr (2, [.ref aw, .ref al, .ref af, .ref ab, .ref ap, .ref ah, .int sn, .int ex, .int wr])), (aw, .inl (cy, 65, .inl T.1)), (al, .inl (cy, 65, .inl T.2.1)), (af, .inl (cy, 65, .inl T.2.2.1)), (ab, .inl (cy, 65, .inl T.2.2.2.1)), (ap, .inl (cy, 33, .inl po)), (ah, .inr (0, [.ref gw, .ref gl, .ref gf, .int hs1])), (gw, .inl (cy, 65, .inl h1.1)), (gl, .inl (cy, 65, .inl h1.2.1)), (gf, .inl (cy, 65, .inl h1.2.2))] H → va_D A [(a0, .inr (2, [.ref aw, .ref al, .ref af, .ref ab, .ref ap, .ref ah, .int sn, .int ex, .int wr])), (aw, .inl (cy, 65, .inl T.1)), (al, .inl (cy, 65, .inl T.2.1)), (af, .inl (cy, 65, .inl T.2.2.1)), (ab, .inl (cy, 65, .inl T.2.2.2.1)), (ap, .inl (cy, 33, .inl po)), (ah, .inr (0, [.ref gw, .ref gl, .ref gf, .int hs1])), (gw, .inl (cy, 65, .inl h1.1)), (gl, .inl (cy, 65, .inl h1.2.1)), (gf, .inl (cy, 65, .inl h1.2.2))] → va_S A s.heap H locs → ∀ (ls : Array Slot), lv_has ls 4 [(0, .ref a0), (1, .int x1), (2, .int x2)] → W p l e ({ frames := 2, cells := 0, slots := 0, locals := 45 } : Room) s m [.ref a0].toArray below meth c H locs 0 0 (MQ below (cb_Qi D (cb_tys cy) A [(a0, .inr (2, [.ref aw, .ref al, .ref af, .ref ab, .ref ap, .ref ah, .int sn, .int ex, .int wr])), (aw, .inl (cy, 65, .inl T.1)), (al, .inl (cy, 65, .inl T.2.1)), (af, .inl (cy, 65, .inl T.2.2.1)), (ab, .inl (cy, 65, .inl T.2.2.2.1)), (ap, .inl (cy, 33, .inl (cFill T hh).1)), (ah, .inr (0, [.ref gw, .ref gl, .ref gf, .int (cFill T hh).2.2.1])), (gw, .inl (cy, 65, .inl (cFill T hh).2.1.1)), (gl, .inl (cy, 65, .inl (cFill T hh).2.1.2.1)), (gf, .inl (cy, 65, .inl (cFill T hh).2.1.2.2))] ((cFill T hh).2.2.2)) [.ref a0].toArray s 0 0 A) (F0 m 22 ls []) := by
    clear hP hD hS hl
    intro k
    induction k with
    | zero =>
      intro po h1 hs1 x1 x2 hk e2 hT H locs hP hD hS ls hl
      refine lv_iload_n hx hb dX2_fillHeap_22 rfl (lv_at hl 2 rfl) ?_
      refine lv_bipush (v := 32) hx hb dX2_fillHeap_23 (by decide) ?_
      refine lv_icmp_ge (tgt := 89) hx hb dX2_fillHeap_25 (by decide) (fun c_2 => ?_) (fun c9 => absurd (by rw [e2]; decide) c9)
      refine lv_iload_n hx hb dX2_fillHeap_89 rfl (lv_at hl 1 rfl) ?_
      exact cb_endQi (v := x1) hx hb hr hlocks hP hD hK hS (by subst eh2_1; rw [← hT]; rfl) (by subst eh2_1; rw [← hT]; rfl) (by omega) (by omega) dX2_fillHeap_90
    | succ k ih =>
      intro po h1 hs1 x1 x2 hk e2 hT H locs hP hD hS ls hl
      refine lv_iload_n hx hb dX2_fillHeap_22 rfl (lv_at hl 2 rfl) ?_
      refine lv_bipush (v := 32) hx hb dX2_fillHeap_23 (by decide) ?_
      refine lv_icmp_ge (tgt := 89) hx hb dX2_fillHeap_25 (by decide) (fun c9 => absurd c9 (by rw [e2]; exact nI_ge (b := 32) (by omega) (by decide))) (fun c_3 => ?_)
      refine lv_aload_n hx hb dX2_fillHeap_28 rfl (lv_at hl 0 rfl) ?_
      refine lv_iload_n hx hb dX2_fillHeap_29 rfl (lv_at hl 2 rfl) ?_
      have hPc := hP.sub (ws' := [(a0, .inr (2, [.ref aw, .ref al, .ref af, .ref ab, .ref ap, .ref ah, .int sn, .int ex, .int wr])), (aw, .inl (cy, 65, .inl T.1)), (al, .inl (cy, 65, .inl T.2.1)), (af, .inl (cy, 65, .inl T.2.2.1)), (ab, .inl (cy, 65, .inl T.2.2.2.1)), (ap, .inl (cy, 33, .inl po))]) [0, 1, 2, 3, 4, 5] rfl
      refine cb_callSi (r0 := (cKnows (T.1, T.2.1, T.2.2.1, T.2.2.2.1, po).2.2.2.2 x2)) (va_runV (As := [.int x2]) (rest := []) ⟨hx, hb, hml, hown, hts⟩ (kX2_knows l D cy a0 aw al af ab ap ah (T.1, T.2.1, T.2.2.1, T.2.2.2.1, po) sn ex wr x2) (cwV 1 hts gX2_fillHeap_X2_knows rfl rfl rfl (by decide +kernel) ⟨Nat.le_of_ble_eq_true rfl, Nat.le_of_ble_eq_true rfl⟩) (cb_Pp.pv hK hPc hnw (ci := 2) (q0 := 0) rfl rfl) rfl rfl hl.1 rfl (lv_room (Nat.le_of_ble_eq_true rfl)) dX2_fillHeap_30 ⟨Nat.le_of_ble_eq_true rfl, Nat.le_of_ble_eq_true rfl⟩) ?_
      refine lv_if_eq (tgt := 83) hx hb dX2_fillHeap_33 (by decide) (fun c_4 => ?_) (fun c_4 => ?_)
      · refine lv_iinc (v := x2 + 1) (lv' := [(2, .int (x2 + 1)), (0, .ref a0), (1, .int x1)]) hx hb dX2_fillHeap_83 hl (k := 2) rfl rfl (by decide) rfl (fun ls hl => ?_)
        refine lv_goto (tgt := 22) hx hb dX2_fillHeap_86 (by decide) ?_
        exact ih _ h1 _ _ _ (by omega) (by rw [e2, nI_1]; congr 1; omega) (by subst eh2_1; rw [← hT]; simp only [cFillL, if_pos c_4]; try rfl) _ _ hP hD hS ls (lv_sub hl [1, 2, 0] rfl)
      · refine lv_aload_n hx hb dX2_fillHeap_36 rfl (lv_at hl 0 rfl) ?_
        refine va_get (D := D) (ci := 2) (v := .ref aw) (C := RX2) (T := TX2) (N := 9) hx hb hts hinX2 hown hK hP 0 rfl rfl 0 (by decide) (hts (.fieldLink RX2 9 "CobblerCodes$Tree" "weight" "[I") (by decide +kernel)) (fun _ h9 => h9) rfl dX2_fillHeap_37 ?_
        refine lv_aload_n hx hb dX2_fillHeap_40 rfl (lv_at hl 0 rfl) ?_
        refine va_get (D := D) (ci := 2) (v := .ref ap) (C := RX2) (T := TX2) (N := 9) hx hb hts hinX2 hown hK hP 0 rfl rfl 4 (by decide) (hts (.fieldLink RX2 24 "CobblerCodes$Tree" "placeOf" "[I") (by decide +kernel)) (fun _ h9 => h9) rfl dX2_fillHeap_41 ?_
        refine lv_iload_n hx hb dX2_fillHeap_44 rfl (lv_at hl 2 rfl) ?_
        have hPc := hP.sub (ws' := [(ap, .inl (cy, 33, .inl po))]) [5] rfl
        refine cb_callSi (r0 := (atN 33 po x2)) (va_runSN (As := [.ref ap, .int x2]) (rest := [.ref aw]) ⟨hx, hb, hml, hown, hts⟩ (kX3_at l D cy ap 33 po x2 (by first | assumption | decide)) ⟨va_cnB 2 hts gX2_fillHeap_X3_at_n54 rfl rfl rfl (hnw (.methodLinkNest RX2 54 yX3_at RX3) (by decide +kernel)) (hts (.initialized RX3) (by decide +kernel)) (by decide +kernel) ⟨Nat.le_of_ble_eq_true rfl, Nat.le_of_ble_eq_true rfl⟩, hts (.static yX3_at) (by decide +kernel), trivial⟩ (cb_Pp.ps hK hPc hnw) rfl rfl hl.1 rfl (lv_room (Nat.le_of_ble_eq_true rfl)) dX2_fillHeap_45 ⟨Nat.le_of_ble_eq_true rfl, Nat.le_of_ble_eq_true rfl⟩) ?_
        have hPc := hP.sub (ws' := [(aw, .inl (cy, 65, .inl T.1))]) [1] rfl
        refine cb_callSi (r0 := (atN 65 T.1 (atN 33 po x2))) (va_runSN (As := [.ref aw, .int (atN 33 po x2)]) (rest := []) ⟨hx, hb, hml, hown, hts⟩ (kX3_at l D cy aw 65 T.1 (atN 33 po x2) (by first | assumption | decide)) ⟨va_cnB 2 hts gX2_fillHeap_X3_at_n54 rfl rfl rfl (hnw (.methodLinkNest RX2 54 yX3_at RX3) (by decide +kernel)) (hts (.initialized RX3) (by decide +kernel)) (by decide +kernel) ⟨Nat.le_of_ble_eq_true rfl, Nat.le_of_ble_eq_true rfl⟩, hts (.static yX3_at) (by decide +kernel), trivial⟩ (cb_Pp.ps hK hPc hnw) rfl rfl hl.1 rfl (lv_room (Nat.le_of_ble_eq_true rfl)) dX2_fillHeap_48 ⟨Nat.le_of_ble_eq_true rfl, Nat.le_of_ble_eq_true rfl⟩) ?_
        refine lv_iconst (v := 2) hx hb dX2_fillHeap_51 (by decide) ?_
        refine lv_idiv hx hb dX2_fillHeap_52 (by decide) ?_
        refine lv_istore_n (lv' := [(3, .int ((atN 65 T.1 (atN 33 po x2)) / 2)), (0, .ref a0), (1, .int x1), (2, .int x2)]) hx hb dX2_fillHeap_53 rfl hl (by decide) rfl (fun ls hl => ?_)
        refine lv_iload_n hx hb dX2_fillHeap_54 rfl (lv_at hl 0 rfl) ?_
        refine lv_if_le (tgt := 71) hx hb dX2_fillHeap_55 (by decide) (fun c_5 => ?_) (fun c_5 => ?_)
        · refine lv_aload_n hx hb dX2_fillHeap_71 rfl (lv_at hl 1 rfl) ?_
          refine va_get (D := D) (ci := 2) (v := .ref ap) (C := RX2) (T := TX2) (N := 9) hx hb hts hinX2 hown hK hP 0 rfl rfl 4 (by decide) (hts (.fieldLink RX2 24 "CobblerCodes$Tree" "placeOf" "[I") (by decide +kernel)) (fun _ h9 => h9) rfl dX2_fillHeap_72 ?_
          refine lv_iload_n hx hb dX2_fillHeap_75 rfl (lv_at hl 3 rfl) ?_
          refine lv_iconst (v := (-1)) hx hb dX2_fillHeap_76 (by decide) ?_
          have hPc := hP.sub (ws' := [(ap, .inl (cy, 33, .inl po))]) [5] rfl
          have hDc := hD.sub (ws' := [(ap, .inl (cy, 33, .inl po))]) [5] (by decide) rfl
          refine cb_callQv (wc := [(ap, .inl (cy, 33, .inl po))]) (wr := [(a0, .inr (2, [.ref aw, .ref al, .ref af, .ref ab, .ref ap, .ref ah, .int sn, .int ex, .int wr])), (aw, .inl (cy, 65, .inl T.1)), (al, .inl (cy, 65, .inl T.2.1)), (af, .inl (cy, 65, .inl T.2.2.1)), (ab, .inl (cy, 65, .inl T.2.2.2.1)), (ah, .inr (0, [.ref gw, .ref gl, .ref gf, .int hs1])), (gw, .inl (cy, 65, .inl h1.1)), (gl, .inl (cy, 65, .inl h1.2.1)), (gf, .inl (cy, 65, .inl h1.2.2))]) (wc' := [(ap, .inl (cy, 33, .inl (putN 33 po x2 (-1))))]) (ws2 := [(a0, .inr (2, [.ref aw, .ref al, .ref af, .ref ab, .ref ap, .ref ah, .int sn, .int ex, .int wr])), (aw, .inl (cy, 65, .inl T.1)), (al, .inl (cy, 65, .inl T.2.1)), (af, .inl (cy, 65, .inl T.2.2.1)), (ab, .inl (cy, 65, .inl T.2.2.2.1)), (ap, .inl (cy, 33, .inl (putN 33 po x2 (-1)))), (ah, .inr (0, [.ref gw, .ref gl, .ref gf, .int hs1])), (gw, .inl (cy, 65, .inl h1.1)), (gl, .inl (cy, 65, .inl h1.2.1)), (gf, .inl (cy, 65, .inl h1.2.2))]) hP hD hS hA [5] [0, 1, 2, 3, 4, 6, 7, 8, 9] [0, 1, 2, 3, 4, 9, 5, 6, 7, 8] (va_runSN (As := [.ref ap, .int x2, .int (-1)]) (rest := []) ⟨hx, hb, hml, hown, hts⟩ (kX3_put l D cy _ ap 33 po x2 (-1) (by first | assumption | decide)) ⟨va_cnB 3 hts gX2_fillHeap_X3_put_n68 rfl rfl rfl (hnw (.methodLinkNest RX2 68 yX3_put RX3) (by decide +kernel)) (hts (.initialized RX3) (by decide +kernel)) (by decide +kernel) ⟨Nat.le_of_ble_eq_true rfl, Nat.le_of_ble_eq_true rfl⟩, hts (.static yX3_put) (by decide +kernel), trivial⟩ (cb_Pw.ps hK hPc hDc hnw) rfl rfl hl.1 rfl (lv_room (Nat.le_of_ble_eq_true rfl)) dX2_fillHeap_77 ⟨Nat.le_of_ble_eq_true rfl, Nat.le_of_ble_eq_true rfl⟩) rfl rfl (by decide) (by decide) rfl (by decide) (fun H locs hP hD hS => ?_)
          refine lv_iinc (v := x1 + 1) (lv' := [(1, .int (x1 + 1)), (3, .int ((atN 65 T.1 (atN 33 po x2)) / 2)), (0, .ref a0), (2, .int x2)]) hx hb dX2_fillHeap_80 hl (k := 2) rfl rfl (by decide) rfl (fun ls hl => ?_)
          refine lv_iinc (v := x2 + 1) (lv' := [(2, .int (x2 + 1)), (1, .int (x1 + 1)), (3, .int ((atN 65 T.1 (atN 33 po x2)) / 2)), (0, .ref a0)]) hx hb dX2_fillHeap_83 hl (k := 3) rfl rfl (by decide) rfl (fun ls hl => ?_)
          refine lv_goto (tgt := 22) hx hb dX2_fillHeap_86 (by decide) ?_
          exact ih _ h1 _ _ _ (by omega) (by rw [e2, nI_1]; congr 1; omega) (by subst eh2_1; rw [← hT]; simp only [cFillL, if_neg c_4, if_pos c_5]; try rfl) _ _ hP hD hS ls (lv_sub hl [3, 1, 0] rfl)
        · refine lv_aload_n hx hb dX2_fillHeap_58 rfl (lv_at hl 1 rfl) ?_
          refine va_get (D := D) (ci := 2) (v := .ref ah) (C := RX2) (T := TX2) (N := 9) hx hb hts hinX2 hown hK hP 0 rfl rfl 5 (by decide) (hts (.fieldLink RX2 30 "CobblerCodes$Tree" "heap" "LCobblerCodes$Heap;") (by decide +kernel)) (fun _ h9 => h9) rfl dX2_fillHeap_59 ?_
          refine lv_iload_n hx hb dX2_fillHeap_62 rfl (lv_at hl 0 rfl) ?_
          refine lv_iload_n hx hb dX2_fillHeap_63 rfl (lv_at hl 3 rfl) ?_
          refine lv_iconst (v := (-1)) hx hb dX2_fillHeap_64 (by decide) ?_
          have hPc := hP.sub (ws' := [(ah, .inr (0, [.ref gw, .ref gl, .ref gf, .int hs1])), (gw, .inl (cy, 65, .inl h1.1)), (gl, .inl (cy, 65, .inl h1.2.1)), (gf, .inl (cy, 65, .inl h1.2.2))]) [6, 7, 8, 9] rfl
          have hDc := hD.sub (ws' := [(ah, .inr (0, [.ref gw, .ref gl, .ref gf, .int hs1])), (gw, .inl (cy, 65, .inl h1.1)), (gl, .inl (cy, 65, .inl h1.2.1)), (gf, .inl (cy, 65, .inl h1.2.2))]) [6, 7, 8, 9] (by decide) rfl
          refine cb_callQv (wc := [(ah, .inr (0, [.ref gw, .ref gl, .ref gf, .int hs1])), (gw, .inl (cy, 65, .inl h1.1)), (gl, .inl (cy, 65, .inl h1.2.1)), (gf, .inl (cy, 65, .inl h1.2.2))]) (wr := [(a0, .inr (2, [.ref aw, .ref al, .ref af, .ref ab, .ref ap, .ref ah, .int sn, .int ex, .int wr])), (aw, .inl (cy, 65, .inl T.1)), (al, .inl (cy, 65, .inl T.2.1)), (af, .inl (cy, 65, .inl T.2.2.1)), (ab, .inl (cy, 65, .inl T.2.2.2.1)), (ap, .inl (cy, 33, .inl po))]) (wc' := [(ah, .inr (0, [.ref gw, .ref gl, .ref gf, .int (hs1 + 1)])), (gw, .inl (cy, 65, .inl ((cAdd h1 hs1 ((atN 65 T.1 (atN 33 po x2)) / 2) x2 (-1)).1))), (gl, .inl (cy, 65, .inl ((cAdd h1 hs1 ((atN 65 T.1 (atN 33 po x2)) / 2) x2 (-1)).2.1))), (gf, .inl (cy, 65, .inl ((cAdd h1 hs1 ((atN 65 T.1 (atN 33 po x2)) / 2) x2 (-1)).2.2)))]) (ws2 := [(a0, .inr (2, [.ref aw, .ref al, .ref af, .ref ab, .ref ap, .ref ah, .int sn, .int ex, .int wr])), (aw, .inl (cy, 65, .inl T.1)), (al, .inl (cy, 65, .inl T.2.1)), (af, .inl (cy, 65, .inl T.2.2.1)), (ab, .inl (cy, 65, .inl T.2.2.2.1)), (ap, .inl (cy, 33, .inl po)), (ah, .inr (0, [.ref gw, .ref gl, .ref gf, .int (hs1 + 1)])), (gw, .inl (cy, 65, .inl ((cAdd h1 hs1 ((atN 65 T.1 (atN 33 po x2)) / 2) x2 (-1)).1))), (gl, .inl (cy, 65, .inl ((cAdd h1 hs1 ((atN 65 T.1 (atN 33 po x2)) / 2) x2 (-1)).2.1))), (gf, .inl (cy, 65, .inl ((cAdd h1 hs1 ((atN 65 T.1 (atN 33 po x2)) / 2) x2 (-1)).2.2)))]) hP hD hS hA [6, 7, 8, 9] [0, 1, 2, 3, 4, 5] [0, 1, 2, 3, 4, 5, 6, 7, 8, 9] (va_runVN (As := [.int ((atN 65 T.1 (atN 33 po x2)) / 2), .int x2, .int (-1)]) (rest := []) ⟨hx, hb, hml, hown, hts⟩ (kX0_add l D cy _ ah gw gl gf h1 hs1 ((atN 65 T.1 (atN 33 po x2)) / 2) x2 (-1)) ⟨va_cnB 3 hts gX2_fillHeap_X0_add_n89 rfl rfl rfl (hnw (.methodLinkNest RX2 89 yX0_add RX3) (by decide +kernel)) (hts (.initialized RX0) (by decide +kernel)) (by decide +kernel) ⟨Nat.le_of_ble_eq_true rfl, Nat.le_of_ble_eq_true rfl⟩, hts (.instanceMethod yX0_add) (by decide +kernel), hts (.selects RX0 yX0_add yX0_add) (by decide +kernel)⟩ (cb_Pw.pv hK hPc hDc hnw (ci := 0) (q0 := 0) rfl rfl) rfl rfl hl.1 rfl (lv_room (Nat.le_of_ble_eq_true rfl)) dX2_fillHeap_65 ⟨Nat.le_of_ble_eq_true rfl, Nat.le_of_ble_eq_true rfl⟩) rfl rfl (by decide) (by decide) rfl (by decide) (fun H locs hP hD hS => ?_)
          generalize eh2_6 : cAdd h1 hs1 ((atN 65 T.1 (atN 33 po x2)) / 2) x2 (-1) = h2_6 at hP hD ⊢
          refine lv_goto (tgt := 83) hx hb dX2_fillHeap_68 (by decide) ?_
          refine lv_iinc (v := x2 + 1) (lv' := [(2, .int (x2 + 1)), (3, .int ((atN 65 T.1 (atN 33 po x2)) / 2)), (0, .ref a0), (1, .int x1)]) hx hb dX2_fillHeap_83 hl (k := 3) rfl rfl (by decide) rfl (fun ls hl => ?_)
          refine lv_goto (tgt := 22) hx hb dX2_fillHeap_86 (by decide) ?_
          exact ih _ h2_6 _ _ _ (by omega) (by rw [e2, nI_1]; congr 1; omega) (by subst eh2_6; subst eh2_1; rw [← hT]; simp only [cFillL, if_neg c_4, if_neg c_5]; try rfl) _ _ hP hD hS ls (lv_sub hl [2, 3, 0] rfl)
  exact L22 32 _ h2_1 _ 0 0 (Nat.le_refl 32) rfl (by subst eh2_1; rfl) _ _ hP hD hS ls (lv_sub hl [2, 1, 0] rfl)

set_option maxHeartbeats 4000000 in
set_option maxRecDepth 100000 in
theorem kX2_wearDown (l : Launch) (D : va_G) (cy : ClassId) (sz : Nat) (a0 aw al af ab ap ah gw gl gf : Nat) (S : TS) : Met l yX2_wearDown wsX2_wearDown ({ frames := 3, cells := 0, slots := 0, locals := 69 }) (cb_Pw D (cb_tys cy) [(a0, .inr (2, [.ref aw, .ref al, .ref af, .ref ab, .ref ap, .ref ah, .int S.2.1, .int S.2.2.1, .int S.2.2.2.1])), (aw, .inl (cy, 65, .inl S.1.1)), (al, .inl (cy, 65, .inl S.1.2.1)), (af, .inl (cy, 65, .inl S.1.2.2.1)), (ab, .inl (cy, 65, .inl S.1.2.2.2.1)), (ap, .inl (cy, 33, .inl S.1.2.2.2.2)), (ah, .inr (0, [.ref gw, .ref gl, .ref gf, .int S.2.2.2.2.2])), (gw, .inl (cy, 65, .inl S.2.2.2.2.1.1)), (gl, .inl (cy, 65, .inl S.2.2.2.2.1.2.1)), (gf, .inl (cy, 65, .inl S.2.2.2.2.1.2.2))] sz [.ref a0]) (cb_Qi D (cb_tys cy) (va_A [(a0, .inr (2, [.ref aw, .ref al, .ref af, .ref ab, .ref ap, .ref ah, .int S.2.1, .int S.2.2.1, .int S.2.2.2.1])), (aw, .inl (cy, 65, .inl S.1.1)), (al, .inl (cy, 65, .inl S.1.2.1)), (af, .inl (cy, 65, .inl S.1.2.2.1)), (ab, .inl (cy, 65, .inl S.1.2.2.2.1)), (ap, .inl (cy, 33, .inl S.1.2.2.2.2)), (ah, .inr (0, [.ref gw, .ref gl, .ref gf, .int S.2.2.2.2.2])), (gw, .inl (cy, 65, .inl S.2.2.2.2.1.1)), (gl, .inl (cy, 65, .inl S.2.2.2.2.1.2.1)), (gf, .inl (cy, 65, .inl S.2.2.2.2.1.2.2))] sz) [(a0, .inr (2, [.ref aw, .ref al, .ref af, .ref ab, .ref ap, .ref ah, .int (cWear S).1.2.1, .int (cWear S).1.2.2.1, .int (cWear S).1.2.2.2.1])), (aw, .inl (cy, 65, .inl (cWear S).1.1.1)), (al, .inl (cy, 65, .inl (cWear S).1.1.2.1)), (af, .inl (cy, 65, .inl (cWear S).1.1.2.2.1)), (ab, .inl (cy, 65, .inl (cWear S).1.1.2.2.2.1)), (ap, .inl (cy, 33, .inl (cWear S).1.1.2.2.2.2)), (ah, .inr (0, [.ref gw, .ref gl, .ref gf, .int (cWear S).1.2.2.2.2.2])), (gw, .inl (cy, 65, .inl (cWear S).1.2.2.2.2.1.1)), (gl, .inl (cy, 65, .inl (cWear S).1.2.2.2.2.1.2.1)), (gf, .inl (cy, 65, .inl (cWear S).1.2.2.2.2.1.2.2))] ((cWear S).2)) 0 0 (va_A [(a0, .inr (2, [.ref aw, .ref al, .ref af, .ref ab, .ref ap, .ref ah, .int S.2.1, .int S.2.2.1, .int S.2.2.2.1])), (aw, .inl (cy, 65, .inl S.1.1)), (al, .inl (cy, 65, .inl S.1.2.1)), (af, .inl (cy, 65, .inl S.1.2.2.1)), (ab, .inl (cy, 65, .inl S.1.2.2.2.1)), (ap, .inl (cy, 33, .inl S.1.2.2.2.2)), (ah, .inr (0, [.ref gw, .ref gl, .ref gf, .int S.2.2.2.2.2])), (gw, .inl (cy, 65, .inl S.2.2.2.2.1.1)), (gl, .inl (cy, 65, .inl S.2.2.2.2.1.2.1)), (gf, .inl (cy, 65, .inl S.2.2.2.2.1.2.2))] sz) := by
  refine Met.ofW (cc := cX2_wearDown) (maxL := 5) (ret := (some .int)) (by decide) rfl ?_
  intro p e s m args below meth c s₁ B hml hv
  obtain ⟨rfl, hsz, hP, hK, hD0, hnw⟩ := hv
  have hx := B.exec
  have hb := B.bytes
  have hr := B.returns
  have hts := atoms_spec (ws := wsX2_wearDown) B.pre
  have hown : s.vm.findClass RX2 = some m.cls := findClass_of_methodNamed B.named
  have hlocks := B.notSynchronized
  have hinX2 : ∀ w ∈ wsX20, w ∈ wsX2_wearDown := by decide +kernel
  subst hsz
  have hD := hD0.self (sz := s.heap.size)
  generalize hAe : va_A [(a0, .inr (2, [.ref aw, .ref al, .ref af, .ref ab, .ref ap, .ref ah, .int S.2.1, .int S.2.2.1, .int S.2.2.2.1])), (aw, .inl (cy, 65, .inl S.1.1)), (al, .inl (cy, 65, .inl S.1.2.1)), (af, .inl (cy, 65, .inl S.1.2.2.1)), (ab, .inl (cy, 65, .inl S.1.2.2.2.1)), (ap, .inl (cy, 33, .inl S.1.2.2.2.2)), (ah, .inr (0, [.ref gw, .ref gl, .ref gf, .int S.2.2.2.2.2])), (gw, .inl (cy, 65, .inl S.2.2.2.2.1.1)), (gl, .inl (cy, 65, .inl S.2.2.2.2.1.2.1)), (gf, .inl (cy, 65, .inl S.2.2.2.2.1.2.2))] s.heap.size = A at hD ⊢
  have hA : ∀ q : Nat, s.heap.size ≤ q → A q := fun q h => by rw [← hAe]; exact Or.inr h
  clear hAe
  have hS : va_S A s.heap s.heap [] := va_S.rf
  have hl := lv_entry ([.ref a0]) (n := 5) (Nat.le_of_ble_eq_true rfl)
  rw [lg_entry_eq]
  generalize (lg_sl ([.ref a0]) ++ List.replicate (5 - (lg_sl ([.ref a0])).length) Slot.unset).toArray = ls at hl ⊢
  have hl : lv_has ls 5 [(0, .ref a0)] := hl
  refine lv_aload_n hx hb dX2_wearDown_0 rfl (lv_at hl 0 rfl) ?_
  have hPc := hP.sub (ws' := [(a0, .inr (2, [.ref aw, .ref al, .ref af, .ref ab, .ref ap, .ref ah, .int S.2.1, .int S.2.2.1, .int S.2.2.2.1])), (aw, .inl (cy, 65, .inl S.1.1)), (al, .inl (cy, 65, .inl S.1.2.1)), (af, .inl (cy, 65, .inl S.1.2.2.1)), (ab, .inl (cy, 65, .inl S.1.2.2.2.1)), (ap, .inl (cy, 33, .inl S.1.2.2.2.2)), (ah, .inr (0, [.ref gw, .ref gl, .ref gf, .int S.2.2.2.2.2])), (gw, .inl (cy, 65, .inl S.2.2.2.2.1.1)), (gl, .inl (cy, 65, .inl S.2.2.2.2.1.2.1)), (gf, .inl (cy, 65, .inl S.2.2.2.2.1.2.2))]) [0, 1, 2, 3, 4, 5, 6, 7, 8, 9] rfl
  have hDc := hD.sub (ws' := [(a0, .inr (2, [.ref aw, .ref al, .ref af, .ref ab, .ref ap, .ref ah, .int S.2.1, .int S.2.2.1, .int S.2.2.2.1])), (aw, .inl (cy, 65, .inl S.1.1)), (al, .inl (cy, 65, .inl S.1.2.1)), (af, .inl (cy, 65, .inl S.1.2.2.1)), (ab, .inl (cy, 65, .inl S.1.2.2.2.1)), (ap, .inl (cy, 33, .inl S.1.2.2.2.2)), (ah, .inr (0, [.ref gw, .ref gl, .ref gf, .int S.2.2.2.2.2])), (gw, .inl (cy, 65, .inl S.2.2.2.2.1.1)), (gl, .inl (cy, 65, .inl S.2.2.2.2.1.2.1)), (gf, .inl (cy, 65, .inl S.2.2.2.2.1.2.2))]) [0, 1, 2, 3, 4, 5, 6, 7, 8, 9] (by decide) rfl
  refine cb_callQi (wc := [(a0, .inr (2, [.ref aw, .ref al, .ref af, .ref ab, .ref ap, .ref ah, .int S.2.1, .int S.2.2.1, .int S.2.2.2.1])), (aw, .inl (cy, 65, .inl S.1.1)), (al, .inl (cy, 65, .inl S.1.2.1)), (af, .inl (cy, 65, .inl S.1.2.2.1)), (ab, .inl (cy, 65, .inl S.1.2.2.2.1)), (ap, .inl (cy, 33, .inl S.1.2.2.2.2)), (ah, .inr (0, [.ref gw, .ref gl, .ref gf, .int S.2.2.2.2.2])), (gw, .inl (cy, 65, .inl S.2.2.2.2.1.1)), (gl, .inl (cy, 65, .inl S.2.2.2.2.1.2.1)), (gf, .inl (cy, 65, .inl S.2.2.2.2.1.2.2))]) (wr := []) (wc' := [(a0, .inr (2, [.ref aw, .ref al, .ref af, .ref ab, .ref ap, .ref ah, .int S.2.1, .int S.2.2.1, .int S.2.2.2.1])), (aw, .inl (cy, 65, .inl S.1.1)), (al, .inl (cy, 65, .inl S.1.2.1)), (af, .inl (cy, 65, .inl S.1.2.2.1)), (ab, .inl (cy, 65, .inl S.1.2.2.2.1)), (ap, .inl (cy, 33, .inl ((cFill S.1 S.2.2.2.2.1).1))), (ah, .inr (0, [.ref gw, .ref gl, .ref gf, .int ((cFill S.1 S.2.2.2.2.1).2.2.1)])), (gw, .inl (cy, 65, .inl ((cFill S.1 S.2.2.2.2.1).2.1.1))), (gl, .inl (cy, 65, .inl ((cFill S.1 S.2.2.2.2.1).2.1.2.1))), (gf, .inl (cy, 65, .inl ((cFill S.1 S.2.2.2.2.1).2.1.2.2)))]) (ws2 := [(a0, .inr (2, [.ref aw, .ref al, .ref af, .ref ab, .ref ap, .ref ah, .int S.2.1, .int S.2.2.1, .int S.2.2.2.1])), (aw, .inl (cy, 65, .inl S.1.1)), (al, .inl (cy, 65, .inl S.1.2.1)), (af, .inl (cy, 65, .inl S.1.2.2.1)), (ab, .inl (cy, 65, .inl S.1.2.2.2.1)), (ap, .inl (cy, 33, .inl ((cFill S.1 S.2.2.2.2.1).1))), (ah, .inr (0, [.ref gw, .ref gl, .ref gf, .int ((cFill S.1 S.2.2.2.2.1).2.2.1)])), (gw, .inl (cy, 65, .inl ((cFill S.1 S.2.2.2.2.1).2.1.1))), (gl, .inl (cy, 65, .inl ((cFill S.1 S.2.2.2.2.1).2.1.2.1))), (gf, .inl (cy, 65, .inl ((cFill S.1 S.2.2.2.2.1).2.1.2.2)))]) hP hD hS hA [0, 1, 2, 3, 4, 5, 6, 7, 8, 9] [] [0, 1, 2, 3, 4, 5, 6, 7, 8, 9] (va_runV (As := []) (rest := []) ⟨hx, hb, hml, hown, hts⟩ (kX2_fillHeap l D cy _ a0 aw al af ab ap ah gw gl gf S.1 S.2.1 S.2.2.1 S.2.2.2.1 S.2.2.2.2.1 S.2.2.2.2.2) (cwV 0 hts gX2_wearDown_X2_fillHeap rfl rfl rfl (by decide +kernel) ⟨Nat.le_of_ble_eq_true rfl, Nat.le_of_ble_eq_true rfl⟩) (cb_Pw.pv hK hPc hDc hnw (ci := 2) (q0 := 0) rfl rfl) rfl rfl hl.1 rfl (lv_room (Nat.le_of_ble_eq_true rfl)) dX2_wearDown_1 ⟨Nat.le_of_ble_eq_true rfl, Nat.le_of_ble_eq_true rfl⟩) rfl rfl (by decide) (by decide) rfl (by decide) (fun H locs hP hD hS => ?_)
  generalize eZ_1 : cFill S.1 S.2.2.2.2.1 = Z_1 at hP hD ⊢
  refine lv_istore_n (lv' := [(1, .int Z_1.2.2.2), (0, .ref a0)]) hx hb dX2_wearDown_4 rfl hl (by decide) rfl (fun ls hl => ?_)
  refine lv_aload_n hx hb dX2_wearDown_5 rfl (lv_at hl 1 rfl) ?_
  refine lv_dup hx hb dX2_wearDown_6 rfl ?_
  refine va_get (D := D) (ci := 2) (v := .int S.2.1) (C := RX2) (T := TX2) (N := 9) hx hb hts hinX2 hown hK hP 0 rfl rfl 6 (by decide) (hts (.fieldLink RX2 40 "CobblerCodes$Tree" "size" "I") (by decide +kernel)) (fun _ h9 => h9) rfl dX2_wearDown_7 ?_
  refine lv_iconst (v := 2) hx hb dX2_wearDown_10 (by decide) ?_
  refine lv_iload_n hx hb dX2_wearDown_11 rfl (lv_at hl 0 rfl) ?_
  refine lv_imul hx hb dX2_wearDown_12 ?_
  refine lv_isub hx hb dX2_wearDown_13 ?_
  refine va_put (D := D) (ci := 2) (v := .int (S.2.1 - (2 * Z_1.2.2.2))) (ty := .int) (C := RX2) (T := TX2) (N := 9) hx hb hts hinX2 tyX2 tyX2_ok nmX2 hown hK hP hD hS 0 rfl rfl 6 (by decide) (hts (.fieldLink RX2 40 "CobblerCodes$Tree" "size" "I") (by decide +kernel)) (fun _ h9 => h9) rfl (by decide +kernel) rfl rfl (Nat.le_of_ble_eq_true rfl) dX2_wearDown_14 (fun H locs hP hD hS => ?_)
  have hP : va_P D vwCl [(a0, .inr (2, [.ref aw, .ref al, .ref af, .ref ab, .ref ap, .ref ah, .int (S.2.1 - (2 * Z_1.2.2.2)), .int S.2.2.1, .int S.2.2.2.1])), (aw, .inl (cy, 65, .inl S.1.1)), (al, .inl (cy, 65, .inl S.1.2.1)), (af, .inl (cy, 65, .inl S.1.2.2.1)), (ab, .inl (cy, 65, .inl S.1.2.2.2.1)), (ap, .inl (cy, 33, .inl Z_1.1)), (ah, .inr (0, [.ref gw, .ref gl, .ref gf, .int Z_1.2.2.1])), (gw, .inl (cy, 65, .inl Z_1.2.1.1)), (gl, .inl (cy, 65, .inl Z_1.2.1.2.1)), (gf, .inl (cy, 65, .inl Z_1.2.1.2.2))] H := hP
  have hD : va_D A [(a0, .inr (2, [.ref aw, .ref al, .ref af, .ref ab, .ref ap, .ref ah, .int (S.2.1 - (2 * Z_1.2.2.2)), .int S.2.2.1, .int S.2.2.2.1])), (aw, .inl (cy, 65, .inl S.1.1)), (al, .inl (cy, 65, .inl S.1.2.1)), (af, .inl (cy, 65, .inl S.1.2.2.1)), (ab, .inl (cy, 65, .inl S.1.2.2.2.1)), (ap, .inl (cy, 33, .inl Z_1.1)), (ah, .inr (0, [.ref gw, .ref gl, .ref gf, .int Z_1.2.2.1])), (gw, .inl (cy, 65, .inl Z_1.2.1.1)), (gl, .inl (cy, 65, .inl Z_1.2.1.2.1)), (gf, .inl (cy, 65, .inl Z_1.2.1.2.2))] := hD
  refine lv_aload_n hx hb dX2_wearDown_17 rfl (lv_at hl 1 rfl) ?_
  refine va_get (D := D) (ci := 2) (v := .int (S.2.1 - (2 * Z_1.2.2.2))) (C := RX2) (T := TX2) (N := 9) hx hb hts hinX2 hown hK hP 0 rfl rfl 6 (by decide) (hts (.fieldLink RX2 40 "CobblerCodes$Tree" "size" "I") (by decide +kernel)) (fun _ h9 => h9) rfl dX2_wearDown_18 ?_
  refine lv_iconst (v := 1) hx hb dX2_wearDown_21 (by decide) ?_
  refine lv_isub hx hb dX2_wearDown_22 ?_
  refine lv_istore_n (lv' := [(2, .int ((S.2.1 - (2 * Z_1.2.2.2)) - 1)), (1, .int Z_1.2.2.2), (0, .ref a0)]) hx hb dX2_wearDown_23 rfl hl (by decide) rfl (fun ls hl => ?_)
  have L24 : ∀ (k : Nat) (T1 : N5) (h1 : H3) (hs1 x2 : Int32), x2.toNatClampNeg ≤ k → cWearB (S.2.1 - (2 * Z_1.2.2.2)) S.2.2.1 S.2.2.2.1 (Z_1.2.2.2) (cWearL k T1 h1 hs1 x2) = cWear S → ∀ (H : Heap) (locs : List Loc), va_P D vwCl [(a0, .inr (2, [.ref aw, .ref al, .ref af, .ref ab, .ref ap, .ref ah, .int (S.2.1 - (2 * Z_1.2.2.2)), .int S.2.2.1, .int S.2.2.2.1])), (aw, .inl (cy, 65, .inl T1.1)), (al, .inl (cy, 65, .inl T1.2.1)), (af, .inl (cy, 65, .inl T1.2.2.1)), (ab, .inl (cy, 65, .inl T1.2.2.2.1)), (ap, .inl (cy, 33, .inl T1.2.2.2.2)), (ah, .inr (0, [.ref gw, .ref gl, .ref gf, .int hs1])), (gw, .inl (cy, 65, .inl h1.1)), (gl, .inl (cy, 65, .inl h1.2.1)), (gf, .inl (cy, 65, .inl h1.2.2))] H → va_D A [(a0, .inr (2, [.ref aw, .ref al, .ref af, .ref ab, .ref ap, .ref ah, .int (S.2.1 - (2 * Z_1.2.2.2)), .int S.2.2.1, .int S.2.2.2.1])), (aw, .inl (cy, 65, .inl T1.1)), (al, .inl (cy, 65, .inl T1.2.1)), (af, .inl (cy, 65, .inl T1.2.2.1)), (ab, .inl (cy, 65, .inl T1.2.2.2.1)), (ap, .inl (cy, 33, .inl T1.2.2.2.2)), (ah, .inr (0, [.ref gw, .ref gl, .ref gf, .int hs1])), (gw, .inl (cy, 65, .inl h1.1)), (gl, .inl (cy, 65, .inl h1.2.1)), (gf, .inl (cy, 65, .inl h1.2.2))] → va_S A s.heap H locs → ∀ (ls : Array Slot), lv_has ls 5 [(0, .ref a0), (1, .int Z_1.2.2.2), (2, .int x2)] → W p l e ({ frames := 3, cells := 0, slots := 0, locals := 69 } : Room) s m [.ref a0].toArray below meth c H locs 0 0 (MQ below (cb_Qi D (cb_tys cy) A [(a0, .inr (2, [.ref aw, .ref al, .ref af, .ref ab, .ref ap, .ref ah, .int (cWear S).1.2.1, .int (cWear S).1.2.2.1, .int (cWear S).1.2.2.2.1])), (aw, .inl (cy, 65, .inl (cWear S).1.1.1)), (al, .inl (cy, 65, .inl (cWear S).1.1.2.1)), (af, .inl (cy, 65, .inl (cWear S).1.1.2.2.1)), (ab, .inl (cy, 65, .inl (cWear S).1.1.2.2.2.1)), (ap, .inl (cy, 33, .inl (cWear S).1.1.2.2.2.2)), (ah, .inr (0, [.ref gw, .ref gl, .ref gf, .int (cWear S).1.2.2.2.2.2])), (gw, .inl (cy, 65, .inl (cWear S).1.2.2.2.2.1.1)), (gl, .inl (cy, 65, .inl (cWear S).1.2.2.2.2.1.2.1)), (gf, .inl (cy, 65, .inl (cWear S).1.2.2.2.2.1.2.2))] ((cWear S).2)) [.ref a0].toArray s 0 0 A) (F0 m 24 ls []) := by
    clear hP hD hS hl
    intro k
    induction k with
    | zero =>
      intro T1 h1 hs1 x2 hk hT H locs hP hD hS ls hl
      refine lv_iload_n hx hb dX2_wearDown_24 rfl (lv_at hl 2 rfl) ?_
      refine lv_if_le (tgt := 64) hx hb dX2_wearDown_25 (by decide) (fun c_2 => ?_) (fun c9 => absurd (cb_down0 hk) c9)
      refine lv_aload_n hx hb dX2_wearDown_64 rfl (lv_at hl 0 rfl) ?_
      refine lv_iconst (v := 0) hx hb dX2_wearDown_65 (by decide) ?_
      have hPc := hP.sub (ws' := [(a0, .inr (2, [.ref aw, .ref al, .ref af, .ref ab, .ref ap, .ref ah, .int (S.2.1 - (2 * Z_1.2.2.2)), .int S.2.2.1, .int S.2.2.2.1])), (aw, .inl (cy, 65, .inl T1.1)), (al, .inl (cy, 65, .inl T1.2.1)), (af, .inl (cy, 65, .inl T1.2.2.1)), (ab, .inl (cy, 65, .inl T1.2.2.2.1)), (ap, .inl (cy, 33, .inl T1.2.2.2.2)), (ah, .inr (0, [.ref gw, .ref gl, .ref gf, .int hs1])), (gw, .inl (cy, 65, .inl h1.1)), (gl, .inl (cy, 65, .inl h1.2.1)), (gf, .inl (cy, 65, .inl h1.2.2))]) [0, 1, 2, 3, 4, 5, 6, 7, 8, 9] rfl
      have hDc := hD.sub (ws' := [(a0, .inr (2, [.ref aw, .ref al, .ref af, .ref ab, .ref ap, .ref ah, .int (S.2.1 - (2 * Z_1.2.2.2)), .int S.2.2.1, .int S.2.2.2.1])), (aw, .inl (cy, 65, .inl T1.1)), (al, .inl (cy, 65, .inl T1.2.1)), (af, .inl (cy, 65, .inl T1.2.2.1)), (ab, .inl (cy, 65, .inl T1.2.2.2.1)), (ap, .inl (cy, 33, .inl T1.2.2.2.2)), (ah, .inr (0, [.ref gw, .ref gl, .ref gf, .int hs1])), (gw, .inl (cy, 65, .inl h1.1)), (gl, .inl (cy, 65, .inl h1.2.1)), (gf, .inl (cy, 65, .inl h1.2.2))]) [0, 1, 2, 3, 4, 5, 6, 7, 8, 9] (by decide) rfl
      refine cb_callQi (wc := [(a0, .inr (2, [.ref aw, .ref al, .ref af, .ref ab, .ref ap, .ref ah, .int (S.2.1 - (2 * Z_1.2.2.2)), .int S.2.2.1, .int S.2.2.2.1])), (aw, .inl (cy, 65, .inl T1.1)), (al, .inl (cy, 65, .inl T1.2.1)), (af, .inl (cy, 65, .inl T1.2.2.1)), (ab, .inl (cy, 65, .inl T1.2.2.2.1)), (ap, .inl (cy, 33, .inl T1.2.2.2.2)), (ah, .inr (0, [.ref gw, .ref gl, .ref gf, .int hs1])), (gw, .inl (cy, 65, .inl h1.1)), (gl, .inl (cy, 65, .inl h1.2.1)), (gf, .inl (cy, 65, .inl h1.2.2))]) (wr := []) (wc' := [(a0, .inr (2, [.ref aw, .ref al, .ref af, .ref ab, .ref ap, .ref ah, .int (S.2.1 - (2 * Z_1.2.2.2)), .int S.2.2.1, .int S.2.2.2.1])), (aw, .inl (cy, 65, .inl ((cTake T1 h1 hs1 0).1.1))), (al, .inl (cy, 65, .inl ((cTake T1 h1 hs1 0).1.2.1))), (af, .inl (cy, 65, .inl ((cTake T1 h1 hs1 0).1.2.2.1))), (ab, .inl (cy, 65, .inl ((cTake T1 h1 hs1 0).1.2.2.2.1))), (ap, .inl (cy, 33, .inl ((cTake T1 h1 hs1 0).1.2.2.2.2))), (ah, .inr (0, [.ref gw, .ref gl, .ref gf, .int hs1])), (gw, .inl (cy, 65, .inl ((cTake T1 h1 hs1 0).2.1))), (gl, .inl (cy, 65, .inl h1.2.1)), (gf, .inl (cy, 65, .inl h1.2.2))]) (ws2 := [(a0, .inr (2, [.ref aw, .ref al, .ref af, .ref ab, .ref ap, .ref ah, .int (S.2.1 - (2 * Z_1.2.2.2)), .int S.2.2.1, .int S.2.2.2.1])), (aw, .inl (cy, 65, .inl ((cTake T1 h1 hs1 0).1.1))), (al, .inl (cy, 65, .inl ((cTake T1 h1 hs1 0).1.2.1))), (af, .inl (cy, 65, .inl ((cTake T1 h1 hs1 0).1.2.2.1))), (ab, .inl (cy, 65, .inl ((cTake T1 h1 hs1 0).1.2.2.2.1))), (ap, .inl (cy, 33, .inl ((cTake T1 h1 hs1 0).1.2.2.2.2))), (ah, .inr (0, [.ref gw, .ref gl, .ref gf, .int hs1])), (gw, .inl (cy, 65, .inl ((cTake T1 h1 hs1 0).2.1))), (gl, .inl (cy, 65, .inl h1.2.1)), (gf, .inl (cy, 65, .inl h1.2.2))]) hP hD hS hA [0, 1, 2, 3, 4, 5, 6, 7, 8, 9] [] [0, 1, 2, 3, 4, 5, 6, 7, 8, 9] (va_runV (As := [.int 0]) (rest := []) ⟨hx, hb, hml, hown, hts⟩ (kX2_takeLightest l D cy _ a0 aw al af ab ap ah gw gl gf T1 (S.2.1 - (2 * Z_1.2.2.2)) S.2.2.1 S.2.2.2.1 h1 hs1 0) (cwV 1 hts gX2_wearDown_X2_takeLightest rfl rfl rfl (by decide +kernel) ⟨Nat.le_of_ble_eq_true rfl, Nat.le_of_ble_eq_true rfl⟩) (cb_Pw.pv hK hPc hDc hnw (ci := 2) (q0 := 0) rfl rfl) rfl rfl hl.1 rfl (lv_room (Nat.le_of_ble_eq_true rfl)) dX2_wearDown_66 ⟨Nat.le_of_ble_eq_true rfl, Nat.le_of_ble_eq_true rfl⟩) rfl rfl (by decide) (by decide) rfl (by decide) (fun H locs hP hD hS => ?_)
      generalize eK_3 : cTake T1 h1 hs1 0 = K_3 at hP hD ⊢
      refine lv_pop hx hb dX2_wearDown_69 rfl ?_
      refine lv_aload_n hx hb dX2_wearDown_70 rfl (lv_at hl 0 rfl) ?_
      refine lv_dup hx hb dX2_wearDown_71 rfl ?_
      refine va_get (D := D) (ci := 2) (v := .int S.2.2.2.1) (C := RX2) (T := TX2) (N := 9) hx hb hts hinX2 hown hK hP 0 rfl rfl 8 (by decide) (hts (.fieldLink RX2 93 "CobblerCodes$Tree" "wears" "I") (by decide +kernel)) (fun _ h9 => h9) rfl dX2_wearDown_72 ?_
      refine lv_iconst (v := 1) hx hb dX2_wearDown_75 (by decide) ?_
      refine lv_iadd hx hb dX2_wearDown_76 ?_
      refine va_put (D := D) (ci := 2) (v := .int (S.2.2.2.1 + 1)) (ty := .int) (C := RX2) (T := TX2) (N := 9) hx hb hts hinX2 tyX2 tyX2_ok nmX2 hown hK hP hD hS 0 rfl rfl 8 (by decide) (hts (.fieldLink RX2 93 "CobblerCodes$Tree" "wears" "I") (by decide +kernel)) (fun _ h9 => h9) rfl (by decide +kernel) rfl rfl (Nat.le_of_ble_eq_true rfl) dX2_wearDown_77 (fun H locs hP hD hS => ?_)
      have hP : va_P D vwCl [(a0, .inr (2, [.ref aw, .ref al, .ref af, .ref ab, .ref ap, .ref ah, .int (S.2.1 - (2 * Z_1.2.2.2)), .int S.2.2.1, .int (S.2.2.2.1 + 1)])), (aw, .inl (cy, 65, .inl K_3.1.1)), (al, .inl (cy, 65, .inl K_3.1.2.1)), (af, .inl (cy, 65, .inl K_3.1.2.2.1)), (ab, .inl (cy, 65, .inl K_3.1.2.2.2.1)), (ap, .inl (cy, 33, .inl K_3.1.2.2.2.2)), (ah, .inr (0, [.ref gw, .ref gl, .ref gf, .int hs1])), (gw, .inl (cy, 65, .inl K_3.2.1)), (gl, .inl (cy, 65, .inl h1.2.1)), (gf, .inl (cy, 65, .inl h1.2.2))] H := hP
      have hD : va_D A [(a0, .inr (2, [.ref aw, .ref al, .ref af, .ref ab, .ref ap, .ref ah, .int (S.2.1 - (2 * Z_1.2.2.2)), .int S.2.2.1, .int (S.2.2.2.1 + 1)])), (aw, .inl (cy, 65, .inl K_3.1.1)), (al, .inl (cy, 65, .inl K_3.1.2.1)), (af, .inl (cy, 65, .inl K_3.1.2.2.1)), (ab, .inl (cy, 65, .inl K_3.1.2.2.2.1)), (ap, .inl (cy, 33, .inl K_3.1.2.2.2.2)), (ah, .inr (0, [.ref gw, .ref gl, .ref gf, .int hs1])), (gw, .inl (cy, 65, .inl K_3.2.1)), (gl, .inl (cy, 65, .inl h1.2.1)), (gf, .inl (cy, 65, .inl h1.2.2))] := hD
      refine lv_iload_n hx hb dX2_wearDown_80 rfl (lv_at hl 1 rfl) ?_
      exact cb_endQi (v := Z_1.2.2.2) hx hb hr hlocks hP hD hK hS (by rw [← hT]; subst eK_3; rfl) (by rw [← hT]; subst eK_3; rfl) (by omega) (by omega) dX2_wearDown_81
    | succ k ih =>
      intro T1 h1 hs1 x2 hk hT H locs hP hD hS ls hl
      refine lv_iload_n hx hb dX2_wearDown_24 rfl (lv_at hl 2 rfl) ?_
      refine lv_if_le (tgt := 64) hx hb dX2_wearDown_25 (by decide) (fun c_4 => ?_) (fun c_4 => ?_)
      · refine lv_aload_n hx hb dX2_wearDown_64 rfl (lv_at hl 0 rfl) ?_
        refine lv_iconst (v := 0) hx hb dX2_wearDown_65 (by decide) ?_
        have hPc := hP.sub (ws' := [(a0, .inr (2, [.ref aw, .ref al, .ref af, .ref ab, .ref ap, .ref ah, .int (S.2.1 - (2 * Z_1.2.2.2)), .int S.2.2.1, .int S.2.2.2.1])), (aw, .inl (cy, 65, .inl T1.1)), (al, .inl (cy, 65, .inl T1.2.1)), (af, .inl (cy, 65, .inl T1.2.2.1)), (ab, .inl (cy, 65, .inl T1.2.2.2.1)), (ap, .inl (cy, 33, .inl T1.2.2.2.2)), (ah, .inr (0, [.ref gw, .ref gl, .ref gf, .int hs1])), (gw, .inl (cy, 65, .inl h1.1)), (gl, .inl (cy, 65, .inl h1.2.1)), (gf, .inl (cy, 65, .inl h1.2.2))]) [0, 1, 2, 3, 4, 5, 6, 7, 8, 9] rfl
        have hDc := hD.sub (ws' := [(a0, .inr (2, [.ref aw, .ref al, .ref af, .ref ab, .ref ap, .ref ah, .int (S.2.1 - (2 * Z_1.2.2.2)), .int S.2.2.1, .int S.2.2.2.1])), (aw, .inl (cy, 65, .inl T1.1)), (al, .inl (cy, 65, .inl T1.2.1)), (af, .inl (cy, 65, .inl T1.2.2.1)), (ab, .inl (cy, 65, .inl T1.2.2.2.1)), (ap, .inl (cy, 33, .inl T1.2.2.2.2)), (ah, .inr (0, [.ref gw, .ref gl, .ref gf, .int hs1])), (gw, .inl (cy, 65, .inl h1.1)), (gl, .inl (cy, 65, .inl h1.2.1)), (gf, .inl (cy, 65, .inl h1.2.2))]) [0, 1, 2, 3, 4, 5, 6, 7, 8, 9] (by decide) rfl
        refine cb_callQi (wc := [(a0, .inr (2, [.ref aw, .ref al, .ref af, .ref ab, .ref ap, .ref ah, .int (S.2.1 - (2 * Z_1.2.2.2)), .int S.2.2.1, .int S.2.2.2.1])), (aw, .inl (cy, 65, .inl T1.1)), (al, .inl (cy, 65, .inl T1.2.1)), (af, .inl (cy, 65, .inl T1.2.2.1)), (ab, .inl (cy, 65, .inl T1.2.2.2.1)), (ap, .inl (cy, 33, .inl T1.2.2.2.2)), (ah, .inr (0, [.ref gw, .ref gl, .ref gf, .int hs1])), (gw, .inl (cy, 65, .inl h1.1)), (gl, .inl (cy, 65, .inl h1.2.1)), (gf, .inl (cy, 65, .inl h1.2.2))]) (wr := []) (wc' := [(a0, .inr (2, [.ref aw, .ref al, .ref af, .ref ab, .ref ap, .ref ah, .int (S.2.1 - (2 * Z_1.2.2.2)), .int S.2.2.1, .int S.2.2.2.1])), (aw, .inl (cy, 65, .inl ((cTake T1 h1 hs1 0).1.1))), (al, .inl (cy, 65, .inl ((cTake T1 h1 hs1 0).1.2.1))), (af, .inl (cy, 65, .inl ((cTake T1 h1 hs1 0).1.2.2.1))), (ab, .inl (cy, 65, .inl ((cTake T1 h1 hs1 0).1.2.2.2.1))), (ap, .inl (cy, 33, .inl ((cTake T1 h1 hs1 0).1.2.2.2.2))), (ah, .inr (0, [.ref gw, .ref gl, .ref gf, .int hs1])), (gw, .inl (cy, 65, .inl ((cTake T1 h1 hs1 0).2.1))), (gl, .inl (cy, 65, .inl h1.2.1)), (gf, .inl (cy, 65, .inl h1.2.2))]) (ws2 := [(a0, .inr (2, [.ref aw, .ref al, .ref af, .ref ab, .ref ap, .ref ah, .int (S.2.1 - (2 * Z_1.2.2.2)), .int S.2.2.1, .int S.2.2.2.1])), (aw, .inl (cy, 65, .inl ((cTake T1 h1 hs1 0).1.1))), (al, .inl (cy, 65, .inl ((cTake T1 h1 hs1 0).1.2.1))), (af, .inl (cy, 65, .inl ((cTake T1 h1 hs1 0).1.2.2.1))), (ab, .inl (cy, 65, .inl ((cTake T1 h1 hs1 0).1.2.2.2.1))), (ap, .inl (cy, 33, .inl ((cTake T1 h1 hs1 0).1.2.2.2.2))), (ah, .inr (0, [.ref gw, .ref gl, .ref gf, .int hs1])), (gw, .inl (cy, 65, .inl ((cTake T1 h1 hs1 0).2.1))), (gl, .inl (cy, 65, .inl h1.2.1)), (gf, .inl (cy, 65, .inl h1.2.2))]) hP hD hS hA [0, 1, 2, 3, 4, 5, 6, 7, 8, 9] [] [0, 1, 2, 3, 4, 5, 6, 7, 8, 9] (va_runV (As := [.int 0]) (rest := []) ⟨hx, hb, hml, hown, hts⟩ (kX2_takeLightest l D cy _ a0 aw al af ab ap ah gw gl gf T1 (S.2.1 - (2 * Z_1.2.2.2)) S.2.2.1 S.2.2.2.1 h1 hs1 0) (cwV 1 hts gX2_wearDown_X2_takeLightest rfl rfl rfl (by decide +kernel) ⟨Nat.le_of_ble_eq_true rfl, Nat.le_of_ble_eq_true rfl⟩) (cb_Pw.pv hK hPc hDc hnw (ci := 2) (q0 := 0) rfl rfl) rfl rfl hl.1 rfl (lv_room (Nat.le_of_ble_eq_true rfl)) dX2_wearDown_66 ⟨Nat.le_of_ble_eq_true rfl, Nat.le_of_ble_eq_true rfl⟩) rfl rfl (by decide) (by decide) rfl (by decide) (fun H locs hP hD hS => ?_)
        generalize eK_5 : cTake T1 h1 hs1 0 = K_5 at hP hD ⊢
        refine lv_pop hx hb dX2_wearDown_69 rfl ?_
        refine lv_aload_n hx hb dX2_wearDown_70 rfl (lv_at hl 0 rfl) ?_
        refine lv_dup hx hb dX2_wearDown_71 rfl ?_
        refine va_get (D := D) (ci := 2) (v := .int S.2.2.2.1) (C := RX2) (T := TX2) (N := 9) hx hb hts hinX2 hown hK hP 0 rfl rfl 8 (by decide) (hts (.fieldLink RX2 93 "CobblerCodes$Tree" "wears" "I") (by decide +kernel)) (fun _ h9 => h9) rfl dX2_wearDown_72 ?_
        refine lv_iconst (v := 1) hx hb dX2_wearDown_75 (by decide) ?_
        refine lv_iadd hx hb dX2_wearDown_76 ?_
        refine va_put (D := D) (ci := 2) (v := .int (S.2.2.2.1 + 1)) (ty := .int) (C := RX2) (T := TX2) (N := 9) hx hb hts hinX2 tyX2 tyX2_ok nmX2 hown hK hP hD hS 0 rfl rfl 8 (by decide) (hts (.fieldLink RX2 93 "CobblerCodes$Tree" "wears" "I") (by decide +kernel)) (fun _ h9 => h9) rfl (by decide +kernel) rfl rfl (Nat.le_of_ble_eq_true rfl) dX2_wearDown_77 (fun H locs hP hD hS => ?_)
        have hP : va_P D vwCl [(a0, .inr (2, [.ref aw, .ref al, .ref af, .ref ab, .ref ap, .ref ah, .int (S.2.1 - (2 * Z_1.2.2.2)), .int S.2.2.1, .int (S.2.2.2.1 + 1)])), (aw, .inl (cy, 65, .inl K_5.1.1)), (al, .inl (cy, 65, .inl K_5.1.2.1)), (af, .inl (cy, 65, .inl K_5.1.2.2.1)), (ab, .inl (cy, 65, .inl K_5.1.2.2.2.1)), (ap, .inl (cy, 33, .inl K_5.1.2.2.2.2)), (ah, .inr (0, [.ref gw, .ref gl, .ref gf, .int hs1])), (gw, .inl (cy, 65, .inl K_5.2.1)), (gl, .inl (cy, 65, .inl h1.2.1)), (gf, .inl (cy, 65, .inl h1.2.2))] H := hP
        have hD : va_D A [(a0, .inr (2, [.ref aw, .ref al, .ref af, .ref ab, .ref ap, .ref ah, .int (S.2.1 - (2 * Z_1.2.2.2)), .int S.2.2.1, .int (S.2.2.2.1 + 1)])), (aw, .inl (cy, 65, .inl K_5.1.1)), (al, .inl (cy, 65, .inl K_5.1.2.1)), (af, .inl (cy, 65, .inl K_5.1.2.2.1)), (ab, .inl (cy, 65, .inl K_5.1.2.2.2.1)), (ap, .inl (cy, 33, .inl K_5.1.2.2.2.2)), (ah, .inr (0, [.ref gw, .ref gl, .ref gf, .int hs1])), (gw, .inl (cy, 65, .inl K_5.2.1)), (gl, .inl (cy, 65, .inl h1.2.1)), (gf, .inl (cy, 65, .inl h1.2.2))] := hD
        refine lv_iload_n hx hb dX2_wearDown_80 rfl (lv_at hl 1 rfl) ?_
        exact cb_endQi (v := Z_1.2.2.2) hx hb hr hlocks hP hD hK hS (by rw [← hT]; subst eK_5; simp only [cWearL, if_pos c_4]; rfl) (by rw [← hT]; subst eK_5; simp only [cWearL, if_pos c_4]; rfl) (by omega) (by omega) dX2_wearDown_81
      · refine lv_aload_n hx hb dX2_wearDown_28 rfl (lv_at hl 0 rfl) ?_
        refine lv_iload_n hx hb dX2_wearDown_29 rfl (lv_at hl 2 rfl) ?_
        have hPc := hP.sub (ws' := [(a0, .inr (2, [.ref aw, .ref al, .ref af, .ref ab, .ref ap, .ref ah, .int (S.2.1 - (2 * Z_1.2.2.2)), .int S.2.2.1, .int S.2.2.2.1])), (aw, .inl (cy, 65, .inl T1.1)), (al, .inl (cy, 65, .inl T1.2.1)), (af, .inl (cy, 65, .inl T1.2.2.1)), (ab, .inl (cy, 65, .inl T1.2.2.2.1)), (ap, .inl (cy, 33, .inl T1.2.2.2.2)), (ah, .inr (0, [.ref gw, .ref gl, .ref gf, .int hs1])), (gw, .inl (cy, 65, .inl h1.1)), (gl, .inl (cy, 65, .inl h1.2.1)), (gf, .inl (cy, 65, .inl h1.2.2))]) [0, 1, 2, 3, 4, 5, 6, 7, 8, 9] rfl
        have hDc := hD.sub (ws' := [(a0, .inr (2, [.ref aw, .ref al, .ref af, .ref ab, .ref ap, .ref ah, .int (S.2.1 - (2 * Z_1.2.2.2)), .int S.2.2.1, .int S.2.2.2.1])), (aw, .inl (cy, 65, .inl T1.1)), (al, .inl (cy, 65, .inl T1.2.1)), (af, .inl (cy, 65, .inl T1.2.2.1)), (ab, .inl (cy, 65, .inl T1.2.2.2.1)), (ap, .inl (cy, 33, .inl T1.2.2.2.2)), (ah, .inr (0, [.ref gw, .ref gl, .ref gf, .int hs1])), (gw, .inl (cy, 65, .inl h1.1)), (gl, .inl (cy, 65, .inl h1.2.1)), (gf, .inl (cy, 65, .inl h1.2.2))]) [0, 1, 2, 3, 4, 5, 6, 7, 8, 9] (by decide) rfl
        refine cb_callQi (wc := [(a0, .inr (2, [.ref aw, .ref al, .ref af, .ref ab, .ref ap, .ref ah, .int (S.2.1 - (2 * Z_1.2.2.2)), .int S.2.2.1, .int S.2.2.2.1])), (aw, .inl (cy, 65, .inl T1.1)), (al, .inl (cy, 65, .inl T1.2.1)), (af, .inl (cy, 65, .inl T1.2.2.1)), (ab, .inl (cy, 65, .inl T1.2.2.2.1)), (ap, .inl (cy, 33, .inl T1.2.2.2.2)), (ah, .inr (0, [.ref gw, .ref gl, .ref gf, .int hs1])), (gw, .inl (cy, 65, .inl h1.1)), (gl, .inl (cy, 65, .inl h1.2.1)), (gf, .inl (cy, 65, .inl h1.2.2))]) (wr := []) (wc' := [(a0, .inr (2, [.ref aw, .ref al, .ref af, .ref ab, .ref ap, .ref ah, .int (S.2.1 - (2 * Z_1.2.2.2)), .int S.2.2.1, .int S.2.2.2.1])), (aw, .inl (cy, 65, .inl ((cTake T1 h1 hs1 x2).1.1))), (al, .inl (cy, 65, .inl ((cTake T1 h1 hs1 x2).1.2.1))), (af, .inl (cy, 65, .inl ((cTake T1 h1 hs1 x2).1.2.2.1))), (ab, .inl (cy, 65, .inl ((cTake T1 h1 hs1 x2).1.2.2.2.1))), (ap, .inl (cy, 33, .inl ((cTake T1 h1 hs1 x2).1.2.2.2.2))), (ah, .inr (0, [.ref gw, .ref gl, .ref gf, .int hs1])), (gw, .inl (cy, 65, .inl ((cTake T1 h1 hs1 x2).2.1))), (gl, .inl (cy, 65, .inl h1.2.1)), (gf, .inl (cy, 65, .inl h1.2.2))]) (ws2 := [(a0, .inr (2, [.ref aw, .ref al, .ref af, .ref ab, .ref ap, .ref ah, .int (S.2.1 - (2 * Z_1.2.2.2)), .int S.2.2.1, .int S.2.2.2.1])), (aw, .inl (cy, 65, .inl ((cTake T1 h1 hs1 x2).1.1))), (al, .inl (cy, 65, .inl ((cTake T1 h1 hs1 x2).1.2.1))), (af, .inl (cy, 65, .inl ((cTake T1 h1 hs1 x2).1.2.2.1))), (ab, .inl (cy, 65, .inl ((cTake T1 h1 hs1 x2).1.2.2.2.1))), (ap, .inl (cy, 33, .inl ((cTake T1 h1 hs1 x2).1.2.2.2.2))), (ah, .inr (0, [.ref gw, .ref gl, .ref gf, .int hs1])), (gw, .inl (cy, 65, .inl ((cTake T1 h1 hs1 x2).2.1))), (gl, .inl (cy, 65, .inl h1.2.1)), (gf, .inl (cy, 65, .inl h1.2.2))]) hP hD hS hA [0, 1, 2, 3, 4, 5, 6, 7, 8, 9] [] [0, 1, 2, 3, 4, 5, 6, 7, 8, 9] (va_runV (As := [.int x2]) (rest := []) ⟨hx, hb, hml, hown, hts⟩ (kX2_takeLightest l D cy _ a0 aw al af ab ap ah gw gl gf T1 (S.2.1 - (2 * Z_1.2.2.2)) S.2.2.1 S.2.2.2.1 h1 hs1 x2) (cwV 1 hts gX2_wearDown_X2_takeLightest rfl rfl rfl (by decide +kernel) ⟨Nat.le_of_ble_eq_true rfl, Nat.le_of_ble_eq_true rfl⟩) (cb_Pw.pv hK hPc hDc hnw (ci := 2) (q0 := 0) rfl rfl) rfl rfl hl.1 rfl (lv_room (Nat.le_of_ble_eq_true rfl)) dX2_wearDown_30 ⟨Nat.le_of_ble_eq_true rfl, Nat.le_of_ble_eq_true rfl⟩) rfl rfl (by decide) (by decide) rfl (by decide) (fun H locs hP hD hS => ?_)
        generalize eK_6 : cTake T1 h1 hs1 x2 = K_6 at hP hD ⊢
        refine lv_istore_n (lv' := [(3, .int K_6.2.2), (0, .ref a0), (1, .int Z_1.2.2.2), (2, .int x2)]) hx hb dX2_wearDown_33 rfl hl (by decide) rfl (fun ls hl => ?_)
        refine lv_aload_n hx hb dX2_wearDown_34 rfl (lv_at hl 1 rfl) ?_
        refine lv_iload_n hx hb dX2_wearDown_35 rfl (lv_at hl 3 rfl) ?_
        refine lv_iconst (v := 1) hx hb dX2_wearDown_36 (by decide) ?_
        refine lv_isub hx hb dX2_wearDown_37 ?_
        have hPc := hP.sub (ws' := [(a0, .inr (2, [.ref aw, .ref al, .ref af, .ref ab, .ref ap, .ref ah, .int (S.2.1 - (2 * Z_1.2.2.2)), .int S.2.2.1, .int S.2.2.2.1])), (aw, .inl (cy, 65, .inl K_6.1.1)), (al, .inl (cy, 65, .inl K_6.1.2.1)), (af, .inl (cy, 65, .inl K_6.1.2.2.1)), (ab, .inl (cy, 65, .inl K_6.1.2.2.2.1)), (ap, .inl (cy, 33, .inl K_6.1.2.2.2.2)), (ah, .inr (0, [.ref gw, .ref gl, .ref gf, .int hs1])), (gw, .inl (cy, 65, .inl K_6.2.1)), (gl, .inl (cy, 65, .inl h1.2.1)), (gf, .inl (cy, 65, .inl h1.2.2))]) [0, 1, 2, 3, 4, 5, 6, 7, 8, 9] rfl
        have hDc := hD.sub (ws' := [(a0, .inr (2, [.ref aw, .ref al, .ref af, .ref ab, .ref ap, .ref ah, .int (S.2.1 - (2 * Z_1.2.2.2)), .int S.2.2.1, .int S.2.2.2.1])), (aw, .inl (cy, 65, .inl K_6.1.1)), (al, .inl (cy, 65, .inl K_6.1.2.1)), (af, .inl (cy, 65, .inl K_6.1.2.2.1)), (ab, .inl (cy, 65, .inl K_6.1.2.2.2.1)), (ap, .inl (cy, 33, .inl K_6.1.2.2.2.2)), (ah, .inr (0, [.ref gw, .ref gl, .ref gf, .int hs1])), (gw, .inl (cy, 65, .inl K_6.2.1)), (gl, .inl (cy, 65, .inl h1.2.1)), (gf, .inl (cy, 65, .inl h1.2.2))]) [0, 1, 2, 3, 4, 5, 6, 7, 8, 9] (by decide) rfl
        refine cb_callQi (wc := [(a0, .inr (2, [.ref aw, .ref al, .ref af, .ref ab, .ref ap, .ref ah, .int (S.2.1 - (2 * Z_1.2.2.2)), .int S.2.2.1, .int S.2.2.2.1])), (aw, .inl (cy, 65, .inl K_6.1.1)), (al, .inl (cy, 65, .inl K_6.1.2.1)), (af, .inl (cy, 65, .inl K_6.1.2.2.1)), (ab, .inl (cy, 65, .inl K_6.1.2.2.2.1)), (ap, .inl (cy, 33, .inl K_6.1.2.2.2.2)), (ah, .inr (0, [.ref gw, .ref gl, .ref gf, .int hs1])), (gw, .inl (cy, 65, .inl K_6.2.1)), (gl, .inl (cy, 65, .inl h1.2.1)), (gf, .inl (cy, 65, .inl h1.2.2))]) (wr := []) (wc' := [(a0, .inr (2, [.ref aw, .ref al, .ref af, .ref ab, .ref ap, .ref ah, .int (S.2.1 - (2 * Z_1.2.2.2)), .int S.2.2.1, .int S.2.2.2.1])), (aw, .inl (cy, 65, .inl ((cTake K_6.1 (K_6.2.1, h1.2) hs1 (x2 - 1)).1.1))), (al, .inl (cy, 65, .inl ((cTake K_6.1 (K_6.2.1, h1.2) hs1 (x2 - 1)).1.2.1))), (af, .inl (cy, 65, .inl ((cTake K_6.1 (K_6.2.1, h1.2) hs1 (x2 - 1)).1.2.2.1))), (ab, .inl (cy, 65, .inl ((cTake K_6.1 (K_6.2.1, h1.2) hs1 (x2 - 1)).1.2.2.2.1))), (ap, .inl (cy, 33, .inl ((cTake K_6.1 (K_6.2.1, h1.2) hs1 (x2 - 1)).1.2.2.2.2))), (ah, .inr (0, [.ref gw, .ref gl, .ref gf, .int hs1])), (gw, .inl (cy, 65, .inl ((cTake K_6.1 (K_6.2.1, h1.2) hs1 (x2 - 1)).2.1))), (gl, .inl (cy, 65, .inl ((K_6.2.1, h1.2).2.1))), (gf, .inl (cy, 65, .inl ((K_6.2.1, h1.2).2.2)))]) (ws2 := [(a0, .inr (2, [.ref aw, .ref al, .ref af, .ref ab, .ref ap, .ref ah, .int (S.2.1 - (2 * Z_1.2.2.2)), .int S.2.2.1, .int S.2.2.2.1])), (aw, .inl (cy, 65, .inl ((cTake K_6.1 (K_6.2.1, h1.2) hs1 (x2 - 1)).1.1))), (al, .inl (cy, 65, .inl ((cTake K_6.1 (K_6.2.1, h1.2) hs1 (x2 - 1)).1.2.1))), (af, .inl (cy, 65, .inl ((cTake K_6.1 (K_6.2.1, h1.2) hs1 (x2 - 1)).1.2.2.1))), (ab, .inl (cy, 65, .inl ((cTake K_6.1 (K_6.2.1, h1.2) hs1 (x2 - 1)).1.2.2.2.1))), (ap, .inl (cy, 33, .inl ((cTake K_6.1 (K_6.2.1, h1.2) hs1 (x2 - 1)).1.2.2.2.2))), (ah, .inr (0, [.ref gw, .ref gl, .ref gf, .int hs1])), (gw, .inl (cy, 65, .inl ((cTake K_6.1 (K_6.2.1, h1.2) hs1 (x2 - 1)).2.1))), (gl, .inl (cy, 65, .inl ((K_6.2.1, h1.2).2.1))), (gf, .inl (cy, 65, .inl ((K_6.2.1, h1.2).2.2)))]) hP hD hS hA [0, 1, 2, 3, 4, 5, 6, 7, 8, 9] [] [0, 1, 2, 3, 4, 5, 6, 7, 8, 9] (va_runV (As := [.int (x2 - 1)]) (rest := []) ⟨hx, hb, hml, hown, hts⟩ (kX2_takeLightest l D cy _ a0 aw al af ab ap ah gw gl gf K_6.1 (S.2.1 - (2 * Z_1.2.2.2)) S.2.2.1 S.2.2.2.1 (K_6.2.1, h1.2) hs1 (x2 - 1)) (cwV 1 hts gX2_wearDown_X2_takeLightest rfl rfl rfl (by decide +kernel) ⟨Nat.le_of_ble_eq_true rfl, Nat.le_of_ble_eq_true rfl⟩) (cb_Pw.pv hK hPc hDc hnw (ci := 2) (q0 := 0) rfl rfl) rfl rfl hl.1 rfl (lv_room (Nat.le_of_ble_eq_true rfl)) dX2_wearDown_38 ⟨Nat.le_of_ble_eq_true rfl, Nat.le_of_ble_eq_true rfl⟩) rfl rfl (by decide) (by decide) rfl (by decide) (fun H locs hP hD hS => ?_)
        generalize eK_7 : cTake K_6.1 (K_6.2.1, h1.2) hs1 (x2 - 1) = K_7 at hP hD ⊢
        refine lv_istore (lv' := [(4, .int K_7.2.2), (3, .int K_6.2.2), (0, .ref a0), (1, .int Z_1.2.2.2), (2, .int x2)]) hx hb dX2_wearDown_41 hl (by decide) rfl (fun ls hl => ?_)
        refine lv_aload_n hx hb dX2_wearDown_43 rfl (lv_at hl 2 rfl) ?_
        refine va_get (D := D) (ci := 2) (v := .ref ah) (C := RX2) (T := TX2) (N := 9) hx hb hts hinX2 hown hK hP 0 rfl rfl 5 (by decide) (hts (.fieldLink RX2 30 "CobblerCodes$Tree" "heap" "LCobblerCodes$Heap;") (by decide +kernel)) (fun _ h9 => h9) rfl dX2_wearDown_44 ?_
        refine lv_iload_n hx hb dX2_wearDown_47 rfl (lv_at hl 1 rfl) ?_
        refine lv_iload hx hb dX2_wearDown_48 (lv_at hl 0 rfl) ?_
        refine lv_iadd hx hb dX2_wearDown_50 ?_
        refine lv_iconst (v := (-1)) hx hb dX2_wearDown_51 (by decide) ?_
        refine lv_iload_n hx hb dX2_wearDown_52 rfl (lv_at hl 4 rfl) ?_
        refine lv_iconst (v := 1) hx hb dX2_wearDown_53 (by decide) ?_
        refine lv_isub hx hb dX2_wearDown_54 ?_
        have hPc := hP.sub (ws' := [(ah, .inr (0, [.ref gw, .ref gl, .ref gf, .int hs1])), (gw, .inl (cy, 65, .inl K_7.2.1)), (gl, .inl (cy, 65, .inl ((K_6.2.1, h1.2).2.1))), (gf, .inl (cy, 65, .inl ((K_6.2.1, h1.2).2.2)))]) [6, 7, 8, 9] rfl
        have hDc := hD.sub (ws' := [(ah, .inr (0, [.ref gw, .ref gl, .ref gf, .int hs1])), (gw, .inl (cy, 65, .inl K_7.2.1)), (gl, .inl (cy, 65, .inl ((K_6.2.1, h1.2).2.1))), (gf, .inl (cy, 65, .inl ((K_6.2.1, h1.2).2.2)))]) [6, 7, 8, 9] (by decide) rfl
        refine cb_callQv (wc := [(ah, .inr (0, [.ref gw, .ref gl, .ref gf, .int hs1])), (gw, .inl (cy, 65, .inl K_7.2.1)), (gl, .inl (cy, 65, .inl ((K_6.2.1, h1.2).2.1))), (gf, .inl (cy, 65, .inl ((K_6.2.1, h1.2).2.2)))]) (wr := [(a0, .inr (2, [.ref aw, .ref al, .ref af, .ref ab, .ref ap, .ref ah, .int (S.2.1 - (2 * Z_1.2.2.2)), .int S.2.2.1, .int S.2.2.2.1])), (aw, .inl (cy, 65, .inl K_7.1.1)), (al, .inl (cy, 65, .inl K_7.1.2.1)), (af, .inl (cy, 65, .inl K_7.1.2.2.1)), (ab, .inl (cy, 65, .inl K_7.1.2.2.2.1)), (ap, .inl (cy, 33, .inl K_7.1.2.2.2.2))]) (wc' := [(ah, .inr (0, [.ref gw, .ref gl, .ref gf, .int (hs1 + 1)])), (gw, .inl (cy, 65, .inl ((cAdd (K_7.2.1, (K_6.2.1, h1.2).2) hs1 (K_6.2.2 + K_7.2.2) (-1) (x2 - 1)).1))), (gl, .inl (cy, 65, .inl ((cAdd (K_7.2.1, (K_6.2.1, h1.2).2) hs1 (K_6.2.2 + K_7.2.2) (-1) (x2 - 1)).2.1))), (gf, .inl (cy, 65, .inl ((cAdd (K_7.2.1, (K_6.2.1, h1.2).2) hs1 (K_6.2.2 + K_7.2.2) (-1) (x2 - 1)).2.2)))]) (ws2 := [(a0, .inr (2, [.ref aw, .ref al, .ref af, .ref ab, .ref ap, .ref ah, .int (S.2.1 - (2 * Z_1.2.2.2)), .int S.2.2.1, .int S.2.2.2.1])), (aw, .inl (cy, 65, .inl K_7.1.1)), (al, .inl (cy, 65, .inl K_7.1.2.1)), (af, .inl (cy, 65, .inl K_7.1.2.2.1)), (ab, .inl (cy, 65, .inl K_7.1.2.2.2.1)), (ap, .inl (cy, 33, .inl K_7.1.2.2.2.2)), (ah, .inr (0, [.ref gw, .ref gl, .ref gf, .int (hs1 + 1)])), (gw, .inl (cy, 65, .inl ((cAdd (K_7.2.1, (K_6.2.1, h1.2).2) hs1 (K_6.2.2 + K_7.2.2) (-1) (x2 - 1)).1))), (gl, .inl (cy, 65, .inl ((cAdd (K_7.2.1, (K_6.2.1, h1.2).2) hs1 (K_6.2.2 + K_7.2.2) (-1) (x2 - 1)).2.1))), (gf, .inl (cy, 65, .inl ((cAdd (K_7.2.1, (K_6.2.1, h1.2).2) hs1 (K_6.2.2 + K_7.2.2) (-1) (x2 - 1)).2.2)))]) hP hD hS hA [6, 7, 8, 9] [0, 1, 2, 3, 4, 5] [0, 1, 2, 3, 4, 5, 6, 7, 8, 9] (va_runVN (As := [.int (K_6.2.2 + K_7.2.2), .int (-1), .int (x2 - 1)]) (rest := []) ⟨hx, hb, hml, hown, hts⟩ (kX0_add l D cy _ ah gw gl gf (K_7.2.1, (K_6.2.1, h1.2).2) hs1 (K_6.2.2 + K_7.2.2) (-1) (x2 - 1)) ⟨va_cnB 3 hts gX2_wearDown_X0_add_n89 rfl rfl rfl (hnw (.methodLinkNest RX2 89 yX0_add RX3) (by decide +kernel)) (hts (.initialized RX0) (by decide +kernel)) (by decide +kernel) ⟨Nat.le_of_ble_eq_true rfl, Nat.le_of_ble_eq_true rfl⟩, hts (.instanceMethod yX0_add) (by decide +kernel), hts (.selects RX0 yX0_add yX0_add) (by decide +kernel)⟩ (cb_Pw.pv hK hPc hDc hnw (ci := 0) (q0 := 0) rfl rfl) rfl rfl hl.1 rfl (lv_room (Nat.le_of_ble_eq_true rfl)) dX2_wearDown_55 ⟨Nat.le_of_ble_eq_true rfl, Nat.le_of_ble_eq_true rfl⟩) rfl rfl (by decide) (by decide) rfl (by decide) (fun H locs hP hD hS => ?_)
        generalize eh2_8 : cAdd (K_7.2.1, (K_6.2.1, h1.2).2) hs1 (K_6.2.2 + K_7.2.2) (-1) (x2 - 1) = h2_8 at hP hD ⊢
        refine lv_iinc (v := x2 + (-2)) (lv' := [(2, .int (x2 + (-2))), (4, .int K_7.2.2), (3, .int K_6.2.2), (0, .ref a0), (1, .int Z_1.2.2.2)]) hx hb dX2_wearDown_58 hl (k := 4) rfl rfl (by decide) rfl (fun ls hl => ?_)
        refine lv_goto (tgt := 24) hx hb dX2_wearDown_61 (by decide) ?_
        exact ih K_7.1 h2_8 _ _ (cb_down2 hk c_4) (by subst eh2_8; subst eK_7; subst eK_6; rw [← hT]; simp only [cWearL, if_neg c_4]; try rfl) _ _ hP hD hS ls (lv_sub hl [3, 4, 0] rfl)
  exact L24 _ (S.1.1, S.1.2.1, S.1.2.2.1, S.1.2.2.2.1, Z_1.1) Z_1.2.1 _ _ (Nat.le_refl _) (by subst eZ_1; rfl) _ _ hP hD hS ls (lv_sub hl [2, 1, 0] rfl)
end
section
set_option maxHeartbeats 4000000 in
set_option maxRecDepth 100000 in
theorem kX1_bitsFor (l : Launch) (D : va_G) (cy : ClassId) (b0 a0 aw al af ab ap ah : Nat) (T : N5) (sn ex wr lim us bi : Int32) (u0 : Int32) : Met l yX1_bitsFor wsX1_bitsFor ({ frames := 2, cells := 0, slots := 0, locals := 44 }) (cb_Pp D (cb_tys cy) [(b0, .inr (1, [.ref a0, .int lim, .int us, .int bi])), (a0, .inr (2, [.ref aw, .ref al, .ref af, .ref ab, .ref ap, .ref ah, .int sn, .int ex, .int wr])), (aw, .inl (cy, 65, .inl T.1)), (al, .inl (cy, 65, .inl T.2.1)), (af, .inl (cy, 65, .inl T.2.2.1)), (ab, .inl (cy, 65, .inl T.2.2.2.1)), (ap, .inl (cy, 33, .inl T.2.2.2.2))] [.ref b0, .int u0]) (cb_Si (cBits T u0)) 0 0 (fun _ => False) := by
  refine Met.ofW (cc := cX1_bitsFor) (maxL := 2) (ret := (some .int)) (by decide) rfl ?_
  intro p e s m args below meth c s₁ B hml hv
  obtain ⟨rfl, hP, hK, hnw⟩ := hv
  have hx := B.exec
  have hb := B.bytes
  have hr := B.returns
  have hts := atoms_spec (ws := wsX1_bitsFor) B.pre
  have hown : s.vm.findClass RX1 = some m.cls := findClass_of_methodNamed B.named
  have hlocks := B.notSynchronized
  have hinX1 : ∀ w ∈ wsX10, w ∈ wsX1_bitsFor := by decide +kernel
  have hl := lv_entry ([.ref b0, .int u0]) (n := 2) (Nat.le_of_ble_eq_true rfl)
  rw [lg_entry_eq]
  generalize (lg_sl ([.ref b0, .int u0]) ++ List.replicate (2 - (lg_sl ([.ref b0, .int u0])).length) Slot.unset).toArray = ls at hl ⊢
  have hl : lv_has ls 2 [(0, .ref b0), (1, .int u0)] := hl
  refine lv_aload_n hx hb dX1_bitsFor_0 rfl (lv_at hl 0 rfl) ?_
  refine va_get (D := D) (ci := 1) (v := .ref a0) (C := RX1) (T := TX1) (N := 4) hx hb hts hinX1 hown hK hP 0 rfl rfl 0 (by decide) (hts (.fieldLink RX1 12 "CobblerCodes$Shop" "tree" "LCobblerCodes$Tree;") (by decide +kernel)) (fun _ h9 => h9) rfl dX1_bitsFor_1 ?_
  refine lv_iload_n hx hb dX1_bitsFor_4 rfl (lv_at hl 1 rfl) ?_
  have hPc := hP.sub (ws' := [(a0, .inr (2, [.ref aw, .ref al, .ref af, .ref ab, .ref ap, .ref ah, .int sn, .int ex, .int wr])), (aw, .inl (cy, 65, .inl T.1)), (al, .inl (cy, 65, .inl T.2.1)), (af, .inl (cy, 65, .inl T.2.2.1)), (ab, .inl (cy, 65, .inl T.2.2.2.1)), (ap, .inl (cy, 33, .inl T.2.2.2.2))]) [1, 2, 3, 4, 5, 6] rfl
  refine cb_callSi (r0 := (cKnows T.2.2.2.2 u0)) (va_runVN (As := [.int u0]) (rest := []) ⟨hx, hb, hml, hown, hts⟩ (kX2_knows l D cy a0 aw al af ab ap ah T sn ex wr u0) ⟨va_cnB 1 hts gX1_bitsFor_X2_knows_n26 rfl rfl rfl (hnw (.methodLinkNest RX1 26 yX2_knows RX3) (by decide +kernel)) (hts (.initialized RX2) (by decide +kernel)) (by decide +kernel) ⟨Nat.le_of_ble_eq_true rfl, Nat.le_of_ble_eq_true rfl⟩, hts (.instanceMethod yX2_knows) (by decide +kernel), hts (.selects RX2 yX2_knows yX2_knows) (by decide +kernel)⟩ (cb_Pp.pv hK hPc hnw (ci := 2) (q0 := 0) rfl rfl) rfl rfl hl.1 rfl (lv_room (Nat.le_of_ble_eq_true rfl)) dX1_bitsFor_5 ⟨Nat.le_of_ble_eq_true rfl, Nat.le_of_ble_eq_true rfl⟩) ?_
  refine lv_if_eq (tgt := 22) hx hb dX1_bitsFor_8 (by decide) (fun c_1 => ?_) (fun c_1 => ?_)
  · refine lv_aload_n hx hb dX1_bitsFor_22 rfl (lv_at hl 0 rfl) ?_
    refine va_get (D := D) (ci := 1) (v := .ref a0) (C := RX1) (T := TX1) (N := 4) hx hb hts hinX1 hown hK hP 0 rfl rfl 0 (by decide) (hts (.fieldLink RX1 12 "CobblerCodes$Shop" "tree" "LCobblerCodes$Tree;") (by decide +kernel)) (fun _ h9 => h9) rfl dX1_bitsFor_23 ?_
    refine lv_bipush (v := 32) hx hb dX1_bitsFor_26 (by decide) ?_
    have hPc := hP.sub (ws' := [(a0, .inr (2, [.ref aw, .ref al, .ref af, .ref ab, .ref ap, .ref ah, .int sn, .int ex, .int wr])), (aw, .inl (cy, 65, .inl T.1)), (al, .inl (cy, 65, .inl T.2.1)), (af, .inl (cy, 65, .inl T.2.2.1)), (ab, .inl (cy, 65, .inl T.2.2.2.1)), (ap, .inl (cy, 33, .inl T.2.2.2.2))]) [1, 2, 3, 4, 5, 6] rfl
    refine cb_callSi (r0 := (cLen T 32)) (va_runVN (As := [.int 32]) (rest := []) ⟨hx, hb, hml, hown, hts⟩ (kX2_lengthOf l D cy a0 aw al af ab ap ah T sn ex wr 32) ⟨va_cnB 1 hts gX1_bitsFor_X2_lengthOf_n30 rfl rfl rfl (hnw (.methodLinkNest RX1 30 yX2_lengthOf RX3) (by decide +kernel)) (hts (.initialized RX2) (by decide +kernel)) (by decide +kernel) ⟨Nat.le_of_ble_eq_true rfl, Nat.le_of_ble_eq_true rfl⟩, hts (.instanceMethod yX2_lengthOf) (by decide +kernel), hts (.selects RX2 yX2_lengthOf yX2_lengthOf) (by decide +kernel)⟩ (cb_Pp.pv hK hPc hnw (ci := 2) (q0 := 0) rfl rfl) rfl rfl hl.1 rfl (lv_room (Nat.le_of_ble_eq_true rfl)) dX1_bitsFor_28 ⟨Nat.le_of_ble_eq_true rfl, Nat.le_of_ble_eq_true rfl⟩) ?_
    refine lv_iconst (v := 5) hx hb dX1_bitsFor_31 (by decide) ?_
    refine lv_iadd hx hb dX1_bitsFor_32 ?_
    exact cb_endSi (v := (cLen T 32) + 5) hx hb hr hlocks (by unfold cBits; simp only [if_pos c_1]) dX1_bitsFor_33
  · refine lv_aload_n hx hb dX1_bitsFor_11 rfl (lv_at hl 0 rfl) ?_
    refine va_get (D := D) (ci := 1) (v := .ref a0) (C := RX1) (T := TX1) (N := 4) hx hb hts hinX1 hown hK hP 0 rfl rfl 0 (by decide) (hts (.fieldLink RX1 12 "CobblerCodes$Shop" "tree" "LCobblerCodes$Tree;") (by decide +kernel)) (fun _ h9 => h9) rfl dX1_bitsFor_12 ?_
    refine lv_iload_n hx hb dX1_bitsFor_15 rfl (lv_at hl 1 rfl) ?_
    have hPc := hP.sub (ws' := [(a0, .inr (2, [.ref aw, .ref al, .ref af, .ref ab, .ref ap, .ref ah, .int sn, .int ex, .int wr])), (aw, .inl (cy, 65, .inl T.1)), (al, .inl (cy, 65, .inl T.2.1)), (af, .inl (cy, 65, .inl T.2.2.1)), (ab, .inl (cy, 65, .inl T.2.2.2.1)), (ap, .inl (cy, 33, .inl T.2.2.2.2))]) [1, 2, 3, 4, 5, 6] rfl
    refine cb_callSi (r0 := (cLen T u0)) (va_runVN (As := [.int u0]) (rest := []) ⟨hx, hb, hml, hown, hts⟩ (kX2_lengthOf l D cy a0 aw al af ab ap ah T sn ex wr u0) ⟨va_cnB 1 hts gX1_bitsFor_X2_lengthOf_n30 rfl rfl rfl (hnw (.methodLinkNest RX1 30 yX2_lengthOf RX3) (by decide +kernel)) (hts (.initialized RX2) (by decide +kernel)) (by decide +kernel) ⟨Nat.le_of_ble_eq_true rfl, Nat.le_of_ble_eq_true rfl⟩, hts (.instanceMethod yX2_lengthOf) (by decide +kernel), hts (.selects RX2 yX2_lengthOf yX2_lengthOf) (by decide +kernel)⟩ (cb_Pp.pv hK hPc hnw (ci := 2) (q0 := 0) rfl rfl) rfl rfl hl.1 rfl (lv_room (Nat.le_of_ble_eq_true rfl)) dX1_bitsFor_16 ⟨Nat.le_of_ble_eq_true rfl, Nat.le_of_ble_eq_true rfl⟩) ?_
    refine lv_goto (tgt := 33) hx hb dX1_bitsFor_19 (by decide) ?_
    exact cb_endSi (v := cLen T u0) hx hb hr hlocks (by unfold cBits; simp only [if_neg c_1]) dX1_bitsFor_33

set_option maxHeartbeats 4000000 in
set_option maxRecDepth 100000 in
theorem kX1_factOfShop (l : Launch) (D : va_G) (cy : ClassId) (b0 a0 aw al af ab ap ah : Nat) (T : N5) (sn ex wr lim us bi : Int32) (u0 : Int32) : Met l yX1_factOfShop wsX1_factOfShop ({ frames := 2, cells := 0, slots := 0, locals := 41 }) (cb_Pp D (cb_tys cy) [(b0, .inr (1, [.ref a0, .int lim, .int us, .int bi])), (a0, .inr (2, [.ref aw, .ref al, .ref af, .ref ab, .ref ap, .ref ah, .int sn, .int ex, .int wr])), (aw, .inl (cy, 65, .inl T.1)), (al, .inl (cy, 65, .inl T.2.1)), (af, .inl (cy, 65, .inl T.2.2.1)), (ab, .inl (cy, 65, .inl T.2.2.2.1)), (ap, .inl (cy, 33, .inl T.2.2.2.2))] [.ref b0, .int u0]) (cb_Si (cFactShop T sn ex wr lim us bi u0)) 0 0 (fun _ => False) := by
  refine Met.ofW (cc := cX1_factOfShop) (maxL := 2) (ret := (some .int)) (by decide) rfl ?_
  intro p e s m args below meth c s₁ B hml hv
  obtain ⟨rfl, hP, hK, hnw⟩ := hv
  have hx := B.exec
  have hb := B.bytes
  have hr := B.returns
  have hts := atoms_spec (ws := wsX1_factOfShop) B.pre
  have hown : s.vm.findClass RX1 = some m.cls := findClass_of_methodNamed B.named
  have hlocks := B.notSynchronized
  have hinX1 : ∀ w ∈ wsX10, w ∈ wsX1_factOfShop := by decide +kernel
  have hinX2 : ∀ w ∈ wsX20, w ∈ wsX1_factOfShop := by decide +kernel
  have hl := lv_entry ([.ref b0, .int u0]) (n := 2) (Nat.le_of_ble_eq_true rfl)
  rw [lg_entry_eq]
  generalize (lg_sl ([.ref b0, .int u0]) ++ List.replicate (2 - (lg_sl ([.ref b0, .int u0])).length) Slot.unset).toArray = ls at hl ⊢
  have hl : lv_has ls 2 [(0, .ref b0), (1, .int u0)] := hl
  refine lv_iload_n hx hb dX1_factOfShop_0 rfl (lv_at hl 1 rfl) ?_
  by_cases c_1 : u0 = 0
  · refine lv_tableIn (off := 43) (tgt := 44) hx hb dX1_factOfShop_1 (by rw [c_1]; decide) (by rw [c_1]; decide) (by rw [c_1]; rfl) (by decide) ?_
    refine lv_aload_n hx hb dX1_factOfShop_44 rfl (lv_at hl 0 rfl) ?_
    refine va_get (D := D) (ci := 1) (v := .ref a0) (C := RX1) (T := TX1) (N := 4) hx hb hts hinX1 hown hK hP 0 rfl rfl 0 (by decide) (hts (.fieldLink RX1 12 "CobblerCodes$Shop" "tree" "LCobblerCodes$Tree;") (by decide +kernel)) (fun _ h9 => h9) rfl dX1_factOfShop_45 ?_
    have hPc := hP.sub (ws' := [(a0, .inr (2, [.ref aw, .ref al, .ref af, .ref ab, .ref ap, .ref ah, .int sn, .int ex, .int wr])), (aw, .inl (cy, 65, .inl T.1)), (al, .inl (cy, 65, .inl T.2.1)), (af, .inl (cy, 65, .inl T.2.2.1)), (ab, .inl (cy, 65, .inl T.2.2.2.1)), (ap, .inl (cy, 33, .inl T.2.2.2.2))]) [1, 2, 3, 4, 5, 6] rfl
    refine cb_callSi (r0 := ((sn - 1) / 2)) (va_runVN (As := []) (rest := []) ⟨hx, hb, hml, hown, hts⟩ (kX2_knownLasts l D cy a0 aw al af ab ap ah T sn ex wr) ⟨va_cnB 0 hts gX1_factOfShop_X2_knownLasts_n60 rfl rfl rfl (hnw (.methodLinkNest RX1 60 yX2_knownLasts RX3) (by decide +kernel)) (hts (.initialized RX2) (by decide +kernel)) (by decide +kernel) ⟨Nat.le_of_ble_eq_true rfl, Nat.le_of_ble_eq_true rfl⟩, hts (.instanceMethod yX2_knownLasts) (by decide +kernel), hts (.selects RX2 yX2_knownLasts yX2_knownLasts) (by decide +kernel)⟩ (cb_Pp.pv hK hPc hnw (ci := 2) (q0 := 0) rfl rfl) rfl rfl hl.1 rfl (lv_room (Nat.le_of_ble_eq_true rfl)) dX1_factOfShop_48 ⟨Nat.le_of_ble_eq_true rfl, Nat.le_of_ble_eq_true rfl⟩) ?_
    exact cb_endSi (v := (sn - 1) / 2) hx hb hr hlocks (by unfold cFactShop; simp only [if_pos c_1]) dX1_factOfShop_51
  by_cases c_2 : u0 = 1
  · refine lv_tableIn (off := 51) (tgt := 52) hx hb dX1_factOfShop_1 (by rw [c_2]; decide) (by rw [c_2]; decide) (by rw [c_2]; rfl) (by decide) ?_
    refine lv_aload_n hx hb dX1_factOfShop_52 rfl (lv_at hl 0 rfl) ?_
    refine va_get (D := D) (ci := 1) (v := .ref a0) (C := RX1) (T := TX1) (N := 4) hx hb hts hinX1 hown hK hP 0 rfl rfl 0 (by decide) (hts (.fieldLink RX1 12 "CobblerCodes$Shop" "tree" "LCobblerCodes$Tree;") (by decide +kernel)) (fun _ h9 => h9) rfl dX1_factOfShop_53 ?_
    refine va_getN (host := RX3) (D := D) (ci := 2) (v := .int sn) (C := RX2) (T := TX2) (N := 9) hx hb hts hinX2 hown hK hP 1 rfl rfl 6 (by decide) (va_Nw.use rfl (hnw (.fieldLinkNest RX1 63 "CobblerCodes$Tree" "size" "I" RX3) (by decide +kernel))) (fun _ h9 => h9) rfl dX1_factOfShop_56 ?_
    exact cb_endSi (v := sn) hx hb hr hlocks (by unfold cFactShop; simp only [if_neg c_1, if_pos c_2]) dX1_factOfShop_59
  by_cases c_3 : u0 = 2
  · refine lv_tableIn (off := 59) (tgt := 60) hx hb dX1_factOfShop_1 (by rw [c_3]; decide) (by rw [c_3]; decide) (by rw [c_3]; rfl) (by decide) ?_
    refine lv_aload_n hx hb dX1_factOfShop_60 rfl (lv_at hl 0 rfl) ?_
    refine va_get (D := D) (ci := 1) (v := .ref a0) (C := RX1) (T := TX1) (N := 4) hx hb hts hinX1 hown hK hP 0 rfl rfl 0 (by decide) (hts (.fieldLink RX1 12 "CobblerCodes$Shop" "tree" "LCobblerCodes$Tree;") (by decide +kernel)) (fun _ h9 => h9) rfl dX1_factOfShop_61 ?_
    have hPc := hP.sub (ws' := [(a0, .inr (2, [.ref aw, .ref al, .ref af, .ref ab, .ref ap, .ref ah, .int sn, .int ex, .int wr])), (aw, .inl (cy, 65, .inl T.1)), (al, .inl (cy, 65, .inl T.2.1)), (af, .inl (cy, 65, .inl T.2.2.1)), (ab, .inl (cy, 65, .inl T.2.2.2.1)), (ap, .inl (cy, 33, .inl T.2.2.2.2))]) [1, 2, 3, 4, 5, 6] rfl
    refine cb_callSi (r0 := (atN 65 T.1 0)) (va_runVN (As := []) (rest := []) ⟨hx, hb, hml, hown, hts⟩ (kX2_weightOfRoot l D cy a0 aw al af ab ap ah T sn ex wr) ⟨va_cnB 0 hts gX1_factOfShop_X2_weightOfRoot_n50 rfl rfl rfl (hnw (.methodLinkNest RX1 50 yX2_weightOfRoot RX3) (by decide +kernel)) (hts (.initialized RX2) (by decide +kernel)) (by decide +kernel) ⟨Nat.le_of_ble_eq_true rfl, Nat.le_of_ble_eq_true rfl⟩, hts (.instanceMethod yX2_weightOfRoot) (by decide +kernel), hts (.selects RX2 yX2_weightOfRoot yX2_weightOfRoot) (by decide +kernel)⟩ (cb_Pp.pv hK hPc hnw (ci := 2) (q0 := 0) rfl rfl) rfl rfl hl.1 rfl (lv_room (Nat.le_of_ble_eq_true rfl)) dX1_factOfShop_64 ⟨Nat.le_of_ble_eq_true rfl, Nat.le_of_ble_eq_true rfl⟩) ?_
    exact cb_endSi (v := atN 65 T.1 0) hx hb hr hlocks (by unfold cFactShop; simp only [if_neg c_1, if_neg c_2, if_pos c_3]) dX1_factOfShop_67
  by_cases c_4 : u0 = 3
  · refine lv_tableIn (off := 67) (tgt := 68) hx hb dX1_factOfShop_1 (by rw [c_4]; decide) (by rw [c_4]; decide) (by rw [c_4]; rfl) (by decide) ?_
    refine lv_aload_n hx hb dX1_factOfShop_68 rfl (lv_at hl 0 rfl) ?_
    refine va_get (D := D) (ci := 1) (v := .int us) (C := RX1) (T := TX1) (N := 4) hx hb hts hinX1 hown hK hP 0 rfl rfl 2 (by decide) (hts (.fieldLink RX1 44 "CobblerCodes$Shop" "uses" "I") (by decide +kernel)) (fun _ h9 => h9) rfl dX1_factOfShop_69 ?_
    exact cb_endSi (v := us) hx hb hr hlocks (by unfold cFactShop; simp only [if_neg c_1, if_neg c_2, if_neg c_3, if_pos c_4]) dX1_factOfShop_72
  by_cases c_5 : u0 = 4
  · refine lv_tableIn (off := 72) (tgt := 73) hx hb dX1_factOfShop_1 (by rw [c_5]; decide) (by rw [c_5]; decide) (by rw [c_5]; rfl) (by decide) ?_
    refine lv_aload_n hx hb dX1_factOfShop_73 rfl (lv_at hl 0 rfl) ?_
    refine va_get (D := D) (ci := 1) (v := .int bi) (C := RX1) (T := TX1) (N := 4) hx hb hts hinX1 hown hK hP 0 rfl rfl 3 (by decide) (hts (.fieldLink RX1 47 "CobblerCodes$Shop" "bits" "I") (by decide +kernel)) (fun _ h9 => h9) rfl dX1_factOfShop_74 ?_
    exact cb_endSi (v := bi) hx hb hr hlocks (by unfold cFactShop; simp only [if_neg c_1, if_neg c_2, if_neg c_3, if_neg c_4, if_pos c_5]) dX1_factOfShop_77
  by_cases c_6 : u0 = 5
  · refine lv_tableIn (off := 77) (tgt := 78) hx hb dX1_factOfShop_1 (by rw [c_6]; decide) (by rw [c_6]; decide) (by rw [c_6]; rfl) (by decide) ?_
    refine lv_aload_n hx hb dX1_factOfShop_78 rfl (lv_at hl 0 rfl) ?_
    refine va_get (D := D) (ci := 1) (v := .ref a0) (C := RX1) (T := TX1) (N := 4) hx hb hts hinX1 hown hK hP 0 rfl rfl 0 (by decide) (hts (.fieldLink RX1 12 "CobblerCodes$Shop" "tree" "LCobblerCodes$Tree;") (by decide +kernel)) (fun _ h9 => h9) rfl dX1_factOfShop_79 ?_
    refine va_getN (host := RX3) (D := D) (ci := 2) (v := .int ex) (C := RX2) (T := TX2) (N := 9) hx hb hts hinX2 hown hK hP 1 rfl rfl 7 (by decide) (va_Nw.use rfl (hnw (.fieldLinkNest RX1 66 "CobblerCodes$Tree" "exchanges" "I" RX3) (by decide +kernel))) (fun _ h9 => h9) rfl dX1_factOfShop_82 ?_
    exact cb_endSi (v := ex) hx hb hr hlocks (by unfold cFactShop; simp only [if_neg c_1, if_neg c_2, if_neg c_3, if_neg c_4, if_neg c_5, if_pos c_6]) dX1_factOfShop_85
  by_cases c_7 : u0 = 6
  · refine lv_tableIn (off := 85) (tgt := 86) hx hb dX1_factOfShop_1 (by rw [c_7]; decide) (by rw [c_7]; decide) (by rw [c_7]; rfl) (by decide) ?_
    refine lv_aload_n hx hb dX1_factOfShop_86 rfl (lv_at hl 0 rfl) ?_
    refine va_get (D := D) (ci := 1) (v := .ref a0) (C := RX1) (T := TX1) (N := 4) hx hb hts hinX1 hown hK hP 0 rfl rfl 0 (by decide) (hts (.fieldLink RX1 12 "CobblerCodes$Shop" "tree" "LCobblerCodes$Tree;") (by decide +kernel)) (fun _ h9 => h9) rfl dX1_factOfShop_87 ?_
    refine va_getN (host := RX3) (D := D) (ci := 2) (v := .int wr) (C := RX2) (T := TX2) (N := 9) hx hb hts hinX2 hown hK hP 1 rfl rfl 8 (by decide) (va_Nw.use rfl (hnw (.fieldLinkNest RX1 69 "CobblerCodes$Tree" "wears" "I" RX3) (by decide +kernel))) (fun _ h9 => h9) rfl dX1_factOfShop_90 ?_
    exact cb_endSi (v := wr) hx hb hr hlocks (by unfold cFactShop; simp only [if_neg c_1, if_neg c_2, if_neg c_3, if_neg c_4, if_neg c_5, if_neg c_6, if_pos c_7]) dX1_factOfShop_93
  refine lv_tableOut (tgt := 94) hx hb dX1_factOfShop_1 (cb_out7 c_1 c_2 c_3 c_4 c_5 c_6 c_7) (by decide) ?_
  refine lv_aload_n hx hb dX1_factOfShop_94 rfl (lv_at hl 0 rfl) ?_
  refine va_get (D := D) (ci := 1) (v := .int lim) (C := RX1) (T := TX1) (N := 4) hx hb hts hinX1 hown hK hP 0 rfl rfl 1 (by decide) (hts (.fieldLink RX1 18 "CobblerCodes$Shop" "limit" "I") (by decide +kernel)) (fun _ h9 => h9) rfl dX1_factOfShop_95 ?_
  exact cb_endSi (v := lim) hx hb hr hlocks (by unfold cFactShop; simp only [if_neg c_1, if_neg c_2, if_neg c_3, if_neg c_4, if_neg c_5, if_neg c_6, if_neg c_7]) dX1_factOfShop_98

set_option maxHeartbeats 4000000 in
set_option maxRecDepth 100000 in
theorem kX1_takeOne (l : Launch) (D : va_G) (cy : ClassId) (sz : Nat) (b0 a0 aw al af ab ap ah gw gl gf : Nat) (S : SS) (u0 : Int32) : Met l yX1_takeOne wsX1_takeOne ({ frames := 4, cells := 0, slots := 0, locals := 95 }) (cb_Pw D (cb_tys cy) [(b0, .inr (1, [.ref a0, .int S.2.1, .int S.2.2.1, .int S.2.2.2])), (a0, .inr (2, [.ref aw, .ref al, .ref af, .ref ab, .ref ap, .ref ah, .int S.1.2.1, .int S.1.2.2.1, .int S.1.2.2.2.1])), (aw, .inl (cy, 65, .inl S.1.1.1)), (al, .inl (cy, 65, .inl S.1.1.2.1)), (af, .inl (cy, 65, .inl S.1.1.2.2.1)), (ab, .inl (cy, 65, .inl S.1.1.2.2.2.1)), (ap, .inl (cy, 33, .inl S.1.1.2.2.2.2)), (ah, .inr (0, [.ref gw, .ref gl, .ref gf, .int S.1.2.2.2.2.2])), (gw, .inl (cy, 65, .inl S.1.2.2.2.2.1.1)), (gl, .inl (cy, 65, .inl S.1.2.2.2.2.1.2.1)), (gf, .inl (cy, 65, .inl S.1.2.2.2.2.1.2.2))] sz [.ref b0, .int u0]) (cb_Qi D (cb_tys cy) (va_A [(b0, .inr (1, [.ref a0, .int S.2.1, .int S.2.2.1, .int S.2.2.2])), (a0, .inr (2, [.ref aw, .ref al, .ref af, .ref ab, .ref ap, .ref ah, .int S.1.2.1, .int S.1.2.2.1, .int S.1.2.2.2.1])), (aw, .inl (cy, 65, .inl S.1.1.1)), (al, .inl (cy, 65, .inl S.1.1.2.1)), (af, .inl (cy, 65, .inl S.1.1.2.2.1)), (ab, .inl (cy, 65, .inl S.1.1.2.2.2.1)), (ap, .inl (cy, 33, .inl S.1.1.2.2.2.2)), (ah, .inr (0, [.ref gw, .ref gl, .ref gf, .int S.1.2.2.2.2.2])), (gw, .inl (cy, 65, .inl S.1.2.2.2.2.1.1)), (gl, .inl (cy, 65, .inl S.1.2.2.2.2.1.2.1)), (gf, .inl (cy, 65, .inl S.1.2.2.2.2.1.2.2))] sz) [(b0, .inr (1, [.ref a0, .int (cTakeOne S u0).1.2.1, .int (cTakeOne S u0).1.2.2.1, .int (cTakeOne S u0).1.2.2.2])), (a0, .inr (2, [.ref aw, .ref al, .ref af, .ref ab, .ref ap, .ref ah, .int (cTakeOne S u0).1.1.2.1, .int (cTakeOne S u0).1.1.2.2.1, .int (cTakeOne S u0).1.1.2.2.2.1])), (aw, .inl (cy, 65, .inl (cTakeOne S u0).1.1.1.1)), (al, .inl (cy, 65, .inl (cTakeOne S u0).1.1.1.2.1)), (af, .inl (cy, 65, .inl (cTakeOne S u0).1.1.1.2.2.1)), (ab, .inl (cy, 65, .inl (cTakeOne S u0).1.1.1.2.2.2.1)), (ap, .inl (cy, 33, .inl (cTakeOne S u0).1.1.1.2.2.2.2)), (ah, .inr (0, [.ref gw, .ref gl, .ref gf, .int (cTakeOne S u0).1.1.2.2.2.2.2])), (gw, .inl (cy, 65, .inl (cTakeOne S u0).1.1.2.2.2.2.1.1)), (gl, .inl (cy, 65, .inl (cTakeOne S u0).1.1.2.2.2.2.1.2.1)), (gf, .inl (cy, 65, .inl (cTakeOne S u0).1.1.2.2.2.2.1.2.2))] ((cTakeOne S u0).2)) 0 0 (va_A [(b0, .inr (1, [.ref a0, .int S.2.1, .int S.2.2.1, .int S.2.2.2])), (a0, .inr (2, [.ref aw, .ref al, .ref af, .ref ab, .ref ap, .ref ah, .int S.1.2.1, .int S.1.2.2.1, .int S.1.2.2.2.1])), (aw, .inl (cy, 65, .inl S.1.1.1)), (al, .inl (cy, 65, .inl S.1.1.2.1)), (af, .inl (cy, 65, .inl S.1.1.2.2.1)), (ab, .inl (cy, 65, .inl S.1.1.2.2.2.1)), (ap, .inl (cy, 33, .inl S.1.1.2.2.2.2)), (ah, .inr (0, [.ref gw, .ref gl, .ref gf, .int S.1.2.2.2.2.2])), (gw, .inl (cy, 65, .inl S.1.2.2.2.2.1.1)), (gl, .inl (cy, 65, .inl S.1.2.2.2.2.1.2.1)), (gf, .inl (cy, 65, .inl S.1.2.2.2.2.1.2.2))] sz) := by
  refine Met.ofW (cc := cX1_takeOne) (maxL := 3) (ret := (some .int)) (by decide) rfl ?_
  intro p e s m args below meth c s₁ B hml hv
  obtain ⟨rfl, hsz, hP, hK, hD0, hnw⟩ := hv
  have hx := B.exec
  have hb := B.bytes
  have hr := B.returns
  have hts := atoms_spec (ws := wsX1_takeOne) B.pre
  have hown : s.vm.findClass RX1 = some m.cls := findClass_of_methodNamed B.named
  have hlocks := B.notSynchronized
  have hinX1 : ∀ w ∈ wsX10, w ∈ wsX1_takeOne := by decide +kernel
  subst hsz
  have hD := hD0.self (sz := s.heap.size)
  generalize hAe : va_A [(b0, .inr (1, [.ref a0, .int S.2.1, .int S.2.2.1, .int S.2.2.2])), (a0, .inr (2, [.ref aw, .ref al, .ref af, .ref ab, .ref ap, .ref ah, .int S.1.2.1, .int S.1.2.2.1, .int S.1.2.2.2.1])), (aw, .inl (cy, 65, .inl S.1.1.1)), (al, .inl (cy, 65, .inl S.1.1.2.1)), (af, .inl (cy, 65, .inl S.1.1.2.2.1)), (ab, .inl (cy, 65, .inl S.1.1.2.2.2.1)), (ap, .inl (cy, 33, .inl S.1.1.2.2.2.2)), (ah, .inr (0, [.ref gw, .ref gl, .ref gf, .int S.1.2.2.2.2.2])), (gw, .inl (cy, 65, .inl S.1.2.2.2.2.1.1)), (gl, .inl (cy, 65, .inl S.1.2.2.2.2.1.2.1)), (gf, .inl (cy, 65, .inl S.1.2.2.2.2.1.2.2))] s.heap.size = A at hD ⊢
  have hA : ∀ q : Nat, s.heap.size ≤ q → A q := fun q h => by rw [← hAe]; exact Or.inr h
  clear hAe
  have hS : va_S A s.heap s.heap [] := va_S.rf
  have hl := lv_entry ([.ref b0, .int u0]) (n := 3) (Nat.le_of_ble_eq_true rfl)
  rw [lg_entry_eq]
  generalize (lg_sl ([.ref b0, .int u0]) ++ List.replicate (3 - (lg_sl ([.ref b0, .int u0])).length) Slot.unset).toArray = ls at hl ⊢
  have hl : lv_has ls 3 [(0, .ref b0), (1, .int u0)] := hl
  refine lv_aload_n hx hb dX1_takeOne_0 rfl (lv_at hl 0 rfl) ?_
  refine lv_iload_n hx hb dX1_takeOne_1 rfl (lv_at hl 1 rfl) ?_
  have hPc := hP.sub (ws' := [(b0, .inr (1, [.ref a0, .int S.2.1, .int S.2.2.1, .int S.2.2.2])), (a0, .inr (2, [.ref aw, .ref al, .ref af, .ref ab, .ref ap, .ref ah, .int S.1.2.1, .int S.1.2.2.1, .int S.1.2.2.2.1])), (aw, .inl (cy, 65, .inl S.1.1.1)), (al, .inl (cy, 65, .inl S.1.1.2.1)), (af, .inl (cy, 65, .inl S.1.1.2.2.1)), (ab, .inl (cy, 65, .inl S.1.1.2.2.2.1)), (ap, .inl (cy, 33, .inl S.1.1.2.2.2.2))]) [0, 1, 2, 3, 4, 5, 6] rfl
  refine cb_callSi (r0 := (cBits S.1.1 u0)) (va_runV (As := [.int u0]) (rest := []) ⟨hx, hb, hml, hown, hts⟩ (kX1_bitsFor l D cy b0 a0 aw al af ab ap ah S.1.1 S.1.2.1 S.1.2.2.1 S.1.2.2.2.1 S.2.1 S.2.2.1 S.2.2.2 u0) (cwV 1 hts gX1_takeOne_X1_bitsFor rfl rfl rfl (by decide +kernel) ⟨Nat.le_of_ble_eq_true rfl, Nat.le_of_ble_eq_true rfl⟩) (cb_Pp.pv hK hPc hnw (ci := 1) (q0 := 0) rfl rfl) rfl rfl hl.1 rfl (lv_room (Nat.le_of_ble_eq_true rfl)) dX1_takeOne_2 ⟨Nat.le_of_ble_eq_true rfl, Nat.le_of_ble_eq_true rfl⟩) ?_
  refine lv_istore_n (lv' := [(2, .int (cBits S.1.1 u0)), (0, .ref b0), (1, .int u0)]) hx hb dX1_takeOne_5 rfl hl (by decide) rfl (fun ls hl => ?_)
  refine lv_aload_n hx hb dX1_takeOne_6 rfl (lv_at hl 1 rfl) ?_
  refine va_get (D := D) (ci := 1) (v := .ref a0) (C := RX1) (T := TX1) (N := 4) hx hb hts hinX1 hown hK hP 0 rfl rfl 0 (by decide) (hts (.fieldLink RX1 12 "CobblerCodes$Shop" "tree" "LCobblerCodes$Tree;") (by decide +kernel)) (fun _ h9 => h9) rfl dX1_takeOne_7 ?_
  refine lv_iload_n hx hb dX1_takeOne_10 rfl (lv_at hl 2 rfl) ?_
  have hPc := hP.sub (ws' := [(a0, .inr (2, [.ref aw, .ref al, .ref af, .ref ab, .ref ap, .ref ah, .int S.1.2.1, .int S.1.2.2.1, .int S.1.2.2.2.1])), (aw, .inl (cy, 65, .inl S.1.1.1)), (al, .inl (cy, 65, .inl S.1.1.2.1)), (af, .inl (cy, 65, .inl S.1.1.2.2.1)), (ab, .inl (cy, 65, .inl S.1.1.2.2.2.1)), (ap, .inl (cy, 33, .inl S.1.1.2.2.2.2))]) [1, 2, 3, 4, 5, 6] rfl
  refine cb_callSi (r0 := (cKnows S.1.1.2.2.2.2 u0)) (va_runVN (As := [.int u0]) (rest := []) ⟨hx, hb, hml, hown, hts⟩ (kX2_knows l D cy a0 aw al af ab ap ah S.1.1 S.1.2.1 S.1.2.2.1 S.1.2.2.2.1 u0) ⟨va_cnB 1 hts gX1_takeOne_X2_knows_n26 rfl rfl rfl (hnw (.methodLinkNest RX1 26 yX2_knows RX3) (by decide +kernel)) (hts (.initialized RX2) (by decide +kernel)) (by decide +kernel) ⟨Nat.le_of_ble_eq_true rfl, Nat.le_of_ble_eq_true rfl⟩, hts (.instanceMethod yX2_knows) (by decide +kernel), hts (.selects RX2 yX2_knows yX2_knows) (by decide +kernel)⟩ (cb_Pp.pv hK hPc hnw (ci := 2) (q0 := 0) rfl rfl) rfl rfl hl.1 rfl (lv_room (Nat.le_of_ble_eq_true rfl)) dX1_takeOne_11 ⟨Nat.le_of_ble_eq_true rfl, Nat.le_of_ble_eq_true rfl⟩) ?_
  refine lv_if_ne (tgt := 25) hx hb dX1_takeOne_14 (by decide) (fun c_1 => ?_) (fun c_1 => ?_)
  · refine lv_aload_n hx hb dX1_takeOne_25 rfl (lv_at hl 1 rfl) ?_
    refine va_get (D := D) (ci := 1) (v := .ref a0) (C := RX1) (T := TX1) (N := 4) hx hb hts hinX1 hown hK hP 0 rfl rfl 0 (by decide) (hts (.fieldLink RX1 12 "CobblerCodes$Shop" "tree" "LCobblerCodes$Tree;") (by decide +kernel)) (fun _ h9 => h9) rfl dX1_takeOne_26 ?_
    refine lv_iload_n hx hb dX1_takeOne_29 rfl (lv_at hl 2 rfl) ?_
    have hPc := hP.sub (ws' := [(a0, .inr (2, [.ref aw, .ref al, .ref af, .ref ab, .ref ap, .ref ah, .int S.1.2.1, .int S.1.2.2.1, .int S.1.2.2.2.1])), (aw, .inl (cy, 65, .inl S.1.1.1)), (al, .inl (cy, 65, .inl S.1.1.2.1)), (af, .inl (cy, 65, .inl S.1.1.2.2.1)), (ab, .inl (cy, 65, .inl S.1.1.2.2.2.1)), (ap, .inl (cy, 33, .inl S.1.1.2.2.2.2))]) [1, 2, 3, 4, 5, 6] rfl
    have hDc := hD.sub (ws' := [(a0, .inr (2, [.ref aw, .ref al, .ref af, .ref ab, .ref ap, .ref ah, .int S.1.2.1, .int S.1.2.2.1, .int S.1.2.2.2.1])), (aw, .inl (cy, 65, .inl S.1.1.1)), (al, .inl (cy, 65, .inl S.1.1.2.1)), (af, .inl (cy, 65, .inl S.1.1.2.2.1)), (ab, .inl (cy, 65, .inl S.1.1.2.2.2.1)), (ap, .inl (cy, 33, .inl S.1.1.2.2.2.2))]) [1, 2, 3, 4, 5, 6] (by decide) rfl
    refine cb_callQv (wc := [(a0, .inr (2, [.ref aw, .ref al, .ref af, .ref ab, .ref ap, .ref ah, .int S.1.2.1, .int S.1.2.2.1, .int S.1.2.2.2.1])), (aw, .inl (cy, 65, .inl S.1.1.1)), (al, .inl (cy, 65, .inl S.1.1.2.1)), (af, .inl (cy, 65, .inl S.1.1.2.2.1)), (ab, .inl (cy, 65, .inl S.1.1.2.2.2.1)), (ap, .inl (cy, 33, .inl S.1.1.2.2.2.2))]) (wr := [(b0, .inr (1, [.ref a0, .int S.2.1, .int S.2.2.1, .int S.2.2.2])), (ah, .inr (0, [.ref gw, .ref gl, .ref gf, .int S.1.2.2.2.2.2])), (gw, .inl (cy, 65, .inl S.1.2.2.2.2.1.1)), (gl, .inl (cy, 65, .inl S.1.2.2.2.2.1.2.1)), (gf, .inl (cy, 65, .inl S.1.2.2.2.2.1.2.2))]) (wc' := [(a0, .inr (2, [.ref aw, .ref al, .ref af, .ref ab, .ref ap, .ref ah, .int S.1.2.1, .int ((cHeavy S.1.1 S.1.2.2.1 u0).2), .int S.1.2.2.2.1])), (aw, .inl (cy, 65, .inl ((cHeavy S.1.1 S.1.2.2.1 u0).1.1))), (al, .inl (cy, 65, .inl ((cHeavy S.1.1 S.1.2.2.1 u0).1.2.1))), (af, .inl (cy, 65, .inl ((cHeavy S.1.1 S.1.2.2.1 u0).1.2.2.1))), (ab, .inl (cy, 65, .inl ((cHeavy S.1.1 S.1.2.2.1 u0).1.2.2.2.1))), (ap, .inl (cy, 33, .inl ((cHeavy S.1.1 S.1.2.2.1 u0).1.2.2.2.2)))]) (ws2 := [(b0, .inr (1, [.ref a0, .int S.2.1, .int S.2.2.1, .int S.2.2.2])), (a0, .inr (2, [.ref aw, .ref al, .ref af, .ref ab, .ref ap, .ref ah, .int S.1.2.1, .int ((cHeavy S.1.1 S.1.2.2.1 u0).2), .int S.1.2.2.2.1])), (aw, .inl (cy, 65, .inl ((cHeavy S.1.1 S.1.2.2.1 u0).1.1))), (al, .inl (cy, 65, .inl ((cHeavy S.1.1 S.1.2.2.1 u0).1.2.1))), (af, .inl (cy, 65, .inl ((cHeavy S.1.1 S.1.2.2.1 u0).1.2.2.1))), (ab, .inl (cy, 65, .inl ((cHeavy S.1.1 S.1.2.2.1 u0).1.2.2.2.1))), (ap, .inl (cy, 33, .inl ((cHeavy S.1.1 S.1.2.2.1 u0).1.2.2.2.2))), (ah, .inr (0, [.ref gw, .ref gl, .ref gf, .int S.1.2.2.2.2.2])), (gw, .inl (cy, 65, .inl S.1.2.2.2.2.1.1)), (gl, .inl (cy, 65, .inl S.1.2.2.2.2.1.2.1)), (gf, .inl (cy, 65, .inl S.1.2.2.2.2.1.2.2))]) hP hD hS hA [1, 2, 3, 4, 5, 6] [0, 7, 8, 9, 10] [0, 5, 6, 7, 8, 9, 10, 1, 2, 3, 4] (va_runVN (As := [.int u0]) (rest := []) ⟨hx, hb, hml, hown, hts⟩ (kX2_makeHeavier l D cy _ a0 aw al af ab ap ah S.1.1 S.1.2.1 S.1.2.2.1 S.1.2.2.2.1 u0) ⟨va_cnB 1 hts gX1_takeOne_X2_makeHeavier_n41 rfl rfl rfl (hnw (.methodLinkNest RX1 41 yX2_makeHeavier RX3) (by decide +kernel)) (hts (.initialized RX2) (by decide +kernel)) (by decide +kernel) ⟨Nat.le_of_ble_eq_true rfl, Nat.le_of_ble_eq_true rfl⟩, hts (.instanceMethod yX2_makeHeavier) (by decide +kernel), hts (.selects RX2 yX2_makeHeavier yX2_makeHeavier) (by decide +kernel)⟩ (cb_Pw.pv hK hPc hDc hnw (ci := 2) (q0 := 0) rfl rfl) rfl rfl hl.1 rfl (lv_room (Nat.le_of_ble_eq_true rfl)) dX1_takeOne_30 ⟨Nat.le_of_ble_eq_true rfl, Nat.le_of_ble_eq_true rfl⟩) rfl rfl (by decide) (by decide) rfl (by decide) (fun H locs hP hD hS => ?_)
    generalize eZ_2 : cHeavy S.1.1 S.1.2.2.1 u0 = Z_2 at hP hD ⊢
    refine lv_aload_n hx hb dX1_takeOne_33 rfl (lv_at hl 1 rfl) ?_
    refine lv_dup hx hb dX1_takeOne_34 rfl ?_
    refine va_get (D := D) (ci := 1) (v := .int S.2.2.1) (C := RX1) (T := TX1) (N := 4) hx hb hts hinX1 hown hK hP 0 rfl rfl 2 (by decide) (hts (.fieldLink RX1 44 "CobblerCodes$Shop" "uses" "I") (by decide +kernel)) (fun _ h9 => h9) rfl dX1_takeOne_35 ?_
    refine lv_iconst (v := 1) hx hb dX1_takeOne_38 (by decide) ?_
    refine lv_iadd hx hb dX1_takeOne_39 ?_
    refine va_put (D := D) (ci := 1) (v := .int (S.2.2.1 + 1)) (ty := .int) (C := RX1) (T := TX1) (N := 4) hx hb hts hinX1 tyX1 tyX1_ok nmX1 hown hK hP hD hS 0 rfl rfl 2 (by decide) (hts (.fieldLink RX1 44 "CobblerCodes$Shop" "uses" "I") (by decide +kernel)) (fun _ h9 => h9) rfl (by decide +kernel) rfl rfl (Nat.le_of_ble_eq_true rfl) dX1_takeOne_40 (fun H locs hP hD hS => ?_)
    have hP : va_P D vwCl [(b0, .inr (1, [.ref a0, .int S.2.1, .int (S.2.2.1 + 1), .int S.2.2.2])), (a0, .inr (2, [.ref aw, .ref al, .ref af, .ref ab, .ref ap, .ref ah, .int S.1.2.1, .int Z_2.2, .int S.1.2.2.2.1])), (aw, .inl (cy, 65, .inl Z_2.1.1)), (al, .inl (cy, 65, .inl Z_2.1.2.1)), (af, .inl (cy, 65, .inl Z_2.1.2.2.1)), (ab, .inl (cy, 65, .inl Z_2.1.2.2.2.1)), (ap, .inl (cy, 33, .inl Z_2.1.2.2.2.2)), (ah, .inr (0, [.ref gw, .ref gl, .ref gf, .int S.1.2.2.2.2.2])), (gw, .inl (cy, 65, .inl S.1.2.2.2.2.1.1)), (gl, .inl (cy, 65, .inl S.1.2.2.2.2.1.2.1)), (gf, .inl (cy, 65, .inl S.1.2.2.2.2.1.2.2))] H := hP
    have hD : va_D A [(b0, .inr (1, [.ref a0, .int S.2.1, .int (S.2.2.1 + 1), .int S.2.2.2])), (a0, .inr (2, [.ref aw, .ref al, .ref af, .ref ab, .ref ap, .ref ah, .int S.1.2.1, .int Z_2.2, .int S.1.2.2.2.1])), (aw, .inl (cy, 65, .inl Z_2.1.1)), (al, .inl (cy, 65, .inl Z_2.1.2.1)), (af, .inl (cy, 65, .inl Z_2.1.2.2.1)), (ab, .inl (cy, 65, .inl Z_2.1.2.2.2.1)), (ap, .inl (cy, 33, .inl Z_2.1.2.2.2.2)), (ah, .inr (0, [.ref gw, .ref gl, .ref gf, .int S.1.2.2.2.2.2])), (gw, .inl (cy, 65, .inl S.1.2.2.2.2.1.1)), (gl, .inl (cy, 65, .inl S.1.2.2.2.2.1.2.1)), (gf, .inl (cy, 65, .inl S.1.2.2.2.2.1.2.2))] := hD
    refine lv_aload_n hx hb dX1_takeOne_43 rfl (lv_at hl 1 rfl) ?_
    refine lv_dup hx hb dX1_takeOne_44 rfl ?_
    refine va_get (D := D) (ci := 1) (v := .int S.2.2.2) (C := RX1) (T := TX1) (N := 4) hx hb hts hinX1 hown hK hP 0 rfl rfl 3 (by decide) (hts (.fieldLink RX1 47 "CobblerCodes$Shop" "bits" "I") (by decide +kernel)) (fun _ h9 => h9) rfl dX1_takeOne_45 ?_
    refine lv_iload_n hx hb dX1_takeOne_48 rfl (lv_at hl 0 rfl) ?_
    refine lv_iadd hx hb dX1_takeOne_49 ?_
    refine va_put (D := D) (ci := 1) (v := .int (S.2.2.2 + (cBits S.1.1 u0))) (ty := .int) (C := RX1) (T := TX1) (N := 4) hx hb hts hinX1 tyX1 tyX1_ok nmX1 hown hK hP hD hS 0 rfl rfl 3 (by decide) (hts (.fieldLink RX1 47 "CobblerCodes$Shop" "bits" "I") (by decide +kernel)) (fun _ h9 => h9) rfl (by decide +kernel) rfl rfl (Nat.le_of_ble_eq_true rfl) dX1_takeOne_50 (fun H locs hP hD hS => ?_)
    have hP : va_P D vwCl [(b0, .inr (1, [.ref a0, .int S.2.1, .int (S.2.2.1 + 1), .int (S.2.2.2 + (cBits S.1.1 u0))])), (a0, .inr (2, [.ref aw, .ref al, .ref af, .ref ab, .ref ap, .ref ah, .int S.1.2.1, .int Z_2.2, .int S.1.2.2.2.1])), (aw, .inl (cy, 65, .inl Z_2.1.1)), (al, .inl (cy, 65, .inl Z_2.1.2.1)), (af, .inl (cy, 65, .inl Z_2.1.2.2.1)), (ab, .inl (cy, 65, .inl Z_2.1.2.2.2.1)), (ap, .inl (cy, 33, .inl Z_2.1.2.2.2.2)), (ah, .inr (0, [.ref gw, .ref gl, .ref gf, .int S.1.2.2.2.2.2])), (gw, .inl (cy, 65, .inl S.1.2.2.2.2.1.1)), (gl, .inl (cy, 65, .inl S.1.2.2.2.2.1.2.1)), (gf, .inl (cy, 65, .inl S.1.2.2.2.2.1.2.2))] H := hP
    have hD : va_D A [(b0, .inr (1, [.ref a0, .int S.2.1, .int (S.2.2.1 + 1), .int (S.2.2.2 + (cBits S.1.1 u0))])), (a0, .inr (2, [.ref aw, .ref al, .ref af, .ref ab, .ref ap, .ref ah, .int S.1.2.1, .int Z_2.2, .int S.1.2.2.2.1])), (aw, .inl (cy, 65, .inl Z_2.1.1)), (al, .inl (cy, 65, .inl Z_2.1.2.1)), (af, .inl (cy, 65, .inl Z_2.1.2.2.1)), (ab, .inl (cy, 65, .inl Z_2.1.2.2.2.1)), (ap, .inl (cy, 33, .inl Z_2.1.2.2.2.2)), (ah, .inr (0, [.ref gw, .ref gl, .ref gf, .int S.1.2.2.2.2.2])), (gw, .inl (cy, 65, .inl S.1.2.2.2.2.1.1)), (gl, .inl (cy, 65, .inl S.1.2.2.2.2.1.2.1)), (gf, .inl (cy, 65, .inl S.1.2.2.2.2.1.2.2))] := hD
    refine lv_aload_n hx hb dX1_takeOne_53 rfl (lv_at hl 1 rfl) ?_
    refine va_get (D := D) (ci := 1) (v := .ref a0) (C := RX1) (T := TX1) (N := 4) hx hb hts hinX1 hown hK hP 0 rfl rfl 0 (by decide) (hts (.fieldLink RX1 12 "CobblerCodes$Shop" "tree" "LCobblerCodes$Tree;") (by decide +kernel)) (fun _ h9 => h9) rfl dX1_takeOne_54 ?_
    have hPc := hP.sub (ws' := [(a0, .inr (2, [.ref aw, .ref al, .ref af, .ref ab, .ref ap, .ref ah, .int S.1.2.1, .int Z_2.2, .int S.1.2.2.2.1])), (aw, .inl (cy, 65, .inl Z_2.1.1)), (al, .inl (cy, 65, .inl Z_2.1.2.1)), (af, .inl (cy, 65, .inl Z_2.1.2.2.1)), (ab, .inl (cy, 65, .inl Z_2.1.2.2.2.1)), (ap, .inl (cy, 33, .inl Z_2.1.2.2.2.2))]) [1, 2, 3, 4, 5, 6] rfl
    refine cb_callSi (r0 := (atN 65 Z_2.1.1 0)) (va_runVN (As := []) (rest := []) ⟨hx, hb, hml, hown, hts⟩ (kX2_weightOfRoot l D cy a0 aw al af ab ap ah Z_2.1 S.1.2.1 Z_2.2 S.1.2.2.2.1) ⟨va_cnB 0 hts gX1_takeOne_X2_weightOfRoot_n50 rfl rfl rfl (hnw (.methodLinkNest RX1 50 yX2_weightOfRoot RX3) (by decide +kernel)) (hts (.initialized RX2) (by decide +kernel)) (by decide +kernel) ⟨Nat.le_of_ble_eq_true rfl, Nat.le_of_ble_eq_true rfl⟩, hts (.instanceMethod yX2_weightOfRoot) (by decide +kernel), hts (.selects RX2 yX2_weightOfRoot yX2_weightOfRoot) (by decide +kernel)⟩ (cb_Pp.pv hK hPc hnw (ci := 2) (q0 := 0) rfl rfl) rfl rfl hl.1 rfl (lv_room (Nat.le_of_ble_eq_true rfl)) dX1_takeOne_57 ⟨Nat.le_of_ble_eq_true rfl, Nat.le_of_ble_eq_true rfl⟩) ?_
    refine lv_aload_n hx hb dX1_takeOne_60 rfl (lv_at hl 1 rfl) ?_
    refine va_get (D := D) (ci := 1) (v := .int S.2.1) (C := RX1) (T := TX1) (N := 4) hx hb hts hinX1 hown hK hP 0 rfl rfl 1 (by decide) (hts (.fieldLink RX1 18 "CobblerCodes$Shop" "limit" "I") (by decide +kernel)) (fun _ h9 => h9) rfl dX1_takeOne_61 ?_
    refine lv_icmp_lt (tgt := 75) hx hb dX1_takeOne_64 (by decide) (fun c_3 => ?_) (fun c_3 => ?_)
    · refine lv_iload_n hx hb dX1_takeOne_75 rfl (lv_at hl 0 rfl) ?_
      exact cb_endQi (v := cBits S.1.1 u0) hx hb hr hlocks hP hD hK hS rfl (by subst eZ_2; simp only [cTakeOne, cTake3, cTake2, cTake1, if_neg c_1, if_pos c_3]; try rfl) (by omega) (by omega) dX1_takeOne_76
    · refine lv_aload_n hx hb dX1_takeOne_67 rfl (lv_at hl 1 rfl) ?_
      refine va_get (D := D) (ci := 1) (v := .ref a0) (C := RX1) (T := TX1) (N := 4) hx hb hts hinX1 hown hK hP 0 rfl rfl 0 (by decide) (hts (.fieldLink RX1 12 "CobblerCodes$Shop" "tree" "LCobblerCodes$Tree;") (by decide +kernel)) (fun _ h9 => h9) rfl dX1_takeOne_68 ?_
      have hPc := hP.sub (ws' := [(a0, .inr (2, [.ref aw, .ref al, .ref af, .ref ab, .ref ap, .ref ah, .int S.1.2.1, .int Z_2.2, .int S.1.2.2.2.1])), (aw, .inl (cy, 65, .inl Z_2.1.1)), (al, .inl (cy, 65, .inl Z_2.1.2.1)), (af, .inl (cy, 65, .inl Z_2.1.2.2.1)), (ab, .inl (cy, 65, .inl Z_2.1.2.2.2.1)), (ap, .inl (cy, 33, .inl Z_2.1.2.2.2.2)), (ah, .inr (0, [.ref gw, .ref gl, .ref gf, .int S.1.2.2.2.2.2])), (gw, .inl (cy, 65, .inl S.1.2.2.2.2.1.1)), (gl, .inl (cy, 65, .inl S.1.2.2.2.2.1.2.1)), (gf, .inl (cy, 65, .inl S.1.2.2.2.2.1.2.2))]) [1, 2, 3, 4, 5, 6, 7, 8, 9, 10] rfl
      have hDc := hD.sub (ws' := [(a0, .inr (2, [.ref aw, .ref al, .ref af, .ref ab, .ref ap, .ref ah, .int S.1.2.1, .int Z_2.2, .int S.1.2.2.2.1])), (aw, .inl (cy, 65, .inl Z_2.1.1)), (al, .inl (cy, 65, .inl Z_2.1.2.1)), (af, .inl (cy, 65, .inl Z_2.1.2.2.1)), (ab, .inl (cy, 65, .inl Z_2.1.2.2.2.1)), (ap, .inl (cy, 33, .inl Z_2.1.2.2.2.2)), (ah, .inr (0, [.ref gw, .ref gl, .ref gf, .int S.1.2.2.2.2.2])), (gw, .inl (cy, 65, .inl S.1.2.2.2.2.1.1)), (gl, .inl (cy, 65, .inl S.1.2.2.2.2.1.2.1)), (gf, .inl (cy, 65, .inl S.1.2.2.2.2.1.2.2))]) [1, 2, 3, 4, 5, 6, 7, 8, 9, 10] (by decide) rfl
      refine cb_callQi (wc := [(a0, .inr (2, [.ref aw, .ref al, .ref af, .ref ab, .ref ap, .ref ah, .int S.1.2.1, .int Z_2.2, .int S.1.2.2.2.1])), (aw, .inl (cy, 65, .inl Z_2.1.1)), (al, .inl (cy, 65, .inl Z_2.1.2.1)), (af, .inl (cy, 65, .inl Z_2.1.2.2.1)), (ab, .inl (cy, 65, .inl Z_2.1.2.2.2.1)), (ap, .inl (cy, 33, .inl Z_2.1.2.2.2.2)), (ah, .inr (0, [.ref gw, .ref gl, .ref gf, .int S.1.2.2.2.2.2])), (gw, .inl (cy, 65, .inl S.1.2.2.2.2.1.1)), (gl, .inl (cy, 65, .inl S.1.2.2.2.2.1.2.1)), (gf, .inl (cy, 65, .inl S.1.2.2.2.2.1.2.2))]) (wr := [(b0, .inr (1, [.ref a0, .int S.2.1, .int (S.2.2.1 + 1), .int (S.2.2.2 + (cBits S.1.1 u0))]))]) (wc' := [(a0, .inr (2, [.ref aw, .ref al, .ref af, .ref ab, .ref ap, .ref ah, .int ((cWear (Z_2.1, S.1.2.1, Z_2.2, S.1.2.2.2)).1.2.1), .int ((cWear (Z_2.1, S.1.2.1, Z_2.2, S.1.2.2.2)).1.2.2.1), .int ((cWear (Z_2.1, S.1.2.1, Z_2.2, S.1.2.2.2)).1.2.2.2.1)])), (aw, .inl (cy, 65, .inl ((cWear (Z_2.1, S.1.2.1, Z_2.2, S.1.2.2.2)).1.1.1))), (al, .inl (cy, 65, .inl ((cWear (Z_2.1, S.1.2.1, Z_2.2, S.1.2.2.2)).1.1.2.1))), (af, .inl (cy, 65, .inl ((cWear (Z_2.1, S.1.2.1, Z_2.2, S.1.2.2.2)).1.1.2.2.1))), (ab, .inl (cy, 65, .inl ((cWear (Z_2.1, S.1.2.1, Z_2.2, S.1.2.2.2)).1.1.2.2.2.1))), (ap, .inl (cy, 33, .inl ((cWear (Z_2.1, S.1.2.1, Z_2.2, S.1.2.2.2)).1.1.2.2.2.2))), (ah, .inr (0, [.ref gw, .ref gl, .ref gf, .int ((cWear (Z_2.1, S.1.2.1, Z_2.2, S.1.2.2.2)).1.2.2.2.2.2)])), (gw, .inl (cy, 65, .inl ((cWear (Z_2.1, S.1.2.1, Z_2.2, S.1.2.2.2)).1.2.2.2.2.1.1))), (gl, .inl (cy, 65, .inl ((cWear (Z_2.1, S.1.2.1, Z_2.2, S.1.2.2.2)).1.2.2.2.2.1.2.1))), (gf, .inl (cy, 65, .inl ((cWear (Z_2.1, S.1.2.1, Z_2.2, S.1.2.2.2)).1.2.2.2.2.1.2.2)))]) (ws2 := [(b0, .inr (1, [.ref a0, .int S.2.1, .int (S.2.2.1 + 1), .int (S.2.2.2 + (cBits S.1.1 u0))])), (a0, .inr (2, [.ref aw, .ref al, .ref af, .ref ab, .ref ap, .ref ah, .int ((cWear (Z_2.1, S.1.2.1, Z_2.2, S.1.2.2.2)).1.2.1), .int ((cWear (Z_2.1, S.1.2.1, Z_2.2, S.1.2.2.2)).1.2.2.1), .int ((cWear (Z_2.1, S.1.2.1, Z_2.2, S.1.2.2.2)).1.2.2.2.1)])), (aw, .inl (cy, 65, .inl ((cWear (Z_2.1, S.1.2.1, Z_2.2, S.1.2.2.2)).1.1.1))), (al, .inl (cy, 65, .inl ((cWear (Z_2.1, S.1.2.1, Z_2.2, S.1.2.2.2)).1.1.2.1))), (af, .inl (cy, 65, .inl ((cWear (Z_2.1, S.1.2.1, Z_2.2, S.1.2.2.2)).1.1.2.2.1))), (ab, .inl (cy, 65, .inl ((cWear (Z_2.1, S.1.2.1, Z_2.2, S.1.2.2.2)).1.1.2.2.2.1))), (ap, .inl (cy, 33, .inl ((cWear (Z_2.1, S.1.2.1, Z_2.2, S.1.2.2.2)).1.1.2.2.2.2))), (ah, .inr (0, [.ref gw, .ref gl, .ref gf, .int ((cWear (Z_2.1, S.1.2.1, Z_2.2, S.1.2.2.2)).1.2.2.2.2.2)])), (gw, .inl (cy, 65, .inl ((cWear (Z_2.1, S.1.2.1, Z_2.2, S.1.2.2.2)).1.2.2.2.2.1.1))), (gl, .inl (cy, 65, .inl ((cWear (Z_2.1, S.1.2.1, Z_2.2, S.1.2.2.2)).1.2.2.2.2.1.2.1))), (gf, .inl (cy, 65, .inl ((cWear (Z_2.1, S.1.2.1, Z_2.2, S.1.2.2.2)).1.2.2.2.2.1.2.2)))]) hP hD hS hA [1, 2, 3, 4, 5, 6, 7, 8, 9, 10] [0] [0, 1, 2, 3, 4, 5, 6, 7, 8, 9, 10] (va_runVN (As := []) (rest := []) ⟨hx, hb, hml, hown, hts⟩ (kX2_wearDown l D cy _ a0 aw al af ab ap ah gw gl gf (Z_2.1, S.1.2.1, Z_2.2, S.1.2.2.2)) ⟨va_cnB 0 hts gX1_takeOne_X2_wearDown_n54 rfl rfl rfl (hnw (.methodLinkNest RX1 54 yX2_wearDown RX3) (by decide +kernel)) (hts (.initialized RX2) (by decide +kernel)) (by decide +kernel) ⟨Nat.le_of_ble_eq_true rfl, Nat.le_of_ble_eq_true rfl⟩, hts (.instanceMethod yX2_wearDown) (by decide +kernel), hts (.selects RX2 yX2_wearDown yX2_wearDown) (by decide +kernel)⟩ (cb_Pw.pv hK hPc hDc hnw (ci := 2) (q0 := 0) rfl rfl) rfl rfl hl.1 rfl (lv_room (Nat.le_of_ble_eq_true rfl)) dX1_takeOne_71 ⟨Nat.le_of_ble_eq_true rfl, Nat.le_of_ble_eq_true rfl⟩) rfl rfl (by decide) (by decide) rfl (by decide) (fun H locs hP hD hS => ?_)
      generalize eZ_4 : cWear (Z_2.1, S.1.2.1, Z_2.2, S.1.2.2.2) = Z_4 at hP hD ⊢
      refine lv_pop hx hb dX1_takeOne_74 rfl ?_
      refine lv_iload_n hx hb dX1_takeOne_75 rfl (lv_at hl 0 rfl) ?_
      exact cb_endQi (v := cBits S.1.1 u0) hx hb hr hlocks hP hD hK hS rfl (by subst eZ_4; subst eZ_2; simp only [cTakeOne, cTake3, cTake2, cTake1, if_neg c_1, if_neg c_3]; try rfl) (by omega) (by omega) dX1_takeOne_76
  · refine lv_aload_n hx hb dX1_takeOne_17 rfl (lv_at hl 1 rfl) ?_
    refine va_get (D := D) (ci := 1) (v := .ref a0) (C := RX1) (T := TX1) (N := 4) hx hb hts hinX1 hown hK hP 0 rfl rfl 0 (by decide) (hts (.fieldLink RX1 12 "CobblerCodes$Shop" "tree" "LCobblerCodes$Tree;") (by decide +kernel)) (fun _ h9 => h9) rfl dX1_takeOne_18 ?_
    refine lv_iload_n hx hb dX1_takeOne_21 rfl (lv_at hl 2 rfl) ?_
    have hPc := hP.sub (ws' := [(a0, .inr (2, [.ref aw, .ref al, .ref af, .ref ab, .ref ap, .ref ah, .int S.1.2.1, .int S.1.2.2.1, .int S.1.2.2.2.1])), (aw, .inl (cy, 65, .inl S.1.1.1)), (al, .inl (cy, 65, .inl S.1.1.2.1)), (af, .inl (cy, 65, .inl S.1.1.2.2.1)), (ab, .inl (cy, 65, .inl S.1.1.2.2.2.1)), (ap, .inl (cy, 33, .inl S.1.1.2.2.2.2))]) [1, 2, 3, 4, 5, 6] rfl
    have hDc := hD.sub (ws' := [(a0, .inr (2, [.ref aw, .ref al, .ref af, .ref ab, .ref ap, .ref ah, .int S.1.2.1, .int S.1.2.2.1, .int S.1.2.2.2.1])), (aw, .inl (cy, 65, .inl S.1.1.1)), (al, .inl (cy, 65, .inl S.1.1.2.1)), (af, .inl (cy, 65, .inl S.1.1.2.2.1)), (ab, .inl (cy, 65, .inl S.1.1.2.2.2.1)), (ap, .inl (cy, 33, .inl S.1.1.2.2.2.2))]) [1, 2, 3, 4, 5, 6] (by decide) rfl
    refine cb_callQv (wc := [(a0, .inr (2, [.ref aw, .ref al, .ref af, .ref ab, .ref ap, .ref ah, .int S.1.2.1, .int S.1.2.2.1, .int S.1.2.2.2.1])), (aw, .inl (cy, 65, .inl S.1.1.1)), (al, .inl (cy, 65, .inl S.1.1.2.1)), (af, .inl (cy, 65, .inl S.1.1.2.2.1)), (ab, .inl (cy, 65, .inl S.1.1.2.2.2.1)), (ap, .inl (cy, 33, .inl S.1.1.2.2.2.2))]) (wr := [(b0, .inr (1, [.ref a0, .int S.2.1, .int S.2.2.1, .int S.2.2.2])), (ah, .inr (0, [.ref gw, .ref gl, .ref gf, .int S.1.2.2.2.2.2])), (gw, .inl (cy, 65, .inl S.1.2.2.2.2.1.1)), (gl, .inl (cy, 65, .inl S.1.2.2.2.2.1.2.1)), (gf, .inl (cy, 65, .inl S.1.2.2.2.2.1.2.2))]) (wc' := [(a0, .inr (2, [.ref aw, .ref al, .ref af, .ref ab, .ref ap, .ref ah, .int (S.1.2.1 + 2), .int S.1.2.2.1, .int S.1.2.2.2.1])), (aw, .inl (cy, 65, .inl ((cLearn S.1.1 S.1.2.1 u0).1))), (al, .inl (cy, 65, .inl ((cLearn S.1.1 S.1.2.1 u0).2.1))), (af, .inl (cy, 65, .inl ((cLearn S.1.1 S.1.2.1 u0).2.2.1))), (ab, .inl (cy, 65, .inl ((cLearn S.1.1 S.1.2.1 u0).2.2.2.1))), (ap, .inl (cy, 33, .inl ((cLearn S.1.1 S.1.2.1 u0).2.2.2.2)))]) (ws2 := [(b0, .inr (1, [.ref a0, .int S.2.1, .int S.2.2.1, .int S.2.2.2])), (a0, .inr (2, [.ref aw, .ref al, .ref af, .ref ab, .ref ap, .ref ah, .int (S.1.2.1 + 2), .int S.1.2.2.1, .int S.1.2.2.2.1])), (aw, .inl (cy, 65, .inl ((cLearn S.1.1 S.1.2.1 u0).1))), (al, .inl (cy, 65, .inl ((cLearn S.1.1 S.1.2.1 u0).2.1))), (af, .inl (cy, 65, .inl ((cLearn S.1.1 S.1.2.1 u0).2.2.1))), (ab, .inl (cy, 65, .inl ((cLearn S.1.1 S.1.2.1 u0).2.2.2.1))), (ap, .inl (cy, 33, .inl ((cLearn S.1.1 S.1.2.1 u0).2.2.2.2))), (ah, .inr (0, [.ref gw, .ref gl, .ref gf, .int S.1.2.2.2.2.2])), (gw, .inl (cy, 65, .inl S.1.2.2.2.2.1.1)), (gl, .inl (cy, 65, .inl S.1.2.2.2.2.1.2.1)), (gf, .inl (cy, 65, .inl S.1.2.2.2.2.1.2.2))]) hP hD hS hA [1, 2, 3, 4, 5, 6] [0, 7, 8, 9, 10] [0, 5, 6, 7, 8, 9, 10, 1, 2, 3, 4] (va_runVN (As := [.int u0]) (rest := []) ⟨hx, hb, hml, hown, hts⟩ (kX2_learn l D cy _ a0 aw al af ab ap ah S.1.1 S.1.2.1 S.1.2.2.1 S.1.2.2.2.1 u0) ⟨va_cnB 1 hts gX1_takeOne_X2_learn_n37 rfl rfl rfl (hnw (.methodLinkNest RX1 37 yX2_learn RX3) (by decide +kernel)) (hts (.initialized RX2) (by decide +kernel)) (by decide +kernel) ⟨Nat.le_of_ble_eq_true rfl, Nat.le_of_ble_eq_true rfl⟩, hts (.instanceMethod yX2_learn) (by decide +kernel), hts (.selects RX2 yX2_learn yX2_learn) (by decide +kernel)⟩ (cb_Pw.pv hK hPc hDc hnw (ci := 2) (q0 := 0) rfl rfl) rfl rfl hl.1 rfl (lv_room (Nat.le_of_ble_eq_true rfl)) dX1_takeOne_22 ⟨Nat.le_of_ble_eq_true rfl, Nat.le_of_ble_eq_true rfl⟩) rfl rfl (by decide) (by decide) rfl (by decide) (fun H locs hP hD hS => ?_)
    generalize eT2_5 : cLearn S.1.1 S.1.2.1 u0 = T2_5 at hP hD ⊢
    refine lv_aload_n hx hb dX1_takeOne_25 rfl (lv_at hl 1 rfl) ?_
    refine va_get (D := D) (ci := 1) (v := .ref a0) (C := RX1) (T := TX1) (N := 4) hx hb hts hinX1 hown hK hP 0 rfl rfl 0 (by decide) (hts (.fieldLink RX1 12 "CobblerCodes$Shop" "tree" "LCobblerCodes$Tree;") (by decide +kernel)) (fun _ h9 => h9) rfl dX1_takeOne_26 ?_
    refine lv_iload_n hx hb dX1_takeOne_29 rfl (lv_at hl 2 rfl) ?_
    have hPc := hP.sub (ws' := [(a0, .inr (2, [.ref aw, .ref al, .ref af, .ref ab, .ref ap, .ref ah, .int (S.1.2.1 + 2), .int S.1.2.2.1, .int S.1.2.2.2.1])), (aw, .inl (cy, 65, .inl T2_5.1)), (al, .inl (cy, 65, .inl T2_5.2.1)), (af, .inl (cy, 65, .inl T2_5.2.2.1)), (ab, .inl (cy, 65, .inl T2_5.2.2.2.1)), (ap, .inl (cy, 33, .inl T2_5.2.2.2.2))]) [1, 2, 3, 4, 5, 6] rfl
    have hDc := hD.sub (ws' := [(a0, .inr (2, [.ref aw, .ref al, .ref af, .ref ab, .ref ap, .ref ah, .int (S.1.2.1 + 2), .int S.1.2.2.1, .int S.1.2.2.2.1])), (aw, .inl (cy, 65, .inl T2_5.1)), (al, .inl (cy, 65, .inl T2_5.2.1)), (af, .inl (cy, 65, .inl T2_5.2.2.1)), (ab, .inl (cy, 65, .inl T2_5.2.2.2.1)), (ap, .inl (cy, 33, .inl T2_5.2.2.2.2))]) [1, 2, 3, 4, 5, 6] (by decide) rfl
    refine cb_callQv (wc := [(a0, .inr (2, [.ref aw, .ref al, .ref af, .ref ab, .ref ap, .ref ah, .int (S.1.2.1 + 2), .int S.1.2.2.1, .int S.1.2.2.2.1])), (aw, .inl (cy, 65, .inl T2_5.1)), (al, .inl (cy, 65, .inl T2_5.2.1)), (af, .inl (cy, 65, .inl T2_5.2.2.1)), (ab, .inl (cy, 65, .inl T2_5.2.2.2.1)), (ap, .inl (cy, 33, .inl T2_5.2.2.2.2))]) (wr := [(b0, .inr (1, [.ref a0, .int S.2.1, .int S.2.2.1, .int S.2.2.2])), (ah, .inr (0, [.ref gw, .ref gl, .ref gf, .int S.1.2.2.2.2.2])), (gw, .inl (cy, 65, .inl S.1.2.2.2.2.1.1)), (gl, .inl (cy, 65, .inl S.1.2.2.2.2.1.2.1)), (gf, .inl (cy, 65, .inl S.1.2.2.2.2.1.2.2))]) (wc' := [(a0, .inr (2, [.ref aw, .ref al, .ref af, .ref ab, .ref ap, .ref ah, .int (S.1.2.1 + 2), .int ((cHeavy T2_5 S.1.2.2.1 u0).2), .int S.1.2.2.2.1])), (aw, .inl (cy, 65, .inl ((cHeavy T2_5 S.1.2.2.1 u0).1.1))), (al, .inl (cy, 65, .inl ((cHeavy T2_5 S.1.2.2.1 u0).1.2.1))), (af, .inl (cy, 65, .inl ((cHeavy T2_5 S.1.2.2.1 u0).1.2.2.1))), (ab, .inl (cy, 65, .inl ((cHeavy T2_5 S.1.2.2.1 u0).1.2.2.2.1))), (ap, .inl (cy, 33, .inl ((cHeavy T2_5 S.1.2.2.1 u0).1.2.2.2.2)))]) (ws2 := [(b0, .inr (1, [.ref a0, .int S.2.1, .int S.2.2.1, .int S.2.2.2])), (a0, .inr (2, [.ref aw, .ref al, .ref af, .ref ab, .ref ap, .ref ah, .int (S.1.2.1 + 2), .int ((cHeavy T2_5 S.1.2.2.1 u0).2), .int S.1.2.2.2.1])), (aw, .inl (cy, 65, .inl ((cHeavy T2_5 S.1.2.2.1 u0).1.1))), (al, .inl (cy, 65, .inl ((cHeavy T2_5 S.1.2.2.1 u0).1.2.1))), (af, .inl (cy, 65, .inl ((cHeavy T2_5 S.1.2.2.1 u0).1.2.2.1))), (ab, .inl (cy, 65, .inl ((cHeavy T2_5 S.1.2.2.1 u0).1.2.2.2.1))), (ap, .inl (cy, 33, .inl ((cHeavy T2_5 S.1.2.2.1 u0).1.2.2.2.2))), (ah, .inr (0, [.ref gw, .ref gl, .ref gf, .int S.1.2.2.2.2.2])), (gw, .inl (cy, 65, .inl S.1.2.2.2.2.1.1)), (gl, .inl (cy, 65, .inl S.1.2.2.2.2.1.2.1)), (gf, .inl (cy, 65, .inl S.1.2.2.2.2.1.2.2))]) hP hD hS hA [1, 2, 3, 4, 5, 6] [0, 7, 8, 9, 10] [0, 5, 6, 7, 8, 9, 10, 1, 2, 3, 4] (va_runVN (As := [.int u0]) (rest := []) ⟨hx, hb, hml, hown, hts⟩ (kX2_makeHeavier l D cy _ a0 aw al af ab ap ah T2_5 (S.1.2.1 + 2) S.1.2.2.1 S.1.2.2.2.1 u0) ⟨va_cnB 1 hts gX1_takeOne_X2_makeHeavier_n41 rfl rfl rfl (hnw (.methodLinkNest RX1 41 yX2_makeHeavier RX3) (by decide +kernel)) (hts (.initialized RX2) (by decide +kernel)) (by decide +kernel) ⟨Nat.le_of_ble_eq_true rfl, Nat.le_of_ble_eq_true rfl⟩, hts (.instanceMethod yX2_makeHeavier) (by decide +kernel), hts (.selects RX2 yX2_makeHeavier yX2_makeHeavier) (by decide +kernel)⟩ (cb_Pw.pv hK hPc hDc hnw (ci := 2) (q0 := 0) rfl rfl) rfl rfl hl.1 rfl (lv_room (Nat.le_of_ble_eq_true rfl)) dX1_takeOne_30 ⟨Nat.le_of_ble_eq_true rfl, Nat.le_of_ble_eq_true rfl⟩) rfl rfl (by decide) (by decide) rfl (by decide) (fun H locs hP hD hS => ?_)
    generalize eZ_6 : cHeavy T2_5 S.1.2.2.1 u0 = Z_6 at hP hD ⊢
    refine lv_aload_n hx hb dX1_takeOne_33 rfl (lv_at hl 1 rfl) ?_
    refine lv_dup hx hb dX1_takeOne_34 rfl ?_
    refine va_get (D := D) (ci := 1) (v := .int S.2.2.1) (C := RX1) (T := TX1) (N := 4) hx hb hts hinX1 hown hK hP 0 rfl rfl 2 (by decide) (hts (.fieldLink RX1 44 "CobblerCodes$Shop" "uses" "I") (by decide +kernel)) (fun _ h9 => h9) rfl dX1_takeOne_35 ?_
    refine lv_iconst (v := 1) hx hb dX1_takeOne_38 (by decide) ?_
    refine lv_iadd hx hb dX1_takeOne_39 ?_
    refine va_put (D := D) (ci := 1) (v := .int (S.2.2.1 + 1)) (ty := .int) (C := RX1) (T := TX1) (N := 4) hx hb hts hinX1 tyX1 tyX1_ok nmX1 hown hK hP hD hS 0 rfl rfl 2 (by decide) (hts (.fieldLink RX1 44 "CobblerCodes$Shop" "uses" "I") (by decide +kernel)) (fun _ h9 => h9) rfl (by decide +kernel) rfl rfl (Nat.le_of_ble_eq_true rfl) dX1_takeOne_40 (fun H locs hP hD hS => ?_)
    have hP : va_P D vwCl [(b0, .inr (1, [.ref a0, .int S.2.1, .int (S.2.2.1 + 1), .int S.2.2.2])), (a0, .inr (2, [.ref aw, .ref al, .ref af, .ref ab, .ref ap, .ref ah, .int (S.1.2.1 + 2), .int Z_6.2, .int S.1.2.2.2.1])), (aw, .inl (cy, 65, .inl Z_6.1.1)), (al, .inl (cy, 65, .inl Z_6.1.2.1)), (af, .inl (cy, 65, .inl Z_6.1.2.2.1)), (ab, .inl (cy, 65, .inl Z_6.1.2.2.2.1)), (ap, .inl (cy, 33, .inl Z_6.1.2.2.2.2)), (ah, .inr (0, [.ref gw, .ref gl, .ref gf, .int S.1.2.2.2.2.2])), (gw, .inl (cy, 65, .inl S.1.2.2.2.2.1.1)), (gl, .inl (cy, 65, .inl S.1.2.2.2.2.1.2.1)), (gf, .inl (cy, 65, .inl S.1.2.2.2.2.1.2.2))] H := hP
    have hD : va_D A [(b0, .inr (1, [.ref a0, .int S.2.1, .int (S.2.2.1 + 1), .int S.2.2.2])), (a0, .inr (2, [.ref aw, .ref al, .ref af, .ref ab, .ref ap, .ref ah, .int (S.1.2.1 + 2), .int Z_6.2, .int S.1.2.2.2.1])), (aw, .inl (cy, 65, .inl Z_6.1.1)), (al, .inl (cy, 65, .inl Z_6.1.2.1)), (af, .inl (cy, 65, .inl Z_6.1.2.2.1)), (ab, .inl (cy, 65, .inl Z_6.1.2.2.2.1)), (ap, .inl (cy, 33, .inl Z_6.1.2.2.2.2)), (ah, .inr (0, [.ref gw, .ref gl, .ref gf, .int S.1.2.2.2.2.2])), (gw, .inl (cy, 65, .inl S.1.2.2.2.2.1.1)), (gl, .inl (cy, 65, .inl S.1.2.2.2.2.1.2.1)), (gf, .inl (cy, 65, .inl S.1.2.2.2.2.1.2.2))] := hD
    refine lv_aload_n hx hb dX1_takeOne_43 rfl (lv_at hl 1 rfl) ?_
    refine lv_dup hx hb dX1_takeOne_44 rfl ?_
    refine va_get (D := D) (ci := 1) (v := .int S.2.2.2) (C := RX1) (T := TX1) (N := 4) hx hb hts hinX1 hown hK hP 0 rfl rfl 3 (by decide) (hts (.fieldLink RX1 47 "CobblerCodes$Shop" "bits" "I") (by decide +kernel)) (fun _ h9 => h9) rfl dX1_takeOne_45 ?_
    refine lv_iload_n hx hb dX1_takeOne_48 rfl (lv_at hl 0 rfl) ?_
    refine lv_iadd hx hb dX1_takeOne_49 ?_
    refine va_put (D := D) (ci := 1) (v := .int (S.2.2.2 + (cBits S.1.1 u0))) (ty := .int) (C := RX1) (T := TX1) (N := 4) hx hb hts hinX1 tyX1 tyX1_ok nmX1 hown hK hP hD hS 0 rfl rfl 3 (by decide) (hts (.fieldLink RX1 47 "CobblerCodes$Shop" "bits" "I") (by decide +kernel)) (fun _ h9 => h9) rfl (by decide +kernel) rfl rfl (Nat.le_of_ble_eq_true rfl) dX1_takeOne_50 (fun H locs hP hD hS => ?_)
    have hP : va_P D vwCl [(b0, .inr (1, [.ref a0, .int S.2.1, .int (S.2.2.1 + 1), .int (S.2.2.2 + (cBits S.1.1 u0))])), (a0, .inr (2, [.ref aw, .ref al, .ref af, .ref ab, .ref ap, .ref ah, .int (S.1.2.1 + 2), .int Z_6.2, .int S.1.2.2.2.1])), (aw, .inl (cy, 65, .inl Z_6.1.1)), (al, .inl (cy, 65, .inl Z_6.1.2.1)), (af, .inl (cy, 65, .inl Z_6.1.2.2.1)), (ab, .inl (cy, 65, .inl Z_6.1.2.2.2.1)), (ap, .inl (cy, 33, .inl Z_6.1.2.2.2.2)), (ah, .inr (0, [.ref gw, .ref gl, .ref gf, .int S.1.2.2.2.2.2])), (gw, .inl (cy, 65, .inl S.1.2.2.2.2.1.1)), (gl, .inl (cy, 65, .inl S.1.2.2.2.2.1.2.1)), (gf, .inl (cy, 65, .inl S.1.2.2.2.2.1.2.2))] H := hP
    have hD : va_D A [(b0, .inr (1, [.ref a0, .int S.2.1, .int (S.2.2.1 + 1), .int (S.2.2.2 + (cBits S.1.1 u0))])), (a0, .inr (2, [.ref aw, .ref al, .ref af, .ref ab, .ref ap, .ref ah, .int (S.1.2.1 + 2), .int Z_6.2, .int S.1.2.2.2.1])), (aw, .inl (cy, 65, .inl Z_6.1.1)), (al, .inl (cy, 65, .inl Z_6.1.2.1)), (af, .inl (cy, 65, .inl Z_6.1.2.2.1)), (ab, .inl (cy, 65, .inl Z_6.1.2.2.2.1)), (ap, .inl (cy, 33, .inl Z_6.1.2.2.2.2)), (ah, .inr (0, [.ref gw, .ref gl, .ref gf, .int S.1.2.2.2.2.2])), (gw, .inl (cy, 65, .inl S.1.2.2.2.2.1.1)), (gl, .inl (cy, 65, .inl S.1.2.2.2.2.1.2.1)), (gf, .inl (cy, 65, .inl S.1.2.2.2.2.1.2.2))] := hD
    refine lv_aload_n hx hb dX1_takeOne_53 rfl (lv_at hl 1 rfl) ?_
    refine va_get (D := D) (ci := 1) (v := .ref a0) (C := RX1) (T := TX1) (N := 4) hx hb hts hinX1 hown hK hP 0 rfl rfl 0 (by decide) (hts (.fieldLink RX1 12 "CobblerCodes$Shop" "tree" "LCobblerCodes$Tree;") (by decide +kernel)) (fun _ h9 => h9) rfl dX1_takeOne_54 ?_
    have hPc := hP.sub (ws' := [(a0, .inr (2, [.ref aw, .ref al, .ref af, .ref ab, .ref ap, .ref ah, .int (S.1.2.1 + 2), .int Z_6.2, .int S.1.2.2.2.1])), (aw, .inl (cy, 65, .inl Z_6.1.1)), (al, .inl (cy, 65, .inl Z_6.1.2.1)), (af, .inl (cy, 65, .inl Z_6.1.2.2.1)), (ab, .inl (cy, 65, .inl Z_6.1.2.2.2.1)), (ap, .inl (cy, 33, .inl Z_6.1.2.2.2.2))]) [1, 2, 3, 4, 5, 6] rfl
    refine cb_callSi (r0 := (atN 65 Z_6.1.1 0)) (va_runVN (As := []) (rest := []) ⟨hx, hb, hml, hown, hts⟩ (kX2_weightOfRoot l D cy a0 aw al af ab ap ah Z_6.1 (S.1.2.1 + 2) Z_6.2 S.1.2.2.2.1) ⟨va_cnB 0 hts gX1_takeOne_X2_weightOfRoot_n50 rfl rfl rfl (hnw (.methodLinkNest RX1 50 yX2_weightOfRoot RX3) (by decide +kernel)) (hts (.initialized RX2) (by decide +kernel)) (by decide +kernel) ⟨Nat.le_of_ble_eq_true rfl, Nat.le_of_ble_eq_true rfl⟩, hts (.instanceMethod yX2_weightOfRoot) (by decide +kernel), hts (.selects RX2 yX2_weightOfRoot yX2_weightOfRoot) (by decide +kernel)⟩ (cb_Pp.pv hK hPc hnw (ci := 2) (q0 := 0) rfl rfl) rfl rfl hl.1 rfl (lv_room (Nat.le_of_ble_eq_true rfl)) dX1_takeOne_57 ⟨Nat.le_of_ble_eq_true rfl, Nat.le_of_ble_eq_true rfl⟩) ?_
    refine lv_aload_n hx hb dX1_takeOne_60 rfl (lv_at hl 1 rfl) ?_
    refine va_get (D := D) (ci := 1) (v := .int S.2.1) (C := RX1) (T := TX1) (N := 4) hx hb hts hinX1 hown hK hP 0 rfl rfl 1 (by decide) (hts (.fieldLink RX1 18 "CobblerCodes$Shop" "limit" "I") (by decide +kernel)) (fun _ h9 => h9) rfl dX1_takeOne_61 ?_
    refine lv_icmp_lt (tgt := 75) hx hb dX1_takeOne_64 (by decide) (fun c_7 => ?_) (fun c_7 => ?_)
    · refine lv_iload_n hx hb dX1_takeOne_75 rfl (lv_at hl 0 rfl) ?_
      exact cb_endQi (v := cBits S.1.1 u0) hx hb hr hlocks hP hD hK hS rfl (by subst eZ_6; subst eT2_5; simp only [cTakeOne, cTake3, cTake2, cTake1, if_pos c_1, if_pos c_7]; try rfl) (by omega) (by omega) dX1_takeOne_76
    · refine lv_aload_n hx hb dX1_takeOne_67 rfl (lv_at hl 1 rfl) ?_
      refine va_get (D := D) (ci := 1) (v := .ref a0) (C := RX1) (T := TX1) (N := 4) hx hb hts hinX1 hown hK hP 0 rfl rfl 0 (by decide) (hts (.fieldLink RX1 12 "CobblerCodes$Shop" "tree" "LCobblerCodes$Tree;") (by decide +kernel)) (fun _ h9 => h9) rfl dX1_takeOne_68 ?_
      have hPc := hP.sub (ws' := [(a0, .inr (2, [.ref aw, .ref al, .ref af, .ref ab, .ref ap, .ref ah, .int (S.1.2.1 + 2), .int Z_6.2, .int S.1.2.2.2.1])), (aw, .inl (cy, 65, .inl Z_6.1.1)), (al, .inl (cy, 65, .inl Z_6.1.2.1)), (af, .inl (cy, 65, .inl Z_6.1.2.2.1)), (ab, .inl (cy, 65, .inl Z_6.1.2.2.2.1)), (ap, .inl (cy, 33, .inl Z_6.1.2.2.2.2)), (ah, .inr (0, [.ref gw, .ref gl, .ref gf, .int S.1.2.2.2.2.2])), (gw, .inl (cy, 65, .inl S.1.2.2.2.2.1.1)), (gl, .inl (cy, 65, .inl S.1.2.2.2.2.1.2.1)), (gf, .inl (cy, 65, .inl S.1.2.2.2.2.1.2.2))]) [1, 2, 3, 4, 5, 6, 7, 8, 9, 10] rfl
      have hDc := hD.sub (ws' := [(a0, .inr (2, [.ref aw, .ref al, .ref af, .ref ab, .ref ap, .ref ah, .int (S.1.2.1 + 2), .int Z_6.2, .int S.1.2.2.2.1])), (aw, .inl (cy, 65, .inl Z_6.1.1)), (al, .inl (cy, 65, .inl Z_6.1.2.1)), (af, .inl (cy, 65, .inl Z_6.1.2.2.1)), (ab, .inl (cy, 65, .inl Z_6.1.2.2.2.1)), (ap, .inl (cy, 33, .inl Z_6.1.2.2.2.2)), (ah, .inr (0, [.ref gw, .ref gl, .ref gf, .int S.1.2.2.2.2.2])), (gw, .inl (cy, 65, .inl S.1.2.2.2.2.1.1)), (gl, .inl (cy, 65, .inl S.1.2.2.2.2.1.2.1)), (gf, .inl (cy, 65, .inl S.1.2.2.2.2.1.2.2))]) [1, 2, 3, 4, 5, 6, 7, 8, 9, 10] (by decide) rfl
      refine cb_callQi (wc := [(a0, .inr (2, [.ref aw, .ref al, .ref af, .ref ab, .ref ap, .ref ah, .int (S.1.2.1 + 2), .int Z_6.2, .int S.1.2.2.2.1])), (aw, .inl (cy, 65, .inl Z_6.1.1)), (al, .inl (cy, 65, .inl Z_6.1.2.1)), (af, .inl (cy, 65, .inl Z_6.1.2.2.1)), (ab, .inl (cy, 65, .inl Z_6.1.2.2.2.1)), (ap, .inl (cy, 33, .inl Z_6.1.2.2.2.2)), (ah, .inr (0, [.ref gw, .ref gl, .ref gf, .int S.1.2.2.2.2.2])), (gw, .inl (cy, 65, .inl S.1.2.2.2.2.1.1)), (gl, .inl (cy, 65, .inl S.1.2.2.2.2.1.2.1)), (gf, .inl (cy, 65, .inl S.1.2.2.2.2.1.2.2))]) (wr := [(b0, .inr (1, [.ref a0, .int S.2.1, .int (S.2.2.1 + 1), .int (S.2.2.2 + (cBits S.1.1 u0))]))]) (wc' := [(a0, .inr (2, [.ref aw, .ref al, .ref af, .ref ab, .ref ap, .ref ah, .int ((cWear (Z_6.1, (S.1.2.1 + 2), Z_6.2, S.1.2.2.2)).1.2.1), .int ((cWear (Z_6.1, (S.1.2.1 + 2), Z_6.2, S.1.2.2.2)).1.2.2.1), .int ((cWear (Z_6.1, (S.1.2.1 + 2), Z_6.2, S.1.2.2.2)).1.2.2.2.1)])), (aw, .inl (cy, 65, .inl ((cWear (Z_6.1, (S.1.2.1 + 2), Z_6.2, S.1.2.2.2)).1.1.1))), (al, .inl (cy, 65, .inl ((cWear (Z_6.1, (S.1.2.1 + 2), Z_6.2, S.1.2.2.2)).1.1.2.1))), (af, .inl (cy, 65, .inl ((cWear (Z_6.1, (S.1.2.1 + 2), Z_6.2, S.1.2.2.2)).1.1.2.2.1))), (ab, .inl (cy, 65, .inl ((cWear (Z_6.1, (S.1.2.1 + 2), Z_6.2, S.1.2.2.2)).1.1.2.2.2.1))), (ap, .inl (cy, 33, .inl ((cWear (Z_6.1, (S.1.2.1 + 2), Z_6.2, S.1.2.2.2)).1.1.2.2.2.2))), (ah, .inr (0, [.ref gw, .ref gl, .ref gf, .int ((cWear (Z_6.1, (S.1.2.1 + 2), Z_6.2, S.1.2.2.2)).1.2.2.2.2.2)])), (gw, .inl (cy, 65, .inl ((cWear (Z_6.1, (S.1.2.1 + 2), Z_6.2, S.1.2.2.2)).1.2.2.2.2.1.1))), (gl, .inl (cy, 65, .inl ((cWear (Z_6.1, (S.1.2.1 + 2), Z_6.2, S.1.2.2.2)).1.2.2.2.2.1.2.1))), (gf, .inl (cy, 65, .inl ((cWear (Z_6.1, (S.1.2.1 + 2), Z_6.2, S.1.2.2.2)).1.2.2.2.2.1.2.2)))]) (ws2 := [(b0, .inr (1, [.ref a0, .int S.2.1, .int (S.2.2.1 + 1), .int (S.2.2.2 + (cBits S.1.1 u0))])), (a0, .inr (2, [.ref aw, .ref al, .ref af, .ref ab, .ref ap, .ref ah, .int ((cWear (Z_6.1, (S.1.2.1 + 2), Z_6.2, S.1.2.2.2)).1.2.1), .int ((cWear (Z_6.1, (S.1.2.1 + 2), Z_6.2, S.1.2.2.2)).1.2.2.1), .int ((cWear (Z_6.1, (S.1.2.1 + 2), Z_6.2, S.1.2.2.2)).1.2.2.2.1)])), (aw, .inl (cy, 65, .inl ((cWear (Z_6.1, (S.1.2.1 + 2), Z_6.2, S.1.2.2.2)).1.1.1))), (al, .inl (cy, 65, .inl ((cWear (Z_6.1, (S.1.2.1 + 2), Z_6.2, S.1.2.2.2)).1.1.2.1))), (af, .inl (cy, 65, .inl ((cWear (Z_6.1, (S.1.2.1 + 2), Z_6.2, S.1.2.2.2)).1.1.2.2.1))), (ab, .inl (cy, 65, .inl ((cWear (Z_6.1, (S.1.2.1 + 2), Z_6.2, S.1.2.2.2)).1.1.2.2.2.1))), (ap, .inl (cy, 33, .inl ((cWear (Z_6.1, (S.1.2.1 + 2), Z_6.2, S.1.2.2.2)).1.1.2.2.2.2))), (ah, .inr (0, [.ref gw, .ref gl, .ref gf, .int ((cWear (Z_6.1, (S.1.2.1 + 2), Z_6.2, S.1.2.2.2)).1.2.2.2.2.2)])), (gw, .inl (cy, 65, .inl ((cWear (Z_6.1, (S.1.2.1 + 2), Z_6.2, S.1.2.2.2)).1.2.2.2.2.1.1))), (gl, .inl (cy, 65, .inl ((cWear (Z_6.1, (S.1.2.1 + 2), Z_6.2, S.1.2.2.2)).1.2.2.2.2.1.2.1))), (gf, .inl (cy, 65, .inl ((cWear (Z_6.1, (S.1.2.1 + 2), Z_6.2, S.1.2.2.2)).1.2.2.2.2.1.2.2)))]) hP hD hS hA [1, 2, 3, 4, 5, 6, 7, 8, 9, 10] [0] [0, 1, 2, 3, 4, 5, 6, 7, 8, 9, 10] (va_runVN (As := []) (rest := []) ⟨hx, hb, hml, hown, hts⟩ (kX2_wearDown l D cy _ a0 aw al af ab ap ah gw gl gf (Z_6.1, (S.1.2.1 + 2), Z_6.2, S.1.2.2.2)) ⟨va_cnB 0 hts gX1_takeOne_X2_wearDown_n54 rfl rfl rfl (hnw (.methodLinkNest RX1 54 yX2_wearDown RX3) (by decide +kernel)) (hts (.initialized RX2) (by decide +kernel)) (by decide +kernel) ⟨Nat.le_of_ble_eq_true rfl, Nat.le_of_ble_eq_true rfl⟩, hts (.instanceMethod yX2_wearDown) (by decide +kernel), hts (.selects RX2 yX2_wearDown yX2_wearDown) (by decide +kernel)⟩ (cb_Pw.pv hK hPc hDc hnw (ci := 2) (q0 := 0) rfl rfl) rfl rfl hl.1 rfl (lv_room (Nat.le_of_ble_eq_true rfl)) dX1_takeOne_71 ⟨Nat.le_of_ble_eq_true rfl, Nat.le_of_ble_eq_true rfl⟩) rfl rfl (by decide) (by decide) rfl (by decide) (fun H locs hP hD hS => ?_)
      generalize eZ_8 : cWear (Z_6.1, (S.1.2.1 + 2), Z_6.2, S.1.2.2.2) = Z_8 at hP hD ⊢
      refine lv_pop hx hb dX1_takeOne_74 rfl ?_
      refine lv_iload_n hx hb dX1_takeOne_75 rfl (lv_at hl 0 rfl) ?_
      exact cb_endQi (v := cBits S.1.1 u0) hx hb hr hlocks hP hD hK hS rfl (by subst eZ_8; subst eZ_6; subst eT2_5; simp only [cTakeOne, cTake3, cTake2, cTake1, if_pos c_1, if_neg c_7]; try rfl) (by omega) (by omega) dX1_takeOne_76

set_option maxHeartbeats 4000000 in
set_option maxRecDepth 100000 in
theorem kX1_takeRow (l : Launch) (D : va_G) (cy : ClassId) (sz : Nat) (b0 a0 aw al af ab ap ah gw gl gf : Nat) (S : SS) (u0 u1 u2 : Int32) : Met l yX1_takeRow wsX1_takeRow ({ frames := 5, cells := 0, slots := 0, locals := 117 }) (cb_Pw D (cb_tys cy) [(b0, .inr (1, [.ref a0, .int S.2.1, .int S.2.2.1, .int S.2.2.2])), (a0, .inr (2, [.ref aw, .ref al, .ref af, .ref ab, .ref ap, .ref ah, .int S.1.2.1, .int S.1.2.2.1, .int S.1.2.2.2.1])), (aw, .inl (cy, 65, .inl S.1.1.1)), (al, .inl (cy, 65, .inl S.1.1.2.1)), (af, .inl (cy, 65, .inl S.1.1.2.2.1)), (ab, .inl (cy, 65, .inl S.1.1.2.2.2.1)), (ap, .inl (cy, 33, .inl S.1.1.2.2.2.2)), (ah, .inr (0, [.ref gw, .ref gl, .ref gf, .int S.1.2.2.2.2.2])), (gw, .inl (cy, 65, .inl S.1.2.2.2.2.1.1)), (gl, .inl (cy, 65, .inl S.1.2.2.2.2.1.2.1)), (gf, .inl (cy, 65, .inl S.1.2.2.2.2.1.2.2))] sz [.ref b0, .int u0, .int u1, .int u2]) (cb_Qi D (cb_tys cy) (va_A [(b0, .inr (1, [.ref a0, .int S.2.1, .int S.2.2.1, .int S.2.2.2])), (a0, .inr (2, [.ref aw, .ref al, .ref af, .ref ab, .ref ap, .ref ah, .int S.1.2.1, .int S.1.2.2.1, .int S.1.2.2.2.1])), (aw, .inl (cy, 65, .inl S.1.1.1)), (al, .inl (cy, 65, .inl S.1.1.2.1)), (af, .inl (cy, 65, .inl S.1.1.2.2.1)), (ab, .inl (cy, 65, .inl S.1.1.2.2.2.1)), (ap, .inl (cy, 33, .inl S.1.1.2.2.2.2)), (ah, .inr (0, [.ref gw, .ref gl, .ref gf, .int S.1.2.2.2.2.2])), (gw, .inl (cy, 65, .inl S.1.2.2.2.2.1.1)), (gl, .inl (cy, 65, .inl S.1.2.2.2.2.1.2.1)), (gf, .inl (cy, 65, .inl S.1.2.2.2.2.1.2.2))] sz) [(b0, .inr (1, [.ref a0, .int (cTakeRow S u0 u1 u2).1.2.1, .int (cTakeRow S u0 u1 u2).1.2.2.1, .int (cTakeRow S u0 u1 u2).1.2.2.2])), (a0, .inr (2, [.ref aw, .ref al, .ref af, .ref ab, .ref ap, .ref ah, .int (cTakeRow S u0 u1 u2).1.1.2.1, .int (cTakeRow S u0 u1 u2).1.1.2.2.1, .int (cTakeRow S u0 u1 u2).1.1.2.2.2.1])), (aw, .inl (cy, 65, .inl (cTakeRow S u0 u1 u2).1.1.1.1)), (al, .inl (cy, 65, .inl (cTakeRow S u0 u1 u2).1.1.1.2.1)), (af, .inl (cy, 65, .inl (cTakeRow S u0 u1 u2).1.1.1.2.2.1)), (ab, .inl (cy, 65, .inl (cTakeRow S u0 u1 u2).1.1.1.2.2.2.1)), (ap, .inl (cy, 33, .inl (cTakeRow S u0 u1 u2).1.1.1.2.2.2.2)), (ah, .inr (0, [.ref gw, .ref gl, .ref gf, .int (cTakeRow S u0 u1 u2).1.1.2.2.2.2.2])), (gw, .inl (cy, 65, .inl (cTakeRow S u0 u1 u2).1.1.2.2.2.2.1.1)), (gl, .inl (cy, 65, .inl (cTakeRow S u0 u1 u2).1.1.2.2.2.2.1.2.1)), (gf, .inl (cy, 65, .inl (cTakeRow S u0 u1 u2).1.1.2.2.2.2.1.2.2))] ((cTakeRow S u0 u1 u2).2)) 0 0 (va_A [(b0, .inr (1, [.ref a0, .int S.2.1, .int S.2.2.1, .int S.2.2.2])), (a0, .inr (2, [.ref aw, .ref al, .ref af, .ref ab, .ref ap, .ref ah, .int S.1.2.1, .int S.1.2.2.1, .int S.1.2.2.2.1])), (aw, .inl (cy, 65, .inl S.1.1.1)), (al, .inl (cy, 65, .inl S.1.1.2.1)), (af, .inl (cy, 65, .inl S.1.1.2.2.1)), (ab, .inl (cy, 65, .inl S.1.1.2.2.2.1)), (ap, .inl (cy, 33, .inl S.1.1.2.2.2.2)), (ah, .inr (0, [.ref gw, .ref gl, .ref gf, .int S.1.2.2.2.2.2])), (gw, .inl (cy, 65, .inl S.1.2.2.2.2.1.1)), (gl, .inl (cy, 65, .inl S.1.2.2.2.2.1.2.1)), (gf, .inl (cy, 65, .inl S.1.2.2.2.2.1.2.2))] sz) := by
  refine Met.ofW (cc := cX1_takeRow) (maxL := 6) (ret := (some .int)) (by decide) rfl ?_
  intro p e s m args below meth c s₁ B hml hv
  obtain ⟨rfl, hsz, hP, hK, hD0, hnw⟩ := hv
  have hx := B.exec
  have hb := B.bytes
  have hr := B.returns
  have hts := atoms_spec (ws := wsX1_takeRow) B.pre
  have hown : s.vm.findClass RX1 = some m.cls := findClass_of_methodNamed B.named
  have hlocks := B.notSynchronized
  subst hsz
  have hD := hD0.self (sz := s.heap.size)
  generalize hAe : va_A [(b0, .inr (1, [.ref a0, .int S.2.1, .int S.2.2.1, .int S.2.2.2])), (a0, .inr (2, [.ref aw, .ref al, .ref af, .ref ab, .ref ap, .ref ah, .int S.1.2.1, .int S.1.2.2.1, .int S.1.2.2.2.1])), (aw, .inl (cy, 65, .inl S.1.1.1)), (al, .inl (cy, 65, .inl S.1.1.2.1)), (af, .inl (cy, 65, .inl S.1.1.2.2.1)), (ab, .inl (cy, 65, .inl S.1.1.2.2.2.1)), (ap, .inl (cy, 33, .inl S.1.1.2.2.2.2)), (ah, .inr (0, [.ref gw, .ref gl, .ref gf, .int S.1.2.2.2.2.2])), (gw, .inl (cy, 65, .inl S.1.2.2.2.2.1.1)), (gl, .inl (cy, 65, .inl S.1.2.2.2.2.1.2.1)), (gf, .inl (cy, 65, .inl S.1.2.2.2.2.1.2.2))] s.heap.size = A at hD ⊢
  have hA : ∀ q : Nat, s.heap.size ≤ q → A q := fun q h => by rw [← hAe]; exact Or.inr h
  clear hAe
  have hS : va_S A s.heap s.heap [] := va_S.rf
  have hl := lv_entry ([.ref b0, .int u0, .int u1, .int u2]) (n := 6) (Nat.le_of_ble_eq_true rfl)
  rw [lg_entry_eq]
  generalize (lg_sl ([.ref b0, .int u0, .int u1, .int u2]) ++ List.replicate (6 - (lg_sl ([.ref b0, .int u0, .int u1, .int u2])).length) Slot.unset).toArray = ls at hl ⊢
  have hl : lv_has ls 6 [(0, .ref b0), (1, .int u0), (2, .int u1), (3, .int u2)] := hl
  refine lv_iconst (v := 0) hx hb dX1_takeRow_0 (by decide) ?_
  refine lv_istore (lv' := [(4, .int 0), (0, .ref b0), (1, .int u0), (2, .int u1), (3, .int u2)]) hx hb dX1_takeRow_1 hl (by decide) rfl (fun ls hl => ?_)
  refine lv_iconst (v := 0) hx hb dX1_takeRow_3 (by decide) ?_
  refine lv_istore (lv' := [(5, .int 0), (4, .int 0), (0, .ref b0), (1, .int u0), (2, .int u1), (3, .int u2)]) hx hb dX1_takeRow_4 hl (by decide) rfl (fun ls hl => ?_)
  have L6 : ∀ (k : Nat) (i : Nat) (S1 : SS) (x4 x5 : Int32), x5 = nI i → i + k = u2.toNatClampNeg → cTakeRowL u0 u1 k S1 x4 x5 = cTakeRow S u0 u1 u2 → ∀ (H : Heap) (locs : List Loc), va_P D vwCl [(b0, .inr (1, [.ref a0, .int S1.2.1, .int S1.2.2.1, .int S1.2.2.2])), (a0, .inr (2, [.ref aw, .ref al, .ref af, .ref ab, .ref ap, .ref ah, .int S1.1.2.1, .int S1.1.2.2.1, .int S1.1.2.2.2.1])), (aw, .inl (cy, 65, .inl S1.1.1.1)), (al, .inl (cy, 65, .inl S1.1.1.2.1)), (af, .inl (cy, 65, .inl S1.1.1.2.2.1)), (ab, .inl (cy, 65, .inl S1.1.1.2.2.2.1)), (ap, .inl (cy, 33, .inl S1.1.1.2.2.2.2)), (ah, .inr (0, [.ref gw, .ref gl, .ref gf, .int S1.1.2.2.2.2.2])), (gw, .inl (cy, 65, .inl S1.1.2.2.2.2.1.1)), (gl, .inl (cy, 65, .inl S1.1.2.2.2.2.1.2.1)), (gf, .inl (cy, 65, .inl S1.1.2.2.2.2.1.2.2))] H → va_D A [(b0, .inr (1, [.ref a0, .int S1.2.1, .int S1.2.2.1, .int S1.2.2.2])), (a0, .inr (2, [.ref aw, .ref al, .ref af, .ref ab, .ref ap, .ref ah, .int S1.1.2.1, .int S1.1.2.2.1, .int S1.1.2.2.2.1])), (aw, .inl (cy, 65, .inl S1.1.1.1)), (al, .inl (cy, 65, .inl S1.1.1.2.1)), (af, .inl (cy, 65, .inl S1.1.1.2.2.1)), (ab, .inl (cy, 65, .inl S1.1.1.2.2.2.1)), (ap, .inl (cy, 33, .inl S1.1.1.2.2.2.2)), (ah, .inr (0, [.ref gw, .ref gl, .ref gf, .int S1.1.2.2.2.2.2])), (gw, .inl (cy, 65, .inl S1.1.2.2.2.2.1.1)), (gl, .inl (cy, 65, .inl S1.1.2.2.2.2.1.2.1)), (gf, .inl (cy, 65, .inl S1.1.2.2.2.2.1.2.2))] → va_S A s.heap H locs → ∀ (ls : Array Slot), lv_has ls 6 [(0, .ref b0), (1, .int u0), (2, .int u1), (3, .int u2), (4, .int x4), (5, .int x5)] → W p l e ({ frames := 5, cells := 0, slots := 0, locals := 117 } : Room) s m [.ref b0, .int u0, .int u1, .int u2].toArray below meth c H locs 0 0 (MQ below (cb_Qi D (cb_tys cy) A [(b0, .inr (1, [.ref a0, .int (cTakeRow S u0 u1 u2).1.2.1, .int (cTakeRow S u0 u1 u2).1.2.2.1, .int (cTakeRow S u0 u1 u2).1.2.2.2])), (a0, .inr (2, [.ref aw, .ref al, .ref af, .ref ab, .ref ap, .ref ah, .int (cTakeRow S u0 u1 u2).1.1.2.1, .int (cTakeRow S u0 u1 u2).1.1.2.2.1, .int (cTakeRow S u0 u1 u2).1.1.2.2.2.1])), (aw, .inl (cy, 65, .inl (cTakeRow S u0 u1 u2).1.1.1.1)), (al, .inl (cy, 65, .inl (cTakeRow S u0 u1 u2).1.1.1.2.1)), (af, .inl (cy, 65, .inl (cTakeRow S u0 u1 u2).1.1.1.2.2.1)), (ab, .inl (cy, 65, .inl (cTakeRow S u0 u1 u2).1.1.1.2.2.2.1)), (ap, .inl (cy, 33, .inl (cTakeRow S u0 u1 u2).1.1.1.2.2.2.2)), (ah, .inr (0, [.ref gw, .ref gl, .ref gf, .int (cTakeRow S u0 u1 u2).1.1.2.2.2.2.2])), (gw, .inl (cy, 65, .inl (cTakeRow S u0 u1 u2).1.1.2.2.2.2.1.1)), (gl, .inl (cy, 65, .inl (cTakeRow S u0 u1 u2).1.1.2.2.2.2.1.2.1)), (gf, .inl (cy, 65, .inl (cTakeRow S u0 u1 u2).1.1.2.2.2.2.1.2.2))] ((cTakeRow S u0 u1 u2).2)) [.ref b0, .int u0, .int u1, .int u2].toArray s 0 0 A) (F0 m 6 ls []) := by
    clear hP hD hS hl
    intro k
    induction k with
    | zero =>
      intro i S1 x4 x5 e5 hi hT H locs hP hD hS ls hl
      refine lv_iload hx hb dX1_takeRow_6 (lv_at hl 5 rfl) ?_
      refine lv_iload_n hx hb dX1_takeRow_8 rfl (lv_at hl 3 rfl) ?_
      refine lv_icmp_ge (tgt := 36) hx hb dX1_takeRow_9 (by decide) (fun c_1 => ?_) (fun c9 => absurd (by rw [e5]; exact cb_lo hi) c9)
      refine lv_iload hx hb dX1_takeRow_36 (lv_at hl 4 rfl) ?_
      exact cb_endQi (v := x4) hx hb hr hlocks hP hD hK hS (by rw [← hT]; rfl) (by rw [← hT]; rfl) (by omega) (by omega) dX1_takeRow_38
    | succ k ih =>
      intro i S1 x4 x5 e5 hi hT H locs hP hD hS ls hl
      refine lv_iload hx hb dX1_takeRow_6 (lv_at hl 5 rfl) ?_
      refine lv_iload_n hx hb dX1_takeRow_8 rfl (lv_at hl 3 rfl) ?_
      refine lv_icmp_ge (tgt := 36) hx hb dX1_takeRow_9 (by decide) (fun c9 => absurd c9 (by rw [e5]; exact cb_hi hi)) (fun c_2 => ?_)
      refine lv_iload hx hb dX1_takeRow_12 (lv_at hl 4 rfl) ?_
      refine lv_aload_n hx hb dX1_takeRow_14 rfl (lv_at hl 0 rfl) ?_
      refine lv_iload_n hx hb dX1_takeRow_15 rfl (lv_at hl 1 rfl) ?_
      refine lv_iload hx hb dX1_takeRow_16 (lv_at hl 5 rfl) ?_
      refine lv_iload_n hx hb dX1_takeRow_18 rfl (lv_at hl 2 rfl) ?_
      refine lv_imul hx hb dX1_takeRow_19 ?_
      refine lv_iadd hx hb dX1_takeRow_20 ?_
      refine lv_bipush (v := 32) hx hb dX1_takeRow_21 (by decide) ?_
      refine lv_irem hx hb dX1_takeRow_23 (by decide) ?_
      have hPc := hP.sub (ws' := [(b0, .inr (1, [.ref a0, .int S1.2.1, .int S1.2.2.1, .int S1.2.2.2])), (a0, .inr (2, [.ref aw, .ref al, .ref af, .ref ab, .ref ap, .ref ah, .int S1.1.2.1, .int S1.1.2.2.1, .int S1.1.2.2.2.1])), (aw, .inl (cy, 65, .inl S1.1.1.1)), (al, .inl (cy, 65, .inl S1.1.1.2.1)), (af, .inl (cy, 65, .inl S1.1.1.2.2.1)), (ab, .inl (cy, 65, .inl S1.1.1.2.2.2.1)), (ap, .inl (cy, 33, .inl S1.1.1.2.2.2.2)), (ah, .inr (0, [.ref gw, .ref gl, .ref gf, .int S1.1.2.2.2.2.2])), (gw, .inl (cy, 65, .inl S1.1.2.2.2.2.1.1)), (gl, .inl (cy, 65, .inl S1.1.2.2.2.2.1.2.1)), (gf, .inl (cy, 65, .inl S1.1.2.2.2.2.1.2.2))]) [0, 1, 2, 3, 4, 5, 6, 7, 8, 9, 10] rfl
      have hDc := hD.sub (ws' := [(b0, .inr (1, [.ref a0, .int S1.2.1, .int S1.2.2.1, .int S1.2.2.2])), (a0, .inr (2, [.ref aw, .ref al, .ref af, .ref ab, .ref ap, .ref ah, .int S1.1.2.1, .int S1.1.2.2.1, .int S1.1.2.2.2.1])), (aw, .inl (cy, 65, .inl S1.1.1.1)), (al, .inl (cy, 65, .inl S1.1.1.2.1)), (af, .inl (cy, 65, .inl S1.1.1.2.2.1)), (ab, .inl (cy, 65, .inl S1.1.1.2.2.2.1)), (ap, .inl (cy, 33, .inl S1.1.1.2.2.2.2)), (ah, .inr (0, [.ref gw, .ref gl, .ref gf, .int S1.1.2.2.2.2.2])), (gw, .inl (cy, 65, .inl S1.1.2.2.2.2.1.1)), (gl, .inl (cy, 65, .inl S1.1.2.2.2.2.1.2.1)), (gf, .inl (cy, 65, .inl S1.1.2.2.2.2.1.2.2))]) [0, 1, 2, 3, 4, 5, 6, 7, 8, 9, 10] (by decide) rfl
      refine cb_callQi (wc := [(b0, .inr (1, [.ref a0, .int S1.2.1, .int S1.2.2.1, .int S1.2.2.2])), (a0, .inr (2, [.ref aw, .ref al, .ref af, .ref ab, .ref ap, .ref ah, .int S1.1.2.1, .int S1.1.2.2.1, .int S1.1.2.2.2.1])), (aw, .inl (cy, 65, .inl S1.1.1.1)), (al, .inl (cy, 65, .inl S1.1.1.2.1)), (af, .inl (cy, 65, .inl S1.1.1.2.2.1)), (ab, .inl (cy, 65, .inl S1.1.1.2.2.2.1)), (ap, .inl (cy, 33, .inl S1.1.1.2.2.2.2)), (ah, .inr (0, [.ref gw, .ref gl, .ref gf, .int S1.1.2.2.2.2.2])), (gw, .inl (cy, 65, .inl S1.1.2.2.2.2.1.1)), (gl, .inl (cy, 65, .inl S1.1.2.2.2.2.1.2.1)), (gf, .inl (cy, 65, .inl S1.1.2.2.2.2.1.2.2))]) (wr := []) (wc' := [(b0, .inr (1, [.ref a0, .int ((cTakeOne S1 ((u0 + (x5 * u1)) - (u0 + (x5 * u1)) / 32 * 32)).1.2.1), .int ((cTakeOne S1 ((u0 + (x5 * u1)) - (u0 + (x5 * u1)) / 32 * 32)).1.2.2.1), .int ((cTakeOne S1 ((u0 + (x5 * u1)) - (u0 + (x5 * u1)) / 32 * 32)).1.2.2.2)])), (a0, .inr (2, [.ref aw, .ref al, .ref af, .ref ab, .ref ap, .ref ah, .int ((cTakeOne S1 ((u0 + (x5 * u1)) - (u0 + (x5 * u1)) / 32 * 32)).1.1.2.1), .int ((cTakeOne S1 ((u0 + (x5 * u1)) - (u0 + (x5 * u1)) / 32 * 32)).1.1.2.2.1), .int ((cTakeOne S1 ((u0 + (x5 * u1)) - (u0 + (x5 * u1)) / 32 * 32)).1.1.2.2.2.1)])), (aw, .inl (cy, 65, .inl ((cTakeOne S1 ((u0 + (x5 * u1)) - (u0 + (x5 * u1)) / 32 * 32)).1.1.1.1))), (al, .inl (cy, 65, .inl ((cTakeOne S1 ((u0 + (x5 * u1)) - (u0 + (x5 * u1)) / 32 * 32)).1.1.1.2.1))), (af, .inl (cy, 65, .inl ((cTakeOne S1 ((u0 + (x5 * u1)) - (u0 + (x5 * u1)) / 32 * 32)).1.1.1.2.2.1))), (ab, .inl (cy, 65, .inl ((cTakeOne S1 ((u0 + (x5 * u1)) - (u0 + (x5 * u1)) / 32 * 32)).1.1.1.2.2.2.1))), (ap, .inl (cy, 33, .inl ((cTakeOne S1 ((u0 + (x5 * u1)) - (u0 + (x5 * u1)) / 32 * 32)).1.1.1.2.2.2.2))), (ah, .inr (0, [.ref gw, .ref gl, .ref gf, .int ((cTakeOne S1 ((u0 + (x5 * u1)) - (u0 + (x5 * u1)) / 32 * 32)).1.1.2.2.2.2.2)])), (gw, .inl (cy, 65, .inl ((cTakeOne S1 ((u0 + (x5 * u1)) - (u0 + (x5 * u1)) / 32 * 32)).1.1.2.2.2.2.1.1))), (gl, .inl (cy, 65, .inl ((cTakeOne S1 ((u0 + (x5 * u1)) - (u0 + (x5 * u1)) / 32 * 32)).1.1.2.2.2.2.1.2.1))), (gf, .inl (cy, 65, .inl ((cTakeOne S1 ((u0 + (x5 * u1)) - (u0 + (x5 * u1)) / 32 * 32)).1.1.2.2.2.2.1.2.2)))]) (ws2 := [(b0, .inr (1, [.ref a0, .int ((cTakeOne S1 ((u0 + (x5 * u1)) - (u0 + (x5 * u1)) / 32 * 32)).1.2.1), .int ((cTakeOne S1 ((u0 + (x5 * u1)) - (u0 + (x5 * u1)) / 32 * 32)).1.2.2.1), .int ((cTakeOne S1 ((u0 + (x5 * u1)) - (u0 + (x5 * u1)) / 32 * 32)).1.2.2.2)])), (a0, .inr (2, [.ref aw, .ref al, .ref af, .ref ab, .ref ap, .ref ah, .int ((cTakeOne S1 ((u0 + (x5 * u1)) - (u0 + (x5 * u1)) / 32 * 32)).1.1.2.1), .int ((cTakeOne S1 ((u0 + (x5 * u1)) - (u0 + (x5 * u1)) / 32 * 32)).1.1.2.2.1), .int ((cTakeOne S1 ((u0 + (x5 * u1)) - (u0 + (x5 * u1)) / 32 * 32)).1.1.2.2.2.1)])), (aw, .inl (cy, 65, .inl ((cTakeOne S1 ((u0 + (x5 * u1)) - (u0 + (x5 * u1)) / 32 * 32)).1.1.1.1))), (al, .inl (cy, 65, .inl ((cTakeOne S1 ((u0 + (x5 * u1)) - (u0 + (x5 * u1)) / 32 * 32)).1.1.1.2.1))), (af, .inl (cy, 65, .inl ((cTakeOne S1 ((u0 + (x5 * u1)) - (u0 + (x5 * u1)) / 32 * 32)).1.1.1.2.2.1))), (ab, .inl (cy, 65, .inl ((cTakeOne S1 ((u0 + (x5 * u1)) - (u0 + (x5 * u1)) / 32 * 32)).1.1.1.2.2.2.1))), (ap, .inl (cy, 33, .inl ((cTakeOne S1 ((u0 + (x5 * u1)) - (u0 + (x5 * u1)) / 32 * 32)).1.1.1.2.2.2.2))), (ah, .inr (0, [.ref gw, .ref gl, .ref gf, .int ((cTakeOne S1 ((u0 + (x5 * u1)) - (u0 + (x5 * u1)) / 32 * 32)).1.1.2.2.2.2.2)])), (gw, .inl (cy, 65, .inl ((cTakeOne S1 ((u0 + (x5 * u1)) - (u0 + (x5 * u1)) / 32 * 32)).1.1.2.2.2.2.1.1))), (gl, .inl (cy, 65, .inl ((cTakeOne S1 ((u0 + (x5 * u1)) - (u0 + (x5 * u1)) / 32 * 32)).1.1.2.2.2.2.1.2.1))), (gf, .inl (cy, 65, .inl ((cTakeOne S1 ((u0 + (x5 * u1)) - (u0 + (x5 * u1)) / 32 * 32)).1.1.2.2.2.2.1.2.2)))]) hP hD hS hA [0, 1, 2, 3, 4, 5, 6, 7, 8, 9, 10] [] [0, 1, 2, 3, 4, 5, 6, 7, 8, 9, 10] (va_runV (As := [.int ((u0 + (x5 * u1)) - (u0 + (x5 * u1)) / 32 * 32)]) (rest := [.int x4]) ⟨hx, hb, hml, hown, hts⟩ (kX1_takeOne l D cy _ b0 a0 aw al af ab ap ah gw gl gf S1 ((u0 + (x5 * u1)) - (u0 + (x5 * u1)) / 32 * 32)) (cwV 1 hts gX1_takeRow_X1_takeOne rfl rfl rfl (by decide +kernel) ⟨Nat.le_of_ble_eq_true rfl, Nat.le_of_ble_eq_true rfl⟩) (cb_Pw.pv hK hPc hDc hnw (ci := 1) (q0 := 0) rfl rfl) rfl rfl hl.1 rfl (lv_room (Nat.le_of_ble_eq_true rfl)) dX1_takeRow_24 ⟨Nat.le_of_ble_eq_true rfl, Nat.le_of_ble_eq_true rfl⟩) rfl rfl (by decide) (by decide) rfl (by decide) (fun H locs hP hD hS => ?_)
      generalize eZ_3 : cTakeOne S1 ((u0 + (x5 * u1)) - (u0 + (x5 * u1)) / 32 * 32) = Z_3 at hP hD ⊢
      refine lv_iadd hx hb dX1_takeRow_27 ?_
      refine lv_istore (lv' := [(4, .int (x4 + Z_3.2)), (0, .ref b0), (1, .int u0), (2, .int u1), (3, .int u2), (5, .int x5)]) hx hb dX1_takeRow_28 hl (by decide) rfl (fun ls hl => ?_)
      refine lv_iinc (v := x5 + 1) (lv' := [(5, .int (x5 + 1)), (4, .int (x4 + Z_3.2)), (0, .ref b0), (1, .int u0), (2, .int u1), (3, .int u2)]) hx hb dX1_takeRow_30 hl (k := 5) rfl rfl (by decide) rfl (fun ls hl => ?_)
      refine lv_goto (tgt := 6) hx hb dX1_takeRow_33 (by decide) ?_
      exact ih (i + 1) Z_3.1 _ _ (by rw [e5]; exact nI_1 i) (by omega) (by subst eZ_3; rw [← hT]; rfl) _ _ hP hD hS ls (lv_sub hl [2, 3, 4, 5, 1, 0] rfl)
  exact L6 _ 0 S 0 0 rfl (Nat.zero_add _) rfl _ _ hP hD hS ls (lv_sub hl [2, 3, 4, 5, 1, 0] rfl)
end
section
set_option maxHeartbeats 4000000 in
set_option maxRecDepth 100000 in
theorem kX2_becomeLike (l : Launch) (D : va_G) (cy : ClassId) (sz : Nat) (a0 aw al af ab ap ah a01 aw1 al1 af1 ab1 ap1 ah1 : Nat) (T : N5) (sn ex wr : Int32) (T1 : N5) (sn1 ex1 wr1 : Int32) : Met l yX2_becomeLike wsX2_becomeLike ({ frames := 1, cells := 0, slots := 0, locals := 26 }) (cb_Pw D (cb_tys cy) [(a0, .inr (2, [.ref aw, .ref al, .ref af, .ref ab, .ref ap, .ref ah, .int sn, .int ex, .int wr])), (aw, .inl (cy, 65, .inl T.1)), (al, .inl (cy, 65, .inl T.2.1)), (af, .inl (cy, 65, .inl T.2.2.1)), (ab, .inl (cy, 65, .inl T.2.2.2.1)), (ap, .inl (cy, 33, .inl T.2.2.2.2)), (a01, .inr (2, [.ref aw1, .ref al1, .ref af1, .ref ab1, .ref ap1, .ref ah1, .int sn1, .int ex1, .int wr1])), (aw1, .inl (cy, 65, .inl T1.1)), (al1, .inl (cy, 65, .inl T1.2.1)), (af1, .inl (cy, 65, .inl T1.2.2.1)), (ab1, .inl (cy, 65, .inl T1.2.2.2.1)), (ap1, .inl (cy, 33, .inl T1.2.2.2.2))] sz [.ref a0, .ref a01]) (cb_Qv D (cb_tys cy) (va_A [(a0, .inr (2, [.ref aw, .ref al, .ref af, .ref ab, .ref ap, .ref ah, .int sn, .int ex, .int wr])), (aw, .inl (cy, 65, .inl T.1)), (al, .inl (cy, 65, .inl T.2.1)), (af, .inl (cy, 65, .inl T.2.2.1)), (ab, .inl (cy, 65, .inl T.2.2.2.1)), (ap, .inl (cy, 33, .inl T.2.2.2.2)), (a01, .inr (2, [.ref aw1, .ref al1, .ref af1, .ref ab1, .ref ap1, .ref ah1, .int sn1, .int ex1, .int wr1])), (aw1, .inl (cy, 65, .inl T1.1)), (al1, .inl (cy, 65, .inl T1.2.1)), (af1, .inl (cy, 65, .inl T1.2.2.1)), (ab1, .inl (cy, 65, .inl T1.2.2.2.1)), (ap1, .inl (cy, 33, .inl T1.2.2.2.2))] sz) [(a0, .inr (2, [.ref aw, .ref al, .ref af, .ref ab, .ref ap, .ref ah, .int sn1, .int ex, .int wr])), (aw, .inl (cy, 65, .inl T1.1)), (al, .inl (cy, 65, .inl T1.2.1)), (af, .inl (cy, 65, .inl T1.2.2.1)), (ab, .inl (cy, 65, .inl T1.2.2.2.1)), (ap, .inl (cy, 33, .inl T1.2.2.2.2)), (a01, .inr (2, [.ref aw1, .ref al1, .ref af1, .ref ab1, .ref ap1, .ref ah1, .int sn1, .int ex1, .int wr1])), (aw1, .inl (cy, 65, .inl T1.1)), (al1, .inl (cy, 65, .inl T1.2.1)), (af1, .inl (cy, 65, .inl T1.2.2.1)), (ab1, .inl (cy, 65, .inl T1.2.2.2.1)), (ap1, .inl (cy, 33, .inl T1.2.2.2.2))]) 0 0 (va_A [(a0, .inr (2, [.ref aw, .ref al, .ref af, .ref ab, .ref ap, .ref ah, .int sn, .int ex, .int wr])), (aw, .inl (cy, 65, .inl T.1)), (al, .inl (cy, 65, .inl T.2.1)), (af, .inl (cy, 65, .inl T.2.2.1)), (ab, .inl (cy, 65, .inl T.2.2.2.1)), (ap, .inl (cy, 33, .inl T.2.2.2.2)), (a01, .inr (2, [.ref aw1, .ref al1, .ref af1, .ref ab1, .ref ap1, .ref ah1, .int sn1, .int ex1, .int wr1])), (aw1, .inl (cy, 65, .inl T1.1)), (al1, .inl (cy, 65, .inl T1.2.1)), (af1, .inl (cy, 65, .inl T1.2.2.1)), (ab1, .inl (cy, 65, .inl T1.2.2.2.1)), (ap1, .inl (cy, 33, .inl T1.2.2.2.2))] sz) := by
  refine Met.ofW (cc := cX2_becomeLike) (maxL := 2) (ret := none) (by decide) rfl ?_
  intro p e s m args below meth c s₁ B hml hv
  obtain ⟨rfl, hsz, hP, hK, hD0, hnw⟩ := hv
  have hx := B.exec
  have hb := B.bytes
  have hr := B.returns
  have hts := atoms_spec (ws := wsX2_becomeLike) B.pre
  have hown : s.vm.findClass RX2 = some m.cls := findClass_of_methodNamed B.named
  have hlocks := B.notSynchronized
  have hinX2 : ∀ w ∈ wsX20, w ∈ wsX2_becomeLike := by decide +kernel
  subst hsz
  have hD := hD0.self (sz := s.heap.size)
  generalize hAe : va_A [(a0, .inr (2, [.ref aw, .ref al, .ref af, .ref ab, .ref ap, .ref ah, .int sn, .int ex, .int wr])), (aw, .inl (cy, 65, .inl T.1)), (al, .inl (cy, 65, .inl T.2.1)), (af, .inl (cy, 65, .inl T.2.2.1)), (ab, .inl (cy, 65, .inl T.2.2.2.1)), (ap, .inl (cy, 33, .inl T.2.2.2.2)), (a01, .inr (2, [.ref aw1, .ref al1, .ref af1, .ref ab1, .ref ap1, .ref ah1, .int sn1, .int ex1, .int wr1])), (aw1, .inl (cy, 65, .inl T1.1)), (al1, .inl (cy, 65, .inl T1.2.1)), (af1, .inl (cy, 65, .inl T1.2.2.1)), (ab1, .inl (cy, 65, .inl T1.2.2.2.1)), (ap1, .inl (cy, 33, .inl T1.2.2.2.2))] s.heap.size = A at hD ⊢
  have hA : ∀ q : Nat, s.heap.size ≤ q → A q := fun q h => by rw [← hAe]; exact Or.inr h
  clear hAe
  have hS : va_S A s.heap s.heap [] := va_S.rf
  have hl := lv_entry ([.ref a0, .ref a01]) (n := 2) (Nat.le_of_ble_eq_true rfl)
  rw [lg_entry_eq]
  generalize (lg_sl ([.ref a0, .ref a01]) ++ List.replicate (2 - (lg_sl ([.ref a0, .ref a01])).length) Slot.unset).toArray = ls at hl ⊢
  have hl : lv_has ls 2 [(0, .ref a0), (1, .ref a01)] := hl
  refine lv_aload_n hx hb dX2_becomeLike_0 rfl (lv_at hl 1 rfl) ?_
  refine va_get (D := D) (ci := 2) (v := .ref aw1) (C := RX2) (T := TX2) (N := 9) hx hb hts hinX2 hown hK hP 6 rfl rfl 0 (by decide) (hts (.fieldLink RX2 9 "CobblerCodes$Tree" "weight" "[I") (by decide +kernel)) (fun _ h9 => h9) rfl dX2_becomeLike_1 ?_
  refine lv_iconst (v := 0) hx hb dX2_becomeLike_4 (by decide) ?_
  refine lv_aload_n hx hb dX2_becomeLike_5 rfl (lv_at hl 0 rfl) ?_
  refine va_get (D := D) (ci := 2) (v := .ref aw) (C := RX2) (T := TX2) (N := 9) hx hb hts hinX2 hown hK hP 0 rfl rfl 0 (by decide) (hts (.fieldLink RX2 9 "CobblerCodes$Tree" "weight" "[I") (by decide +kernel)) (fun _ h9 => h9) rfl dX2_becomeLike_6 ?_
  refine lv_iconst (v := 0) hx hb dX2_becomeLike_9 (by decide) ?_
  refine lv_bipush (v := 65) hx hb dX2_becomeLike_10 (by decide) ?_
  refine va_copyi (D := D) (cl := vwCl) hx hb (hml.trans hl.1.symm) hown (hts (.methodLink RX2 48 arraycopyName) (by decide +kernel)) (hts (.native arraycopyName) (by decide +kernel)) (hts (.static arraycopyName) (by decide +kernel)) (hts (.initialized "java/lang/System") (by decide +kernel)) hK hP hD hS 7 1 0 0 rfl rfl rfl rfl rfl (by decide) (by decide) (by decide) (by decide) (by decide) (fun _ _ => rfl) (Nat.le_of_ble_eq_true rfl) (Nat.le_of_ble_eq_true rfl) dX2_becomeLike_12 (fun H locs hP hD hS => ?_)
  obtain ⟨hP, hD⟩ := cb_swap (f' := T1.1) hP hD (q := 1) rfl (cb_cpy 65 _ _)
  have hP : va_P D vwCl [(a0, .inr (2, [.ref aw, .ref al, .ref af, .ref ab, .ref ap, .ref ah, .int sn, .int ex, .int wr])), (aw, .inl (cy, 65, .inl T1.1)), (al, .inl (cy, 65, .inl T.2.1)), (af, .inl (cy, 65, .inl T.2.2.1)), (ab, .inl (cy, 65, .inl T.2.2.2.1)), (ap, .inl (cy, 33, .inl T.2.2.2.2)), (a01, .inr (2, [.ref aw1, .ref al1, .ref af1, .ref ab1, .ref ap1, .ref ah1, .int sn1, .int ex1, .int wr1])), (aw1, .inl (cy, 65, .inl T1.1)), (al1, .inl (cy, 65, .inl T1.2.1)), (af1, .inl (cy, 65, .inl T1.2.2.1)), (ab1, .inl (cy, 65, .inl T1.2.2.2.1)), (ap1, .inl (cy, 33, .inl T1.2.2.2.2))] H := hP
  have hD : va_D A [(a0, .inr (2, [.ref aw, .ref al, .ref af, .ref ab, .ref ap, .ref ah, .int sn, .int ex, .int wr])), (aw, .inl (cy, 65, .inl T1.1)), (al, .inl (cy, 65, .inl T.2.1)), (af, .inl (cy, 65, .inl T.2.2.1)), (ab, .inl (cy, 65, .inl T.2.2.2.1)), (ap, .inl (cy, 33, .inl T.2.2.2.2)), (a01, .inr (2, [.ref aw1, .ref al1, .ref af1, .ref ab1, .ref ap1, .ref ah1, .int sn1, .int ex1, .int wr1])), (aw1, .inl (cy, 65, .inl T1.1)), (al1, .inl (cy, 65, .inl T1.2.1)), (af1, .inl (cy, 65, .inl T1.2.2.1)), (ab1, .inl (cy, 65, .inl T1.2.2.2.1)), (ap1, .inl (cy, 33, .inl T1.2.2.2.2))] := hD
  refine lv_aload_n hx hb dX2_becomeLike_15 rfl (lv_at hl 1 rfl) ?_
  refine va_get (D := D) (ci := 2) (v := .ref al1) (C := RX2) (T := TX2) (N := 9) hx hb hts hinX2 hown hK hP 6 rfl rfl 1 (by decide) (hts (.fieldLink RX2 15 "CobblerCodes$Tree" "leaf" "[I") (by decide +kernel)) (fun _ h9 => h9) rfl dX2_becomeLike_16 ?_
  refine lv_iconst (v := 0) hx hb dX2_becomeLike_19 (by decide) ?_
  refine lv_aload_n hx hb dX2_becomeLike_20 rfl (lv_at hl 0 rfl) ?_
  refine va_get (D := D) (ci := 2) (v := .ref al) (C := RX2) (T := TX2) (N := 9) hx hb hts hinX2 hown hK hP 0 rfl rfl 1 (by decide) (hts (.fieldLink RX2 15 "CobblerCodes$Tree" "leaf" "[I") (by decide +kernel)) (fun _ h9 => h9) rfl dX2_becomeLike_21 ?_
  refine lv_iconst (v := 0) hx hb dX2_becomeLike_24 (by decide) ?_
  refine lv_bipush (v := 65) hx hb dX2_becomeLike_25 (by decide) ?_
  refine va_copyi (D := D) (cl := vwCl) hx hb (hml.trans hl.1.symm) hown (hts (.methodLink RX2 48 arraycopyName) (by decide +kernel)) (hts (.native arraycopyName) (by decide +kernel)) (hts (.static arraycopyName) (by decide +kernel)) (hts (.initialized "java/lang/System") (by decide +kernel)) hK hP hD hS 8 2 0 0 rfl rfl rfl rfl rfl (by decide) (by decide) (by decide) (by decide) (by decide) (fun _ _ => rfl) (Nat.le_of_ble_eq_true rfl) (Nat.le_of_ble_eq_true rfl) dX2_becomeLike_27 (fun H locs hP hD hS => ?_)
  obtain ⟨hP, hD⟩ := cb_swap (f' := T1.2.1) hP hD (q := 2) rfl (cb_cpy 65 _ _)
  have hP : va_P D vwCl [(a0, .inr (2, [.ref aw, .ref al, .ref af, .ref ab, .ref ap, .ref ah, .int sn, .int ex, .int wr])), (aw, .inl (cy, 65, .inl T1.1)), (al, .inl (cy, 65, .inl T1.2.1)), (af, .inl (cy, 65, .inl T.2.2.1)), (ab, .inl (cy, 65, .inl T.2.2.2.1)), (ap, .inl (cy, 33, .inl T.2.2.2.2)), (a01, .inr (2, [.ref aw1, .ref al1, .ref af1, .ref ab1, .ref ap1, .ref ah1, .int sn1, .int ex1, .int wr1])), (aw1, .inl (cy, 65, .inl T1.1)), (al1, .inl (cy, 65, .inl T1.2.1)), (af1, .inl (cy, 65, .inl T1.2.2.1)), (ab1, .inl (cy, 65, .inl T1.2.2.2.1)), (ap1, .inl (cy, 33, .inl T1.2.2.2.2))] H := hP
  have hD : va_D A [(a0, .inr (2, [.ref aw, .ref al, .ref af, .ref ab, .ref ap, .ref ah, .int sn, .int ex, .int wr])), (aw, .inl (cy, 65, .inl T1.1)), (al, .inl (cy, 65, .inl T1.2.1)), (af, .inl (cy, 65, .inl T.2.2.1)), (ab, .inl (cy, 65, .inl T.2.2.2.1)), (ap, .inl (cy, 33, .inl T.2.2.2.2)), (a01, .inr (2, [.ref aw1, .ref al1, .ref af1, .ref ab1, .ref ap1, .ref ah1, .int sn1, .int ex1, .int wr1])), (aw1, .inl (cy, 65, .inl T1.1)), (al1, .inl (cy, 65, .inl T1.2.1)), (af1, .inl (cy, 65, .inl T1.2.2.1)), (ab1, .inl (cy, 65, .inl T1.2.2.2.1)), (ap1, .inl (cy, 33, .inl T1.2.2.2.2))] := hD
  refine lv_aload_n hx hb dX2_becomeLike_30 rfl (lv_at hl 1 rfl) ?_
  refine va_get (D := D) (ci := 2) (v := .ref af1) (C := RX2) (T := TX2) (N := 9) hx hb hts hinX2 hown hK hP 6 rfl rfl 2 (by decide) (hts (.fieldLink RX2 18 "CobblerCodes$Tree" "firstPart" "[I") (by decide +kernel)) (fun _ h9 => h9) rfl dX2_becomeLike_31 ?_
  refine lv_iconst (v := 0) hx hb dX2_becomeLike_34 (by decide) ?_
  refine lv_aload_n hx hb dX2_becomeLike_35 rfl (lv_at hl 0 rfl) ?_
  refine va_get (D := D) (ci := 2) (v := .ref af) (C := RX2) (T := TX2) (N := 9) hx hb hts hinX2 hown hK hP 0 rfl rfl 2 (by decide) (hts (.fieldLink RX2 18 "CobblerCodes$Tree" "firstPart" "[I") (by decide +kernel)) (fun _ h9 => h9) rfl dX2_becomeLike_36 ?_
  refine lv_iconst (v := 0) hx hb dX2_becomeLike_39 (by decide) ?_
  refine lv_bipush (v := 65) hx hb dX2_becomeLike_40 (by decide) ?_
  refine va_copyi (D := D) (cl := vwCl) hx hb (hml.trans hl.1.symm) hown (hts (.methodLink RX2 48 arraycopyName) (by decide +kernel)) (hts (.native arraycopyName) (by decide +kernel)) (hts (.static arraycopyName) (by decide +kernel)) (hts (.initialized "java/lang/System") (by decide +kernel)) hK hP hD hS 9 3 0 0 rfl rfl rfl rfl rfl (by decide) (by decide) (by decide) (by decide) (by decide) (fun _ _ => rfl) (Nat.le_of_ble_eq_true rfl) (Nat.le_of_ble_eq_true rfl) dX2_becomeLike_42 (fun H locs hP hD hS => ?_)
  obtain ⟨hP, hD⟩ := cb_swap (f' := T1.2.2.1) hP hD (q := 3) rfl (cb_cpy 65 _ _)
  have hP : va_P D vwCl [(a0, .inr (2, [.ref aw, .ref al, .ref af, .ref ab, .ref ap, .ref ah, .int sn, .int ex, .int wr])), (aw, .inl (cy, 65, .inl T1.1)), (al, .inl (cy, 65, .inl T1.2.1)), (af, .inl (cy, 65, .inl T1.2.2.1)), (ab, .inl (cy, 65, .inl T.2.2.2.1)), (ap, .inl (cy, 33, .inl T.2.2.2.2)), (a01, .inr (2, [.ref aw1, .ref al1, .ref af1, .ref ab1, .ref ap1, .ref ah1, .int sn1, .int ex1, .int wr1])), (aw1, .inl (cy, 65, .inl T1.1)), (al1, .inl (cy, 65, .inl T1.2.1)), (af1, .inl (cy, 65, .inl T1.2.2.1)), (ab1, .inl (cy, 65, .inl T1.2.2.2.1)), (ap1, .inl (cy, 33, .inl T1.2.2.2.2))] H := hP
  have hD : va_D A [(a0, .inr (2, [.ref aw, .ref al, .ref af, .ref ab, .ref ap, .ref ah, .int sn, .int ex, .int wr])), (aw, .inl (cy, 65, .inl T1.1)), (al, .inl (cy, 65, .inl T1.2.1)), (af, .inl (cy, 65, .inl T1.2.2.1)), (ab, .inl (cy, 65, .inl T.2.2.2.1)), (ap, .inl (cy, 33, .inl T.2.2.2.2)), (a01, .inr (2, [.ref aw1, .ref al1, .ref af1, .ref ab1, .ref ap1, .ref ah1, .int sn1, .int ex1, .int wr1])), (aw1, .inl (cy, 65, .inl T1.1)), (al1, .inl (cy, 65, .inl T1.2.1)), (af1, .inl (cy, 65, .inl T1.2.2.1)), (ab1, .inl (cy, 65, .inl T1.2.2.2.1)), (ap1, .inl (cy, 33, .inl T1.2.2.2.2))] := hD
  refine lv_aload_n hx hb dX2_becomeLike_45 rfl (lv_at hl 1 rfl) ?_
  refine va_get (D := D) (ci := 2) (v := .ref ab1) (C := RX2) (T := TX2) (N := 9) hx hb hts hinX2 hown hK hP 6 rfl rfl 3 (by decide) (hts (.fieldLink RX2 21 "CobblerCodes$Tree" "above" "[I") (by decide +kernel)) (fun _ h9 => h9) rfl dX2_becomeLike_46 ?_
  refine lv_iconst (v := 0) hx hb dX2_becomeLike_49 (by decide) ?_
  refine lv_aload_n hx hb dX2_becomeLike_50 rfl (lv_at hl 0 rfl) ?_
  refine va_get (D := D) (ci := 2) (v := .ref ab) (C := RX2) (T := TX2) (N := 9) hx hb hts hinX2 hown hK hP 0 rfl rfl 3 (by decide) (hts (.fieldLink RX2 21 "CobblerCodes$Tree" "above" "[I") (by decide +kernel)) (fun _ h9 => h9) rfl dX2_becomeLike_51 ?_
  refine lv_iconst (v := 0) hx hb dX2_becomeLike_54 (by decide) ?_
  refine lv_bipush (v := 65) hx hb dX2_becomeLike_55 (by decide) ?_
  refine va_copyi (D := D) (cl := vwCl) hx hb (hml.trans hl.1.symm) hown (hts (.methodLink RX2 48 arraycopyName) (by decide +kernel)) (hts (.native arraycopyName) (by decide +kernel)) (hts (.static arraycopyName) (by decide +kernel)) (hts (.initialized "java/lang/System") (by decide +kernel)) hK hP hD hS 10 4 0 0 rfl rfl rfl rfl rfl (by decide) (by decide) (by decide) (by decide) (by decide) (fun _ _ => rfl) (Nat.le_of_ble_eq_true rfl) (Nat.le_of_ble_eq_true rfl) dX2_becomeLike_57 (fun H locs hP hD hS => ?_)
  obtain ⟨hP, hD⟩ := cb_swap (f' := T1.2.2.2.1) hP hD (q := 4) rfl (cb_cpy 65 _ _)
  have hP : va_P D vwCl [(a0, .inr (2, [.ref aw, .ref al, .ref af, .ref ab, .ref ap, .ref ah, .int sn, .int ex, .int wr])), (aw, .inl (cy, 65, .inl T1.1)), (al, .inl (cy, 65, .inl T1.2.1)), (af, .inl (cy, 65, .inl T1.2.2.1)), (ab, .inl (cy, 65, .inl T1.2.2.2.1)), (ap, .inl (cy, 33, .inl T.2.2.2.2)), (a01, .inr (2, [.ref aw1, .ref al1, .ref af1, .ref ab1, .ref ap1, .ref ah1, .int sn1, .int ex1, .int wr1])), (aw1, .inl (cy, 65, .inl T1.1)), (al1, .inl (cy, 65, .inl T1.2.1)), (af1, .inl (cy, 65, .inl T1.2.2.1)), (ab1, .inl (cy, 65, .inl T1.2.2.2.1)), (ap1, .inl (cy, 33, .inl T1.2.2.2.2))] H := hP
  have hD : va_D A [(a0, .inr (2, [.ref aw, .ref al, .ref af, .ref ab, .ref ap, .ref ah, .int sn, .int ex, .int wr])), (aw, .inl (cy, 65, .inl T1.1)), (al, .inl (cy, 65, .inl T1.2.1)), (af, .inl (cy, 65, .inl T1.2.2.1)), (ab, .inl (cy, 65, .inl T1.2.2.2.1)), (ap, .inl (cy, 33, .inl T.2.2.2.2)), (a01, .inr (2, [.ref aw1, .ref al1, .ref af1, .ref ab1, .ref ap1, .ref ah1, .int sn1, .int ex1, .int wr1])), (aw1, .inl (cy, 65, .inl T1.1)), (al1, .inl (cy, 65, .inl T1.2.1)), (af1, .inl (cy, 65, .inl T1.2.2.1)), (ab1, .inl (cy, 65, .inl T1.2.2.2.1)), (ap1, .inl (cy, 33, .inl T1.2.2.2.2))] := hD
  refine lv_aload_n hx hb dX2_becomeLike_60 rfl (lv_at hl 1 rfl) ?_
  refine va_get (D := D) (ci := 2) (v := .ref ap1) (C := RX2) (T := TX2) (N := 9) hx hb hts hinX2 hown hK hP 6 rfl rfl 4 (by decide) (hts (.fieldLink RX2 24 "CobblerCodes$Tree" "placeOf" "[I") (by decide +kernel)) (fun _ h9 => h9) rfl dX2_becomeLike_61 ?_
  refine lv_iconst (v := 0) hx hb dX2_becomeLike_64 (by decide) ?_
  refine lv_aload_n hx hb dX2_becomeLike_65 rfl (lv_at hl 0 rfl) ?_
  refine va_get (D := D) (ci := 2) (v := .ref ap) (C := RX2) (T := TX2) (N := 9) hx hb hts hinX2 hown hK hP 0 rfl rfl 4 (by decide) (hts (.fieldLink RX2 24 "CobblerCodes$Tree" "placeOf" "[I") (by decide +kernel)) (fun _ h9 => h9) rfl dX2_becomeLike_66 ?_
  refine lv_iconst (v := 0) hx hb dX2_becomeLike_69 (by decide) ?_
  refine lv_bipush (v := 33) hx hb dX2_becomeLike_70 (by decide) ?_
  refine va_copyi (D := D) (cl := vwCl) hx hb (hml.trans hl.1.symm) hown (hts (.methodLink RX2 48 arraycopyName) (by decide +kernel)) (hts (.native arraycopyName) (by decide +kernel)) (hts (.static arraycopyName) (by decide +kernel)) (hts (.initialized "java/lang/System") (by decide +kernel)) hK hP hD hS 11 5 0 0 rfl rfl rfl rfl rfl (by decide) (by decide) (by decide) (by decide) (by decide) (fun _ _ => rfl) (Nat.le_of_ble_eq_true rfl) (Nat.le_of_ble_eq_true rfl) dX2_becomeLike_72 (fun H locs hP hD hS => ?_)
  obtain ⟨hP, hD⟩ := cb_swap (f' := T1.2.2.2.2) hP hD (q := 5) rfl (cb_cpy 33 _ _)
  have hP : va_P D vwCl [(a0, .inr (2, [.ref aw, .ref al, .ref af, .ref ab, .ref ap, .ref ah, .int sn, .int ex, .int wr])), (aw, .inl (cy, 65, .inl T1.1)), (al, .inl (cy, 65, .inl T1.2.1)), (af, .inl (cy, 65, .inl T1.2.2.1)), (ab, .inl (cy, 65, .inl T1.2.2.2.1)), (ap, .inl (cy, 33, .inl T1.2.2.2.2)), (a01, .inr (2, [.ref aw1, .ref al1, .ref af1, .ref ab1, .ref ap1, .ref ah1, .int sn1, .int ex1, .int wr1])), (aw1, .inl (cy, 65, .inl T1.1)), (al1, .inl (cy, 65, .inl T1.2.1)), (af1, .inl (cy, 65, .inl T1.2.2.1)), (ab1, .inl (cy, 65, .inl T1.2.2.2.1)), (ap1, .inl (cy, 33, .inl T1.2.2.2.2))] H := hP
  have hD : va_D A [(a0, .inr (2, [.ref aw, .ref al, .ref af, .ref ab, .ref ap, .ref ah, .int sn, .int ex, .int wr])), (aw, .inl (cy, 65, .inl T1.1)), (al, .inl (cy, 65, .inl T1.2.1)), (af, .inl (cy, 65, .inl T1.2.2.1)), (ab, .inl (cy, 65, .inl T1.2.2.2.1)), (ap, .inl (cy, 33, .inl T1.2.2.2.2)), (a01, .inr (2, [.ref aw1, .ref al1, .ref af1, .ref ab1, .ref ap1, .ref ah1, .int sn1, .int ex1, .int wr1])), (aw1, .inl (cy, 65, .inl T1.1)), (al1, .inl (cy, 65, .inl T1.2.1)), (af1, .inl (cy, 65, .inl T1.2.2.1)), (ab1, .inl (cy, 65, .inl T1.2.2.2.1)), (ap1, .inl (cy, 33, .inl T1.2.2.2.2))] := hD
  refine lv_aload_n hx hb dX2_becomeLike_75 rfl (lv_at hl 0 rfl) ?_
  refine lv_aload_n hx hb dX2_becomeLike_76 rfl (lv_at hl 1 rfl) ?_
  refine va_get (D := D) (ci := 2) (v := .int sn1) (C := RX2) (T := TX2) (N := 9) hx hb hts hinX2 hown hK hP 6 rfl rfl 6 (by decide) (hts (.fieldLink RX2 40 "CobblerCodes$Tree" "size" "I") (by decide +kernel)) (fun _ h9 => h9) rfl dX2_becomeLike_77 ?_
  refine va_put (D := D) (ci := 2) (v := .int sn1) (ty := .int) (C := RX2) (T := TX2) (N := 9) hx hb hts hinX2 tyX2 tyX2_ok nmX2 hown hK hP hD hS 0 rfl rfl 6 (by decide) (hts (.fieldLink RX2 40 "CobblerCodes$Tree" "size" "I") (by decide +kernel)) (fun _ h9 => h9) rfl (by decide +kernel) rfl rfl (Nat.le_of_ble_eq_true rfl) dX2_becomeLike_80 (fun H locs hP hD hS => ?_)
  have hP : va_P D vwCl [(a0, .inr (2, [.ref aw, .ref al, .ref af, .ref ab, .ref ap, .ref ah, .int sn1, .int ex, .int wr])), (aw, .inl (cy, 65, .inl T1.1)), (al, .inl (cy, 65, .inl T1.2.1)), (af, .inl (cy, 65, .inl T1.2.2.1)), (ab, .inl (cy, 65, .inl T1.2.2.2.1)), (ap, .inl (cy, 33, .inl T1.2.2.2.2)), (a01, .inr (2, [.ref aw1, .ref al1, .ref af1, .ref ab1, .ref ap1, .ref ah1, .int sn1, .int ex1, .int wr1])), (aw1, .inl (cy, 65, .inl T1.1)), (al1, .inl (cy, 65, .inl T1.2.1)), (af1, .inl (cy, 65, .inl T1.2.2.1)), (ab1, .inl (cy, 65, .inl T1.2.2.2.1)), (ap1, .inl (cy, 33, .inl T1.2.2.2.2))] H := hP
  have hD : va_D A [(a0, .inr (2, [.ref aw, .ref al, .ref af, .ref ab, .ref ap, .ref ah, .int sn1, .int ex, .int wr])), (aw, .inl (cy, 65, .inl T1.1)), (al, .inl (cy, 65, .inl T1.2.1)), (af, .inl (cy, 65, .inl T1.2.2.1)), (ab, .inl (cy, 65, .inl T1.2.2.2.1)), (ap, .inl (cy, 33, .inl T1.2.2.2.2)), (a01, .inr (2, [.ref aw1, .ref al1, .ref af1, .ref ab1, .ref ap1, .ref ah1, .int sn1, .int ex1, .int wr1])), (aw1, .inl (cy, 65, .inl T1.1)), (al1, .inl (cy, 65, .inl T1.2.1)), (af1, .inl (cy, 65, .inl T1.2.2.1)), (ab1, .inl (cy, 65, .inl T1.2.2.2.1)), (ap1, .inl (cy, 33, .inl T1.2.2.2.2))] := hD
  exact cb_endQv hx hb hr hlocks hP hD hK hS rfl (by omega) (by omega) dX2_becomeLike_83

set_option maxHeartbeats 4000000 in
set_option maxRecDepth 100000 in
theorem kX1_startLike (l : Launch) (D : va_G) (cy : ClassId) (sz : Nat) (b0 a0 aw al af ab ap ah b01 a01 aw1 al1 af1 ab1 ap1 ah1 : Nat) (T : N5) (sn ex wr lim us bi : Int32) (T1 : N5) (sn1 ex1 wr1 lim1 us1 bi1 : Int32) : Met l yX1_startLike wsX1_startLike ({ frames := 2, cells := 0, slots := 0, locals := 47 }) (cb_Pw D (cb_tys cy) [(b0, .inr (1, [.ref a0, .int lim, .int us, .int bi])), (a0, .inr (2, [.ref aw, .ref al, .ref af, .ref ab, .ref ap, .ref ah, .int sn, .int ex, .int wr])), (aw, .inl (cy, 65, .inl T.1)), (al, .inl (cy, 65, .inl T.2.1)), (af, .inl (cy, 65, .inl T.2.2.1)), (ab, .inl (cy, 65, .inl T.2.2.2.1)), (ap, .inl (cy, 33, .inl T.2.2.2.2)), (b01, .inr (1, [.ref a01, .int lim1, .int us1, .int bi1])), (a01, .inr (2, [.ref aw1, .ref al1, .ref af1, .ref ab1, .ref ap1, .ref ah1, .int sn1, .int ex1, .int wr1])), (aw1, .inl (cy, 65, .inl T1.1)), (al1, .inl (cy, 65, .inl T1.2.1)), (af1, .inl (cy, 65, .inl T1.2.2.1)), (ab1, .inl (cy, 65, .inl T1.2.2.2.1)), (ap1, .inl (cy, 33, .inl T1.2.2.2.2))] sz [.ref b0, .ref b01]) (cb_Qv D (cb_tys cy) (va_A [(b0, .inr (1, [.ref a0, .int lim, .int us, .int bi])), (a0, .inr (2, [.ref aw, .ref al, .ref af, .ref ab, .ref ap, .ref ah, .int sn, .int ex, .int wr])), (aw, .inl (cy, 65, .inl T.1)), (al, .inl (cy, 65, .inl T.2.1)), (af, .inl (cy, 65, .inl T.2.2.1)), (ab, .inl (cy, 65, .inl T.2.2.2.1)), (ap, .inl (cy, 33, .inl T.2.2.2.2)), (b01, .inr (1, [.ref a01, .int lim1, .int us1, .int bi1])), (a01, .inr (2, [.ref aw1, .ref al1, .ref af1, .ref ab1, .ref ap1, .ref ah1, .int sn1, .int ex1, .int wr1])), (aw1, .inl (cy, 65, .inl T1.1)), (al1, .inl (cy, 65, .inl T1.2.1)), (af1, .inl (cy, 65, .inl T1.2.2.1)), (ab1, .inl (cy, 65, .inl T1.2.2.2.1)), (ap1, .inl (cy, 33, .inl T1.2.2.2.2))] sz) [(b0, .inr (1, [.ref a0, .int lim1, .int us, .int bi])), (a0, .inr (2, [.ref aw, .ref al, .ref af, .ref ab, .ref ap, .ref ah, .int sn1, .int ex, .int wr])), (aw, .inl (cy, 65, .inl T1.1)), (al, .inl (cy, 65, .inl T1.2.1)), (af, .inl (cy, 65, .inl T1.2.2.1)), (ab, .inl (cy, 65, .inl T1.2.2.2.1)), (ap, .inl (cy, 33, .inl T1.2.2.2.2)), (b01, .inr (1, [.ref a01, .int lim1, .int us1, .int bi1])), (a01, .inr (2, [.ref aw1, .ref al1, .ref af1, .ref ab1, .ref ap1, .ref ah1, .int sn1, .int ex1, .int wr1])), (aw1, .inl (cy, 65, .inl T1.1)), (al1, .inl (cy, 65, .inl T1.2.1)), (af1, .inl (cy, 65, .inl T1.2.2.1)), (ab1, .inl (cy, 65, .inl T1.2.2.2.1)), (ap1, .inl (cy, 33, .inl T1.2.2.2.2))]) 0 0 (va_A [(b0, .inr (1, [.ref a0, .int lim, .int us, .int bi])), (a0, .inr (2, [.ref aw, .ref al, .ref af, .ref ab, .ref ap, .ref ah, .int sn, .int ex, .int wr])), (aw, .inl (cy, 65, .inl T.1)), (al, .inl (cy, 65, .inl T.2.1)), (af, .inl (cy, 65, .inl T.2.2.1)), (ab, .inl (cy, 65, .inl T.2.2.2.1)), (ap, .inl (cy, 33, .inl T.2.2.2.2)), (b01, .inr (1, [.ref a01, .int lim1, .int us1, .int bi1])), (a01, .inr (2, [.ref aw1, .ref al1, .ref af1, .ref ab1, .ref ap1, .ref ah1, .int sn1, .int ex1, .int wr1])), (aw1, .inl (cy, 65, .inl T1.1)), (al1, .inl (cy, 65, .inl T1.2.1)), (af1, .inl (cy, 65, .inl T1.2.2.1)), (ab1, .inl (cy, 65, .inl T1.2.2.2.1)), (ap1, .inl (cy, 33, .inl T1.2.2.2.2))] sz) := by
  refine Met.ofW (cc := cX1_startLike) (maxL := 2) (ret := none) (by decide) rfl ?_
  intro p e s m args below meth c s₁ B hml hv
  obtain ⟨rfl, hsz, hP, hK, hD0, hnw⟩ := hv
  have hx := B.exec
  have hb := B.bytes
  have hr := B.returns
  have hts := atoms_spec (ws := wsX1_startLike) B.pre
  have hown : s.vm.findClass RX1 = some m.cls := findClass_of_methodNamed B.named
  have hlocks := B.notSynchronized
  have hinX1 : ∀ w ∈ wsX10, w ∈ wsX1_startLike := by decide +kernel
  subst hsz
  have hD := hD0.self (sz := s.heap.size)
  generalize hAe : va_A [(b0, .inr (1, [.ref a0, .int lim, .int us, .int bi])), (a0, .inr (2, [.ref aw, .ref al, .ref af, .ref ab, .ref ap, .ref ah, .int sn, .int ex, .int wr])), (aw, .inl (cy, 65, .inl T.1)), (al, .inl (cy, 65, .inl T.2.1)), (af, .inl (cy, 65, .inl T.2.2.1)), (ab, .inl (cy, 65, .inl T.2.2.2.1)), (ap, .inl (cy, 33, .inl T.2.2.2.2)), (b01, .inr (1, [.ref a01, .int lim1, .int us1, .int bi1])), (a01, .inr (2, [.ref aw1, .ref al1, .ref af1, .ref ab1, .ref ap1, .ref ah1, .int sn1, .int ex1, .int wr1])), (aw1, .inl (cy, 65, .inl T1.1)), (al1, .inl (cy, 65, .inl T1.2.1)), (af1, .inl (cy, 65, .inl T1.2.2.1)), (ab1, .inl (cy, 65, .inl T1.2.2.2.1)), (ap1, .inl (cy, 33, .inl T1.2.2.2.2))] s.heap.size = A at hD ⊢
  have hA : ∀ q : Nat, s.heap.size ≤ q → A q := fun q h => by rw [← hAe]; exact Or.inr h
  clear hAe
  have hS : va_S A s.heap s.heap [] := va_S.rf
  have hl := lv_entry ([.ref b0, .ref b01]) (n := 2) (Nat.le_of_ble_eq_true rfl)
  rw [lg_entry_eq]
  generalize (lg_sl ([.ref b0, .ref b01]) ++ List.replicate (2 - (lg_sl ([.ref b0, .ref b01])).length) Slot.unset).toArray = ls at hl ⊢
  have hl : lv_has ls 2 [(0, .ref b0), (1, .ref b01)] := hl
  refine lv_aload_n hx hb dX1_startLike_0 rfl (lv_at hl 0 rfl) ?_
  refine va_get (D := D) (ci := 1) (v := .ref a0) (C := RX1) (T := TX1) (N := 4) hx hb hts hinX1 hown hK hP 0 rfl rfl 0 (by decide) (hts (.fieldLink RX1 12 "CobblerCodes$Shop" "tree" "LCobblerCodes$Tree;") (by decide +kernel)) (fun _ h9 => h9) rfl dX1_startLike_1 ?_
  refine lv_aload_n hx hb dX1_startLike_4 rfl (lv_at hl 1 rfl) ?_
  refine va_get (D := D) (ci := 1) (v := .ref a01) (C := RX1) (T := TX1) (N := 4) hx hb hts hinX1 hown hK hP 7 rfl rfl 0 (by decide) (hts (.fieldLink RX1 12 "CobblerCodes$Shop" "tree" "LCobblerCodes$Tree;") (by decide +kernel)) (fun _ h9 => h9) rfl dX1_startLike_5 ?_
  have hPc := hP.sub (ws' := [(a0, .inr (2, [.ref aw, .ref al, .ref af, .ref ab, .ref ap, .ref ah, .int sn, .int ex, .int wr])), (aw, .inl (cy, 65, .inl T.1)), (al, .inl (cy, 65, .inl T.2.1)), (af, .inl (cy, 65, .inl T.2.2.1)), (ab, .inl (cy, 65, .inl T.2.2.2.1)), (ap, .inl (cy, 33, .inl T.2.2.2.2)), (a01, .inr (2, [.ref aw1, .ref al1, .ref af1, .ref ab1, .ref ap1, .ref ah1, .int sn1, .int ex1, .int wr1])), (aw1, .inl (cy, 65, .inl T1.1)), (al1, .inl (cy, 65, .inl T1.2.1)), (af1, .inl (cy, 65, .inl T1.2.2.1)), (ab1, .inl (cy, 65, .inl T1.2.2.2.1)), (ap1, .inl (cy, 33, .inl T1.2.2.2.2))]) [1, 2, 3, 4, 5, 6, 8, 9, 10, 11, 12, 13] rfl
  have hDc := hD.sub (ws' := [(a0, .inr (2, [.ref aw, .ref al, .ref af, .ref ab, .ref ap, .ref ah, .int sn, .int ex, .int wr])), (aw, .inl (cy, 65, .inl T.1)), (al, .inl (cy, 65, .inl T.2.1)), (af, .inl (cy, 65, .inl T.2.2.1)), (ab, .inl (cy, 65, .inl T.2.2.2.1)), (ap, .inl (cy, 33, .inl T.2.2.2.2)), (a01, .inr (2, [.ref aw1, .ref al1, .ref af1, .ref ab1, .ref ap1, .ref ah1, .int sn1, .int ex1, .int wr1])), (aw1, .inl (cy, 65, .inl T1.1)), (al1, .inl (cy, 65, .inl T1.2.1)), (af1, .inl (cy, 65, .inl T1.2.2.1)), (ab1, .inl (cy, 65, .inl T1.2.2.2.1)), (ap1, .inl (cy, 33, .inl T1.2.2.2.2))]) [1, 2, 3, 4, 5, 6, 8, 9, 10, 11, 12, 13] (by decide) rfl
  refine cb_callQv (wc := [(a0, .inr (2, [.ref aw, .ref al, .ref af, .ref ab, .ref ap, .ref ah, .int sn, .int ex, .int wr])), (aw, .inl (cy, 65, .inl T.1)), (al, .inl (cy, 65, .inl T.2.1)), (af, .inl (cy, 65, .inl T.2.2.1)), (ab, .inl (cy, 65, .inl T.2.2.2.1)), (ap, .inl (cy, 33, .inl T.2.2.2.2)), (a01, .inr (2, [.ref aw1, .ref al1, .ref af1, .ref ab1, .ref ap1, .ref ah1, .int sn1, .int ex1, .int wr1])), (aw1, .inl (cy, 65, .inl T1.1)), (al1, .inl (cy, 65, .inl T1.2.1)), (af1, .inl (cy, 65, .inl T1.2.2.1)), (ab1, .inl (cy, 65, .inl T1.2.2.2.1)), (ap1, .inl (cy, 33, .inl T1.2.2.2.2))]) (wr := [(b0, .inr (1, [.ref a0, .int lim, .int us, .int bi])), (b01, .inr (1, [.ref a01, .int lim1, .int us1, .int bi1]))]) (wc' := [(a0, .inr (2, [.ref aw, .ref al, .ref af, .ref ab, .ref ap, .ref ah, .int sn1, .int ex, .int wr])), (aw, .inl (cy, 65, .inl T1.1)), (al, .inl (cy, 65, .inl T1.2.1)), (af, .inl (cy, 65, .inl T1.2.2.1)), (ab, .inl (cy, 65, .inl T1.2.2.2.1)), (ap, .inl (cy, 33, .inl T1.2.2.2.2)), (a01, .inr (2, [.ref aw1, .ref al1, .ref af1, .ref ab1, .ref ap1, .ref ah1, .int sn1, .int ex1, .int wr1])), (aw1, .inl (cy, 65, .inl T1.1)), (al1, .inl (cy, 65, .inl T1.2.1)), (af1, .inl (cy, 65, .inl T1.2.2.1)), (ab1, .inl (cy, 65, .inl T1.2.2.2.1)), (ap1, .inl (cy, 33, .inl T1.2.2.2.2))]) (ws2 := [(b0, .inr (1, [.ref a0, .int lim, .int us, .int bi])), (a0, .inr (2, [.ref aw, .ref al, .ref af, .ref ab, .ref ap, .ref ah, .int sn1, .int ex, .int wr])), (aw, .inl (cy, 65, .inl T1.1)), (al, .inl (cy, 65, .inl T1.2.1)), (af, .inl (cy, 65, .inl T1.2.2.1)), (ab, .inl (cy, 65, .inl T1.2.2.2.1)), (ap, .inl (cy, 33, .inl T1.2.2.2.2)), (b01, .inr (1, [.ref a01, .int lim1, .int us1, .int bi1])), (a01, .inr (2, [.ref aw1, .ref al1, .ref af1, .ref ab1, .ref ap1, .ref ah1, .int sn1, .int ex1, .int wr1])), (aw1, .inl (cy, 65, .inl T1.1)), (al1, .inl (cy, 65, .inl T1.2.1)), (af1, .inl (cy, 65, .inl T1.2.2.1)), (ab1, .inl (cy, 65, .inl T1.2.2.2.1)), (ap1, .inl (cy, 33, .inl T1.2.2.2.2))]) hP hD hS hA [1, 2, 3, 4, 5, 6, 8, 9, 10, 11, 12, 13] [0, 7] [0, 2, 3, 4, 5, 6, 7, 1, 8, 9, 10, 11, 12, 13] (va_runVN (As := [.ref a01]) (rest := []) ⟨hx, hb, hml, hown, hts⟩ (kX2_becomeLike l D cy _ a0 aw al af ab ap ah a01 aw1 al1 af1 ab1 ap1 ah1 T sn ex wr T1 sn1 ex1 wr1) ⟨va_cnB 1 hts gX1_startLike_X2_becomeLike_n22 rfl rfl rfl (hnw (.methodLinkNest RX1 22 yX2_becomeLike RX3) (by decide +kernel)) (hts (.initialized RX2) (by decide +kernel)) (by decide +kernel) ⟨Nat.le_of_ble_eq_true rfl, Nat.le_of_ble_eq_true rfl⟩, hts (.instanceMethod yX2_becomeLike) (by decide +kernel), hts (.selects RX2 yX2_becomeLike yX2_becomeLike) (by decide +kernel)⟩ (cb_Pw.pv hK hPc hDc hnw (ci := 2) (q0 := 0) rfl rfl) rfl rfl hl.1 rfl (lv_room (Nat.le_of_ble_eq_true rfl)) dX1_startLike_8 ⟨Nat.le_of_ble_eq_true rfl, Nat.le_of_ble_eq_true rfl⟩) rfl rfl (by decide) (by decide) rfl (by decide) (fun H locs hP hD hS => ?_)
  refine lv_aload_n hx hb dX1_startLike_11 rfl (lv_at hl 0 rfl) ?_
  refine lv_aload_n hx hb dX1_startLike_12 rfl (lv_at hl 1 rfl) ?_
  refine va_get (D := D) (ci := 1) (v := .int lim1) (C := RX1) (T := TX1) (N := 4) hx hb hts hinX1 hown hK hP 7 rfl rfl 1 (by decide) (hts (.fieldLink RX1 18 "CobblerCodes$Shop" "limit" "I") (by decide +kernel)) (fun _ h9 => h9) rfl dX1_startLike_13 ?_
  refine va_put (D := D) (ci := 1) (v := .int lim1) (ty := .int) (C := RX1) (T := TX1) (N := 4) hx hb hts hinX1 tyX1 tyX1_ok nmX1 hown hK hP hD hS 0 rfl rfl 1 (by decide) (hts (.fieldLink RX1 18 "CobblerCodes$Shop" "limit" "I") (by decide +kernel)) (fun _ h9 => h9) rfl (by decide +kernel) rfl rfl (Nat.le_of_ble_eq_true rfl) dX1_startLike_16 (fun H locs hP hD hS => ?_)
  have hP : va_P D vwCl [(b0, .inr (1, [.ref a0, .int lim1, .int us, .int bi])), (a0, .inr (2, [.ref aw, .ref al, .ref af, .ref ab, .ref ap, .ref ah, .int sn1, .int ex, .int wr])), (aw, .inl (cy, 65, .inl T1.1)), (al, .inl (cy, 65, .inl T1.2.1)), (af, .inl (cy, 65, .inl T1.2.2.1)), (ab, .inl (cy, 65, .inl T1.2.2.2.1)), (ap, .inl (cy, 33, .inl T1.2.2.2.2)), (b01, .inr (1, [.ref a01, .int lim1, .int us1, .int bi1])), (a01, .inr (2, [.ref aw1, .ref al1, .ref af1, .ref ab1, .ref ap1, .ref ah1, .int sn1, .int ex1, .int wr1])), (aw1, .inl (cy, 65, .inl T1.1)), (al1, .inl (cy, 65, .inl T1.2.1)), (af1, .inl (cy, 65, .inl T1.2.2.1)), (ab1, .inl (cy, 65, .inl T1.2.2.2.1)), (ap1, .inl (cy, 33, .inl T1.2.2.2.2))] H := hP
  have hD : va_D A [(b0, .inr (1, [.ref a0, .int lim1, .int us, .int bi])), (a0, .inr (2, [.ref aw, .ref al, .ref af, .ref ab, .ref ap, .ref ah, .int sn1, .int ex, .int wr])), (aw, .inl (cy, 65, .inl T1.1)), (al, .inl (cy, 65, .inl T1.2.1)), (af, .inl (cy, 65, .inl T1.2.2.1)), (ab, .inl (cy, 65, .inl T1.2.2.2.1)), (ap, .inl (cy, 33, .inl T1.2.2.2.2)), (b01, .inr (1, [.ref a01, .int lim1, .int us1, .int bi1])), (a01, .inr (2, [.ref aw1, .ref al1, .ref af1, .ref ab1, .ref ap1, .ref ah1, .int sn1, .int ex1, .int wr1])), (aw1, .inl (cy, 65, .inl T1.1)), (al1, .inl (cy, 65, .inl T1.2.1)), (af1, .inl (cy, 65, .inl T1.2.2.1)), (ab1, .inl (cy, 65, .inl T1.2.2.2.1)), (ap1, .inl (cy, 33, .inl T1.2.2.2.2))] := hD
  exact cb_endQv hx hb hr hlocks hP hD hK hS rfl (by omega) (by omega) dX1_startLike_19
end
