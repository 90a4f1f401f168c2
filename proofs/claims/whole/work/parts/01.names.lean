/-- a private method of a class that the tables say can be made, by its rows of tables_1 -/
def lw_okq (q : MethodName × Nat) : Prop := (q.1.cls ≠ "java/lang/invoke/MethodHandle" ∧ q.1.cls ≠ "java/lang/invoke/VarHandle") ∧ Cond.instantiable q.1.cls q.2 ∈ tables_1 ∧ Cond.privateMethod q.1 ∈ tables_1 ∧ Cond.instanceMethod q.1 ∈ tables_1
theorem lw_p0 : lw_okq (⟨"ThreeGaps$Text", "fits", "(I)Z"⟩, 3) := ⟨⟨by decide +kernel, by decide +kernel⟩, List.mem_of_getElem? (i := 79) (by decide +kernel), List.mem_of_getElem? (i := 162) (by decide +kernel), List.mem_of_getElem? (i := 163) (by decide +kernel)⟩
theorem lw_p1 : lw_okq (⟨"ThreeGaps$Text", "figure", "(I)I"⟩, 3) := ⟨⟨by decide +kernel, by decide +kernel⟩, List.mem_of_getElem? (i := 79) (by decide +kernel), List.mem_of_getElem? (i := 166) (by decide +kernel), List.mem_of_getElem? (i := 167) (by decide +kernel)⟩
theorem lw_p2 : lw_okq (⟨"ThreeGaps$Text", "takesHeight", "(I)Z"⟩, 3) := ⟨⟨by decide +kernel, by decide +kernel⟩, List.mem_of_getElem? (i := 79) (by decide +kernel), List.mem_of_getElem? (i := 170) (by decide +kernel), List.mem_of_getElem? (i := 171) (by decide +kernel)⟩
theorem lw_p3 : lw_okq (⟨"ThreeGaps$Text", "isClosed", "()Z"⟩, 3) := ⟨⟨by decide +kernel, by decide +kernel⟩, List.mem_of_getElem? (i := 79) (by decide +kernel), List.mem_of_getElem? (i := 174) (by decide +kernel), List.mem_of_getElem? (i := 175) (by decide +kernel)⟩
theorem lw_p4 : lw_okq (⟨"ThreeGaps$Items", "openAt", "(IIII)V"⟩, 4) := ⟨⟨by decide +kernel, by decide +kernel⟩, List.mem_of_getElem? (i := 26) (by decide +kernel), List.mem_of_getElem? (i := 215) (by decide +kernel), List.mem_of_getElem? (i := 216) (by decide +kernel)⟩
theorem lw_p5 : lw_okq (⟨"ThreeGaps$Items", "partIfFull", "(II)V"⟩, 4) := ⟨⟨by decide +kernel, by decide +kernel⟩, List.mem_of_getElem? (i := 26) (by decide +kernel), List.mem_of_getElem? (i := 250) (by decide +kernel), List.mem_of_getElem? (i := 251) (by decide +kernel)⟩
theorem lw_p6 : lw_okq (⟨"ThreeGaps$Items", "countOf", "(III)I"⟩, 4) := ⟨⟨by decide +kernel, by decide +kernel⟩, List.mem_of_getElem? (i := 26) (by decide +kernel), List.mem_of_getElem? (i := 263) (by decide +kernel), List.mem_of_getElem? (i := 264) (by decide +kernel)⟩
theorem lw_p7 : lw_okq (⟨"ThreeGaps$Items", "nth", "(IIII)I"⟩, 4) := ⟨⟨by decide +kernel, by decide +kernel⟩, List.mem_of_getElem? (i := 26) (by decide +kernel), List.mem_of_getElem? (i := 267) (by decide +kernel), List.mem_of_getElem? (i := 268) (by decide +kernel)⟩
theorem lw_p8 : lw_okq (⟨"ThreeGaps$Items", "raise", "(I)V"⟩, 4) := ⟨⟨by decide +kernel, by decide +kernel⟩, List.mem_of_getElem? (i := 26) (by decide +kernel), List.mem_of_getElem? (i := 271) (by decide +kernel), List.mem_of_getElem? (i := 272) (by decide +kernel)⟩
theorem lw_p9 : lw_okq (⟨"ThreeGaps$Items", "changePlaces", "(I)V"⟩, 4) := ⟨⟨by decide +kernel, by decide +kernel⟩, List.mem_of_getElem? (i := 26) (by decide +kernel), List.mem_of_getElem? (i := 284) (by decide +kernel), List.mem_of_getElem? (i := 285) (by decide +kernel)⟩
theorem lw_p10 : lw_okq (⟨"ThreeGaps$Items", "helpIfPoor", "(II)V"⟩, 4) := ⟨⟨by decide +kernel, by decide +kernel⟩, List.mem_of_getElem? (i := 26) (by decide +kernel), List.mem_of_getElem? (i := 288) (by decide +kernel), List.mem_of_getElem? (i := 289) (by decide +kernel)⟩
theorem lw_p11 : lw_okq (⟨"ThreeGaps$Items", "helpFromBehind", "(II)V"⟩, 4) := ⟨⟨by decide +kernel, by decide +kernel⟩, List.mem_of_getElem? (i := 26) (by decide +kernel), List.mem_of_getElem? (i := 292) (by decide +kernel), List.mem_of_getElem? (i := 293) (by decide +kernel)⟩
theorem lw_p12 : lw_okq (⟨"ThreeGaps$Items", "helpFromAhead", "(II)V"⟩, 4) := ⟨⟨by decide +kernel, by decide +kernel⟩, List.mem_of_getElem? (i := 26) (by decide +kernel), List.mem_of_getElem? (i := 296) (by decide +kernel), List.mem_of_getElem? (i := 297) (by decide +kernel)⟩
theorem lw_p13 : lw_okq (⟨"ThreeGaps$Items", "closeAt", "(I)V"⟩, 4) := ⟨⟨by decide +kernel, by decide +kernel⟩, List.mem_of_getElem? (i := 26) (by decide +kernel), List.mem_of_getElem? (i := 300) (by decide +kernel), List.mem_of_getElem? (i := 301) (by decide +kernel)⟩
theorem lw_p14 : lw_okq (⟨"ThreeGaps", "tryOn", "(I)LThreeGaps$Items;"⟩, 8) := ⟨⟨by decide +kernel, by decide +kernel⟩, List.mem_of_getElem? (i := 12) (by decide +kernel), List.mem_of_getElem? (i := 385) (by decide +kernel), List.mem_of_getElem? (i := 386) (by decide +kernel)⟩
theorem lw_p15 : lw_okq (⟨"ThreeGaps", "isWorthTrying", "(II)Z"⟩, 8) := ⟨⟨by decide +kernel, by decide +kernel⟩, List.mem_of_getElem? (i := 12) (by decide +kernel), List.mem_of_getElem? (i := 398) (by decide +kernel), List.mem_of_getElem? (i := 399) (by decide +kernel)⟩
def lw_privs_1 : List (MethodName × Nat) := [(⟨"ThreeGaps$Text", "fits", "(I)Z"⟩, 3), (⟨"ThreeGaps$Text", "figure", "(I)I"⟩, 3), (⟨"ThreeGaps$Text", "takesHeight", "(I)Z"⟩, 3), (⟨"ThreeGaps$Text", "isClosed", "()Z"⟩, 3), (⟨"ThreeGaps$Items", "openAt", "(IIII)V"⟩, 4), (⟨"ThreeGaps$Items", "partIfFull", "(II)V"⟩, 4), (⟨"ThreeGaps$Items", "countOf", "(III)I"⟩, 4), (⟨"ThreeGaps$Items", "nth", "(IIII)I"⟩, 4), (⟨"ThreeGaps$Items", "raise", "(I)V"⟩, 4), (⟨"ThreeGaps$Items", "changePlaces", "(I)V"⟩, 4), (⟨"ThreeGaps$Items", "helpIfPoor", "(II)V"⟩, 4), (⟨"ThreeGaps$Items", "helpFromBehind", "(II)V"⟩, 4), (⟨"ThreeGaps$Items", "helpFromAhead", "(II)V"⟩, 4), (⟨"ThreeGaps$Items", "closeAt", "(I)V"⟩, 4), (⟨"ThreeGaps", "tryOn", "(I)LThreeGaps$Items;"⟩, 8), (⟨"ThreeGaps", "isWorthTrying", "(II)Z"⟩, 8)]
theorem lw_r1 : ∀ q ∈ lw_privs_1, lw_okq q := List.forall_mem_cons.mpr ⟨lw_p0, List.forall_mem_cons.mpr ⟨lw_p1, List.forall_mem_cons.mpr ⟨lw_p2, List.forall_mem_cons.mpr ⟨lw_p3, List.forall_mem_cons.mpr ⟨lw_p4, List.forall_mem_cons.mpr ⟨lw_p5, List.forall_mem_cons.mpr ⟨lw_p6, List.forall_mem_cons.mpr ⟨lw_p7, List.forall_mem_cons.mpr ⟨lw_p8, List.forall_mem_cons.mpr ⟨lw_p9, List.forall_mem_cons.mpr ⟨lw_p10, List.forall_mem_cons.mpr ⟨lw_p11, List.forall_mem_cons.mpr ⟨lw_p12, List.forall_mem_cons.mpr ⟨lw_p13, List.forall_mem_cons.mpr ⟨lw_p14, List.forall_mem_cons.mpr ⟨lw_p15, fun _ h => absurd h List.not_mem_nil⟩⟩⟩⟩⟩⟩⟩⟩⟩⟩⟩⟩⟩⟩⟩⟩
theorem lw_p16 : lw_okq (⟨"ThreeGaps", "looksWith", "(II)I"⟩, 8) := ⟨⟨by decide +kernel, by decide +kernel⟩, List.mem_of_getElem? (i := 12) (by decide +kernel), List.mem_of_getElem? (i := 402) (by decide +kernel), List.mem_of_getElem? (i := 403) (by decide +kernel)⟩
theorem lw_p17 : lw_okq (⟨"ThreeGaps", "canBe", "(I)Z"⟩, 8) := ⟨⟨by decide +kernel, by decide +kernel⟩, List.mem_of_getElem? (i := 12) (by decide +kernel), List.mem_of_getElem? (i := 412) (by decide +kernel), List.mem_of_getElem? (i := 413) (by decide +kernel)⟩
theorem lw_p18 : lw_okq (⟨"ThreeGaps", "chanced", "(I)I"⟩, 8) := ⟨⟨by decide +kernel, by decide +kernel⟩, List.mem_of_getElem? (i := 12) (by decide +kernel), List.mem_of_getElem? (i := 420) (by decide +kernel), List.mem_of_getElem? (i := 421) (by decide +kernel)⟩
theorem lw_p19 : lw_okq (⟨"ThreeGaps", "without", "(II)LThreeGaps$Items;"⟩, 8) := ⟨⟨by decide +kernel, by decide +kernel⟩, List.mem_of_getElem? (i := 12) (by decide +kernel), List.mem_of_getElem? (i := 425) (by decide +kernel), List.mem_of_getElem? (i := 426) (by decide +kernel)⟩
theorem lw_p20 : lw_okq (⟨"ThreeGaps", "isAtRest", "(IIII)Z"⟩, 8) := ⟨⟨by decide +kernel, by decide +kernel⟩, List.mem_of_getElem? (i := 12) (by decide +kernel), List.mem_of_getElem? (i := 479) (by decide +kernel), List.mem_of_getElem? (i := 480) (by decide +kernel)⟩
theorem lw_p21 : lw_okq (⟨"ThreeGaps", "gain", "(IIIII)I"⟩, 8) := ⟨⟨by decide +kernel, by decide +kernel⟩, List.mem_of_getElem? (i := 12) (by decide +kernel), List.mem_of_getElem? (i := 483) (by decide +kernel), List.mem_of_getElem? (i := 484) (by decide +kernel)⟩
theorem lw_p22 : lw_okq (⟨"ThreeGapsModel", "readShape", "()I"⟩, 31) := ⟨⟨by decide +kernel, by decide +kernel⟩, List.mem_of_getElem? (i := 524) (by decide +kernel), List.mem_of_getElem? (i := 639) (by decide +kernel), List.mem_of_getElem? (i := 640) (by decide +kernel)⟩
theorem lw_p23 : lw_okq (⟨"ThreeGapsModel", "readItem", "()Z"⟩, 31) := ⟨⟨by decide +kernel, by decide +kernel⟩, List.mem_of_getElem? (i := 524) (by decide +kernel), List.mem_of_getElem? (i := 643) (by decide +kernel), List.mem_of_getElem? (i := 644) (by decide +kernel)⟩
theorem lw_p24 : lw_okq (⟨"ThreeGapsModel", "figure", "(II)I"⟩, 31) := ⟨⟨by decide +kernel, by decide +kernel⟩, List.mem_of_getElem? (i := 524) (by decide +kernel), List.mem_of_getElem? (i := 647) (by decide +kernel), List.mem_of_getElem? (i := 648) (by decide +kernel)⟩
theorem lw_p25 : lw_okq (⟨"ThreeGapsModel", "mayCome", "(I)Z"⟩, 31) := ⟨⟨by decide +kernel, by decide +kernel⟩, List.mem_of_getElem? (i := 524) (by decide +kernel), List.mem_of_getElem? (i := 651) (by decide +kernel), List.mem_of_getElem? (i := 652) (by decide +kernel)⟩
theorem lw_p26 : lw_okq (⟨"ThreeGapsModel", "note", "()V"⟩, 31) := ⟨⟨by decide +kernel, by decide +kernel⟩, List.mem_of_getElem? (i := 524) (by decide +kernel), List.mem_of_getElem? (i := 662) (by decide +kernel), List.mem_of_getElem? (i := 663) (by decide +kernel)⟩
theorem lw_p27 : lw_okq (⟨"ThreeGapsModel", "goPut", "([IIII)Z"⟩, 31) := ⟨⟨by decide +kernel, by decide +kernel⟩, List.mem_of_getElem? (i := 524) (by decide +kernel), List.mem_of_getElem? (i := 678) (by decide +kernel), List.mem_of_getElem? (i := 679) (by decide +kernel)⟩
theorem lw_p28 : lw_okq (⟨"ThreeGapsModel", "goNew", "([IIII)V"⟩, 31) := ⟨⟨by decide +kernel, by decide +kernel⟩, List.mem_of_getElem? (i := 524) (by decide +kernel), List.mem_of_getElem? (i := 682) (by decide +kernel), List.mem_of_getElem? (i := 683) (by decide +kernel)⟩
theorem lw_p29 : lw_okq (⟨"ThreeGapsModel", "layGap", "([IIIII)V"⟩, 31) := ⟨⟨by decide +kernel, by decide +kernel⟩, List.mem_of_getElem? (i := 524) (by decide +kernel), List.mem_of_getElem? (i := 692) (by decide +kernel), List.mem_of_getElem? (i := 693) (by decide +kernel)⟩
theorem lw_p30 : lw_okq (⟨"ThreeGapsModel", "goRemove", "([III)I"⟩, 31) := ⟨⟨by decide +kernel, by decide +kernel⟩, List.mem_of_getElem? (i := 524) (by decide +kernel), List.mem_of_getElem? (i := 709) (by decide +kernel), List.mem_of_getElem? (i := 710) (by decide +kernel)⟩
theorem lw_p31 : lw_okq (⟨"ThreeGapsModel", "help", "([III)V"⟩, 31) := ⟨⟨by decide +kernel, by decide +kernel⟩, List.mem_of_getElem? (i := 524) (by decide +kernel), List.mem_of_getElem? (i := 713) (by decide +kernel), List.mem_of_getElem? (i := 714) (by decide +kernel)⟩
def lw_privs_2 : List (MethodName × Nat) := [(⟨"ThreeGaps", "looksWith", "(II)I"⟩, 8), (⟨"ThreeGaps", "canBe", "(I)Z"⟩, 8), (⟨"ThreeGaps", "chanced", "(I)I"⟩, 8), (⟨"ThreeGaps", "without", "(II)LThreeGaps$Items;"⟩, 8), (⟨"ThreeGaps", "isAtRest", "(IIII)Z"⟩, 8), (⟨"ThreeGaps", "gain", "(IIIII)I"⟩, 8), (⟨"ThreeGapsModel", "readShape", "()I"⟩, 31), (⟨"ThreeGapsModel", "readItem", "()Z"⟩, 31), (⟨"ThreeGapsModel", "figure", "(II)I"⟩, 31), (⟨"ThreeGapsModel", "mayCome", "(I)Z"⟩, 31), (⟨"ThreeGapsModel", "note", "()V"⟩, 31), (⟨"ThreeGapsModel", "goPut", "([IIII)Z"⟩, 31), (⟨"ThreeGapsModel", "goNew", "([IIII)V"⟩, 31), (⟨"ThreeGapsModel", "layGap", "([IIIII)V"⟩, 31), (⟨"ThreeGapsModel", "goRemove", "([III)I"⟩, 31), (⟨"ThreeGapsModel", "help", "([III)V"⟩, 31)]
theorem lw_r2 : ∀ q ∈ lw_privs_2, lw_okq q := List.forall_mem_cons.mpr ⟨lw_p16, List.forall_mem_cons.mpr ⟨lw_p17, List.forall_mem_cons.mpr ⟨lw_p18, List.forall_mem_cons.mpr ⟨lw_p19, List.forall_mem_cons.mpr ⟨lw_p20, List.forall_mem_cons.mpr ⟨lw_p21, List.forall_mem_cons.mpr ⟨lw_p22, List.forall_mem_cons.mpr ⟨lw_p23, List.forall_mem_cons.mpr ⟨lw_p24, List.forall_mem_cons.mpr ⟨lw_p25, List.forall_mem_cons.mpr ⟨lw_p26, List.forall_mem_cons.mpr ⟨lw_p27, List.forall_mem_cons.mpr ⟨lw_p28, List.forall_mem_cons.mpr ⟨lw_p29, List.forall_mem_cons.mpr ⟨lw_p30, List.forall_mem_cons.mpr ⟨lw_p31, fun _ h => absurd h List.not_mem_nil⟩⟩⟩⟩⟩⟩⟩⟩⟩⟩⟩⟩⟩⟩⟩⟩
theorem lw_p32 : lw_okq (⟨"ThreeGapsModel", "inRange", "(IIIIZ)I"⟩, 31) := ⟨⟨by decide +kernel, by decide +kernel⟩, List.mem_of_getElem? (i := 524) (by decide +kernel), List.mem_of_getElem? (i := 721) (by decide +kernel), List.mem_of_getElem? (i := 722) (by decide +kernel)⟩
theorem lw_p33 : lw_okq (⟨"ThreeGapsModel", "allLooks", "([II)I"⟩, 31) := ⟨⟨by decide +kernel, by decide +kernel⟩, List.mem_of_getElem? (i := 524) (by decide +kernel), List.mem_of_getElem? (i := 736) (by decide +kernel), List.mem_of_getElem? (i := 737) (by decide +kernel)⟩
theorem lw_p34 : lw_okq (⟨"ThreeGapsModel", "search", "([III)I"⟩, 31) := ⟨⟨by decide +kernel, by decide +kernel⟩, List.mem_of_getElem? (i := 524) (by decide +kernel), List.mem_of_getElem? (i := 740) (by decide +kernel), List.mem_of_getElem? (i := 741) (by decide +kernel)⟩
theorem lw_p35 : lw_okq (⟨"ThreeGapsModel", "begin", "()V"⟩, 31) := ⟨⟨by decide +kernel, by decide +kernel⟩, List.mem_of_getElem? (i := 524) (by decide +kernel), List.mem_of_getElem? (i := 780) (by decide +kernel), List.mem_of_getElem? (i := 781) (by decide +kernel)⟩
theorem lw_p36 : lw_okq (⟨"ThreeGapsModel", "otherHeights", "(II)I"⟩, 31) := ⟨⟨by decide +kernel, by decide +kernel⟩, List.mem_of_getElem? (i := 524) (by decide +kernel), List.mem_of_getElem? (i := 784) (by decide +kernel), List.mem_of_getElem? (i := 785) (by decide +kernel)⟩
theorem lw_p37 : lw_okq (⟨"ThreeGapsModel", "findBest", "(I)V"⟩, 31) := ⟨⟨by decide +kernel, by decide +kernel⟩, List.mem_of_getElem? (i := 524) (by decide +kernel), List.mem_of_getElem? (i := 792) (by decide +kernel), List.mem_of_getElem? (i := 793) (by decide +kernel)⟩
theorem lw_p38 : lw_okq (⟨"ThreeGapsModel", "does", "(I)Z"⟩, 31) := ⟨⟨by decide +kernel, by decide +kernel⟩, List.mem_of_getElem? (i := 524) (by decide +kernel), List.mem_of_getElem? (i := 805) (by decide +kernel), List.mem_of_getElem? (i := 806) (by decide +kernel)⟩
theorem lw_p39 : lw_okq (⟨"ThreeGapsModel", "removes", "(II)Z"⟩, 31) := ⟨⟨by decide +kernel, by decide +kernel⟩, List.mem_of_getElem? (i := 524) (by decide +kernel), List.mem_of_getElem? (i := 809) (by decide +kernel), List.mem_of_getElem? (i := 810) (by decide +kernel)⟩
theorem lw_p40 : lw_okq (⟨"ThreeGapsModel", "few", "(I)I"⟩, 31) := ⟨⟨by decide +kernel, by decide +kernel⟩, List.mem_of_getElem? (i := 524) (by decide +kernel), List.mem_of_getElem? (i := 817) (by decide +kernel), List.mem_of_getElem? (i := 818) (by decide +kernel)⟩
theorem lw_p41 : lw_okq (⟨"ThreeGapsModel", "without", "(II)V"⟩, 31) := ⟨⟨by decide +kernel, by decide +kernel⟩, List.mem_of_getElem? (i := 524) (by decide +kernel), List.mem_of_getElem? (i := 821) (by decide +kernel), List.mem_of_getElem? (i := 822) (by decide +kernel)⟩
theorem lw_p42 : lw_okq (⟨"ThreeGapsModel", "layGains", "(III)V"⟩, 31) := ⟨⟨by decide +kernel, by decide +kernel⟩, List.mem_of_getElem? (i := 524) (by decide +kernel), List.mem_of_getElem? (i := 857) (by decide +kernel), List.mem_of_getElem? (i := 858) (by decide +kernel)⟩
theorem lw_p43 : lw_okq (⟨"ThreeGapsModel", "gain", "(III)I"⟩, 31) := ⟨⟨by decide +kernel, by decide +kernel⟩, List.mem_of_getElem? (i := 524) (by decide +kernel), List.mem_of_getElem? (i := 861) (by decide +kernel), List.mem_of_getElem? (i := 862) (by decide +kernel)⟩
def lw_privs_3 : List (MethodName × Nat) := [(⟨"ThreeGapsModel", "inRange", "(IIIIZ)I"⟩, 31), (⟨"ThreeGapsModel", "allLooks", "([II)I"⟩, 31), (⟨"ThreeGapsModel", "search", "([III)I"⟩, 31), (⟨"ThreeGapsModel", "begin", "()V"⟩, 31), (⟨"ThreeGapsModel", "otherHeights", "(II)I"⟩, 31), (⟨"ThreeGapsModel", "findBest", "(I)V"⟩, 31), (⟨"ThreeGapsModel", "does", "(I)Z"⟩, 31), (⟨"ThreeGapsModel", "removes", "(II)Z"⟩, 31), (⟨"ThreeGapsModel", "few", "(I)I"⟩, 31), (⟨"ThreeGapsModel", "without", "(II)V"⟩, 31), (⟨"ThreeGapsModel", "layGains", "(III)V"⟩, 31), (⟨"ThreeGapsModel", "gain", "(III)I"⟩, 31)]
theorem lw_r3 : ∀ q ∈ lw_privs_3, lw_okq q := List.forall_mem_cons.mpr ⟨lw_p32, List.forall_mem_cons.mpr ⟨lw_p33, List.forall_mem_cons.mpr ⟨lw_p34, List.forall_mem_cons.mpr ⟨lw_p35, List.forall_mem_cons.mpr ⟨lw_p36, List.forall_mem_cons.mpr ⟨lw_p37, List.forall_mem_cons.mpr ⟨lw_p38, List.forall_mem_cons.mpr ⟨lw_p39, List.forall_mem_cons.mpr ⟨lw_p40, List.forall_mem_cons.mpr ⟨lw_p41, List.forall_mem_cons.mpr ⟨lw_p42, List.forall_mem_cons.mpr ⟨lw_p43, fun _ h => absurd h List.not_mem_nil⟩⟩⟩⟩⟩⟩⟩⟩⟩⟩⟩⟩
def lw_privs : List (MethodName × Nat) := lw_privs_1 ++ (lw_privs_2 ++ (lw_privs_3))
def lw_tbl : List Cond := k2_sels lw_privs ++ tables_1
theorem lw_privs_ok : ∀ q ∈ lw_privs, lw_okq q := by
  show ∀ q ∈ lw_privs_1 ++ (lw_privs_2 ++ (lw_privs_3)), lw_okq q
  exact List.forall_mem_append.mpr ⟨lw_r1, List.forall_mem_append.mpr ⟨lw_r2, lw_r3⟩⟩
theorem goodIn_r {big : List Cond} (ws : List Cond) (ps : List Nat) (hp : ws = ps.filterMap (fun i => big[i]?)) (h : ws.all goodWord = true) : GoodIn big ws := by
  intro w hw
  have h1 := List.all_eq_true.mp h w hw
  rw [hp] at hw
  obtain ⟨i, -, hi⟩ := List.mem_filterMap.mp hw
  have hm : w ∈ big := by first | exact List.mem_of_getElem? hi | exact List.getElem?_mem hi
  exact ⟨hm, good_of_word h1⟩
theorem goodIn_app {big a b : List Cond} (ha : GoodIn big a) (hb : GoodIn big b) : GoodIn big (a ++ b) := fun w h => (List.mem_append.mp h).elim (ha w) (hb w)
theorem goodIn_ca {big a b : List Cond} {c : Cond} (ha : GoodIn big (c :: a)) (hb : GoodIn big b) : GoodIn big (c :: (a ++ b)) := fun w h => (List.mem_cons.mp h).elim (fun e => ha w (List.mem_cons.mpr (Or.inl e))) (fun h => (List.mem_append.mp h).elim (fun h => ha w (List.mem_cons.mpr (Or.inr h))) (hb w))
theorem goodIn_sub {big ws : List Cond} (hm : ∀ w ∈ ws, w ∈ big) (h : ws.all goodWord = true) : GoodIn big ws := fun w hw => ⟨hm w hw, good_of_word (List.all_eq_true.mp h w hw)⟩
def RX0 : String := "ThreeGaps$Acts"
def TX0 : u_T := fun k => match k with
  | 0 => ("ThreeGaps$Acts", "before", "[LThreeGaps$Both;", true)
  | 1 => ("ThreeGaps$Acts", "next", "I", false)
  | _ => ("ThreeGaps$Acts", "held", "I", false)
def tyX0 : Nat → FieldType := fun k => match k with
  | 0 => .array (.object "ThreeGaps$Both")
  | 1 => .int
  | _ => .int
abbrev wsX00 : List Cond := u_ws RX0 TX0 3
theorem nmX0 : ∀ a, a < 3 → ∀ b, b < 3 → a ≠ b → (TX0 a).2.1 ≠ (TX0 b).2.1 := by decide +kernel
theorem tyX0_ok : ∀ k, k < 3 → parseFieldDescriptor (TX0 k).2.2.1 = some (tyX0 k) := by decide +kernel
abbrev cX0_init : ByteArray := prog_2_method_1_code
def yX0_init : MethodName := ⟨RX0, "<init>", "()V"⟩
abbrev cX0_remember : ByteArray := prog_2_method_2_code
def yX0_remember : MethodName := ⟨RX0, "remember", "(LThreeGaps$Both;)V"⟩
abbrev cX0_bringBack : ByteArray := prog_2_method_3_code
def yX0_bringBack : MethodName := ⟨RX0, "bringBack", "(LThreeGaps$Both;)Z"⟩
def RX1 : String := "ThreeGaps$Both"
def TX1 : u_T := fun k => match k with
  | 0 => ("ThreeGaps$Both", "zero", "LThreeGaps$Items;", true)
  | _ => ("ThreeGaps$Both", "one", "LThreeGaps$Items;", true)
def tyX1 : Nat → FieldType := fun k => match k with
  | 0 => .object "ThreeGaps$Items"
  | _ => .object "ThreeGaps$Items"
abbrev wsX10 : List Cond := u_ws RX1 TX1 2
theorem nmX1 : ∀ a, a < 2 → ∀ b, b < 2 → a ≠ b → (TX1 a).2.1 ≠ (TX1 b).2.1 := by decide +kernel
theorem tyX1_ok : ∀ k, k < 2 → parseFieldDescriptor (TX1 k).2.2.1 = some (tyX1 k) := by decide +kernel
abbrev cX1_init : ByteArray := prog_3_method_1_code
def yX1_init : MethodName := ⟨RX1, "<init>", "()V"⟩
abbrev cX1_of : ByteArray := prog_3_method_2_code
def yX1_of : MethodName := ⟨RX1, "of", "(I)LThreeGaps$Items;"⟩
abbrev cX1_copyFrom : ByteArray := prog_3_method_3_code
def yX1_copyFrom : MethodName := ⟨RX1, "copyFrom", "(LThreeGaps$Both;)V"⟩
abbrev cX1_items : ByteArray := prog_3_method_4_code
def yX1_items : MethodName := ⟨RX1, "items", "()I"⟩
def RX2 : String := "ThreeGaps$Items"
def TX2 : u_T := fun k => match k with
  | 0 => ("ThreeGaps$Items", "keys", "[I", true)
  | 1 => ("ThreeGaps$Items", "values", "[I", true)
  | 2 => ("ThreeGaps$Items", "heights", "[I", true)
  | _ => ("ThreeGaps$Items", "size", "I", false)
def tyX2 : Nat → FieldType := fun k => match k with
  | 0 => .array .int
  | 1 => .array .int
  | 2 => .array .int
  | _ => .int
abbrev wsX20 : List Cond := u_ws RX2 TX2 4
theorem nmX2 : ∀ a, a < 4 → ∀ b, b < 4 → a ≠ b → (TX2 a).2.1 ≠ (TX2 b).2.1 := by decide +kernel
theorem tyX2_ok : ∀ k, k < 4 → parseFieldDescriptor (TX2 k).2.2.1 = some (tyX2 k) := by decide +kernel
abbrev cX2_init : ByteArray := prog_4_method_1_code
def yX2_init : MethodName := ⟨RX2, "<init>", "()V"⟩
abbrev cX2_copyFrom : ByteArray := prog_4_method_2_code
def yX2_copyFrom : MethodName := ⟨RX2, "copyFrom", "(LThreeGaps$Items;)V"⟩
abbrev cX2_add : ByteArray := prog_4_method_3_code
def yX2_add : MethodName := ⟨RX2, "add", "(III)V"⟩
abbrev cX2_keyAt : ByteArray := prog_4_method_4_code
def yX2_keyAt : MethodName := ⟨RX2, "keyAt", "(I)I"⟩
abbrev cX2_lesser : ByteArray := prog_4_method_5_code
def yX2_lesser : MethodName := ⟨RX2, "lesser", "(I)I"⟩
abbrev cX2_indexOf : ByteArray := prog_4_method_6_code
def yX2_indexOf : MethodName := ⟨RX2, "indexOf", "(I)I"⟩
abbrev cX2_canTake : ByteArray := prog_4_method_7_code
def yX2_canTake : MethodName := ⟨RX2, "canTake", "(I)Z"⟩
abbrev cX2_top : ByteArray := prog_4_method_8_code
def yX2_top : MethodName := ⟨RX2, "top", "()I"⟩
abbrev cX2_allHeights : ByteArray := prog_4_method_9_code
def yX2_allHeights : MethodName := ⟨RX2, "allHeights", "()I"⟩
abbrev cX2_valuesWithin : ByteArray := prog_4_method_10_code
def yX2_valuesWithin : MethodName := ⟨RX2, "valuesWithin", "(II)I"⟩
abbrev cX2_ahead : ByteArray := prog_4_method_11_code
def yX2_ahead : MethodName := ⟨RX2, "ahead", "(II)I"⟩
abbrev cX2_behind : ByteArray := prog_4_method_12_code
def yX2_behind : MethodName := ⟨RX2, "behind", "(II)I"⟩
abbrev cX2_looksFor : ByteArray := prog_4_method_13_code
def yX2_looksFor : MethodName := ⟨RX2, "looksFor", "(I)I"⟩
abbrev cX2_allLooks : ByteArray := prog_4_method_14_code
def yX2_allLooks : MethodName := ⟨RX2, "allLooks", "()I"⟩
abbrev cX2_place : ByteArray := prog_4_method_15_code
def yX2_place : MethodName := ⟨RX2, "place", "(II)Z"⟩
abbrev cX2_takeOut : ByteArray := prog_4_method_16_code
def yX2_takeOut : MethodName := ⟨RX2, "takeOut", "(I)Z"⟩
abbrev cX2_newTo : ByteArray := prog_4_method_17_code
def yX2_newTo : MethodName := ⟨RX2, "newTo", "(LThreeGaps$Items;II)I"⟩
abbrev cX2_moveTo : ByteArray := prog_4_method_18_code
def yX2_moveTo : MethodName := ⟨RX2, "moveTo", "(LThreeGaps$Items;II)I"⟩
abbrev cX2_otherHeights : ByteArray := prog_4_method_19_code
def yX2_otherHeights : MethodName := ⟨RX2, "otherHeights", "(LThreeGaps$Items;I)I"⟩
abbrev cX2_partIfFull : ByteArray := prog_4_method_20_code
def yX2_partIfFull : MethodName := ⟨RX2, "partIfFull", "(II)V"⟩
abbrev cX2_helpIfPoor : ByteArray := prog_4_method_21_code
def yX2_helpIfPoor : MethodName := ⟨RX2, "helpIfPoor", "(II)V"⟩
abbrev cX2_helpFromBehind : ByteArray := prog_4_method_22_code
def yX2_helpFromBehind : MethodName := ⟨RX2, "helpFromBehind", "(II)V"⟩
abbrev cX2_helpFromAhead : ByteArray := prog_4_method_23_code
def yX2_helpFromAhead : MethodName := ⟨RX2, "helpFromAhead", "(II)V"⟩
abbrev cX2_countOf : ByteArray := prog_4_method_24_code
def yX2_countOf : MethodName := ⟨RX2, "countOf", "(III)I"⟩
abbrev cX2_nth : ByteArray := prog_4_method_25_code
def yX2_nth : MethodName := ⟨RX2, "nth", "(IIII)I"⟩
abbrev cX2_raise : ByteArray := prog_4_method_26_code
def yX2_raise : MethodName := ⟨RX2, "raise", "(I)V"⟩
abbrev cX2_changePlaces : ByteArray := prog_4_method_27_code
def yX2_changePlaces : MethodName := ⟨RX2, "changePlaces", "(I)V"⟩
abbrev cX2_openAt : ByteArray := prog_4_method_28_code
def yX2_openAt : MethodName := ⟨RX2, "openAt", "(IIII)V"⟩
abbrev cX2_closeAt : ByteArray := prog_4_method_29_code
def yX2_closeAt : MethodName := ⟨RX2, "closeAt", "(I)V"⟩
def RX3 : String := "ThreeGaps$Sought"
def TX3 : u_T := fun k => match k with
  | 0 => ("ThreeGaps$Sought", "maps", "[I", true)
  | 1 => ("ThreeGaps$Sought", "looked", "[I", true)
  | 2 => ("ThreeGaps$Sought", "found", "[I", true)
  | _ => ("ThreeGaps$Sought", "size", "I", false)
def tyX3 : Nat → FieldType := fun k => match k with
  | 0 => .array .int
  | 1 => .array .int
  | 2 => .array .int
  | _ => .int
abbrev wsX30 : List Cond := u_ws RX3 TX3 4
theorem nmX3 : ∀ a, a < 4 → ∀ b, b < 4 → a ≠ b → (TX3 a).2.1 ≠ (TX3 b).2.1 := by decide +kernel
theorem tyX3_ok : ∀ k, k < 4 → parseFieldDescriptor (TX3 k).2.2.1 = some (tyX3 k) := by decide +kernel
abbrev cX3_init : ByteArray := prog_5_method_1_code
def yX3_init : MethodName := ⟨RX3, "<init>", "()V"⟩
abbrev cX3_add : ByteArray := prog_5_method_2_code
def yX3_add : MethodName := ⟨RX3, "add", "(III)Z"⟩
abbrev cX3_isSo : ByteArray := prog_5_method_3_code
def yX3_isSo : MethodName := ⟨RX3, "isSo", "(LThreeGaps$Both;I)Z"⟩
def RX4 : String := "ThreeGaps$Text"
def TX4 : u_T := fun k => match k with
  | 0 => ("ThreeGaps$Text", "letters", "[I", true)
  | 1 => ("ThreeGaps$Text", "open", "[I", true)
  | _ => ("ThreeGaps$Text", "length", "I", false)
def tyX4 : Nat → FieldType := fun k => match k with
  | 0 => .array .int
  | 1 => .array .int
  | _ => .int
abbrev wsX40 : List Cond := u_ws RX4 TX4 3
theorem nmX4 : ∀ a, a < 3 → ∀ b, b < 3 → a ≠ b → (TX4 a).2.1 ≠ (TX4 b).2.1 := by decide +kernel
theorem tyX4_ok : ∀ k, k < 3 → parseFieldDescriptor (TX4 k).2.2.1 = some (tyX4 k) := by decide +kernel
abbrev cX4_init : ByteArray := prog_6_method_1_code
def yX4_init : MethodName := ⟨RX4, "<init>", "()V"⟩
abbrev cX4_append : ByteArray := prog_6_method_2_code
def yX4_append : MethodName := ⟨RX4, "append", "(I)Z"⟩
abbrev cX4_firstFault : ByteArray := prog_6_method_3_code
def yX4_firstFault : MethodName := ⟨RX4, "firstFault", "()I"⟩
abbrev cX4_tellTo : ByteArray := prog_6_method_4_code
def yX4_tellTo : MethodName := ⟨RX4, "tellTo", "(LThreeGaps$Items;)V"⟩
abbrev cX4_fits : ByteArray := prog_6_method_5_code
def yX4_fits : MethodName := ⟨RX4, "fits", "(I)Z"⟩
abbrev cX4_figure : ByteArray := prog_6_method_6_code
def yX4_figure : MethodName := ⟨RX4, "figure", "(I)I"⟩
abbrev cX4_takesHeight : ByteArray := prog_6_method_7_code
def yX4_takesHeight : MethodName := ⟨RX4, "takesHeight", "(I)Z"⟩
abbrev cX4_isClosed : ByteArray := prog_6_method_8_code
def yX4_isClosed : MethodName := ⟨RX4, "isClosed", "()Z"⟩
def RX5 : String := "ThreeGaps"
def TX5 : u_T := fun k => match k with
  | 0 => ("ThreeGaps", "now", "LThreeGaps$Both;", true)
  | 1 => ("ThreeGaps", "trial", "LThreeGaps$Both;", true)
  | 2 => ("ThreeGaps", "acts", "LThreeGaps$Acts;", true)
  | 3 => ("ThreeGaps", "text", "LThreeGaps$Text;", true)
  | 4 => ("ThreeGaps", "sought", "LThreeGaps$Sought;", true)
  | 5 => ("ThreeGaps", "slots", "[LThreeGaps$Both;", true)
  | 6 => ("ThreeGaps", "kept", "[Z", true)
  | _ => ("ThreeGaps", "theSeed", "J", false)
def tyX5 : Nat → FieldType := fun k => match k with
  | 0 => .object "ThreeGaps$Both"
  | 1 => .object "ThreeGaps$Both"
  | 2 => .object "ThreeGaps$Acts"
  | 3 => .object "ThreeGaps$Text"
  | 4 => .object "ThreeGaps$Sought"
  | 5 => .array (.object "ThreeGaps$Both")
  | 6 => .array .boolean
  | _ => .long
abbrev wsX50 : List Cond := u_ws RX5 TX5 8
theorem nmX5 : ∀ a, a < 8 → ∀ b, b < 8 → a ≠ b → (TX5 a).2.1 ≠ (TX5 b).2.1 := by decide +kernel
theorem tyX5_ok : ∀ k, k < 8 → parseFieldDescriptor (TX5 k).2.2.1 = some (tyX5 k) := by decide +kernel
abbrev cX5_init : ByteArray := prog_1_method_1_code
def yX5_init : MethodName := ⟨RX5, "<init>", "()V"⟩
abbrev cX5_write : ByteArray := prog_1_method_2_code
def yX5_write : MethodName := ⟨RX5, "write", "(I)I"⟩
abbrev cX5_wipe : ByteArray := prog_1_method_3_code
def yX5_wipe : MethodName := ⟨RX5, "wipe", "()I"⟩
abbrev cX5_fault : ByteArray := prog_1_method_4_code
def yX5_fault : MethodName := ⟨RX5, "fault", "()I"⟩
abbrev cX5_shape : ByteArray := prog_1_method_5_code
def yX5_shape : MethodName := ⟨RX5, "shape", "(I)I"⟩
abbrev cX5_put : ByteArray := prog_1_method_6_code
def yX5_put : MethodName := ⟨RX5, "put", "(III)I"⟩
abbrev cX5_remove : ByteArray := prog_1_method_7_code
def yX5_remove : MethodName := ⟨RX5, "remove", "(II)I"⟩
abbrev cX5_cut : ByteArray := prog_1_method_8_code
def yX5_cut : MethodName := ⟨RX5, "cut", "(III)I"⟩
abbrev cX5_undo : ByteArray := prog_1_method_9_code
def yX5_undo : MethodName := ⟨RX5, "undo", "()I"⟩
abbrev cX5_about : ByteArray := prog_1_method_10_code
def yX5_about : MethodName := ⟨RX5, "about", "(II)I"⟩
abbrev cX5_item : ByteArray := prog_1_method_11_code
def yX5_item : MethodName := ⟨RX5, "item", "(III)I"⟩
abbrev cX5_get : ByteArray := prog_1_method_12_code
def yX5_get : MethodName := ⟨RX5, "get", "(II)I"⟩
abbrev cX5_span : ByteArray := prog_1_method_13_code
def yX5_span : MethodName := ⟨RX5, "span", "(III)I"⟩
abbrev cX5_rank : ByteArray := prog_1_method_14_code
def yX5_rank : MethodName := ⟨RX5, "rank", "(II)I"⟩
abbrev cX5_near : ByteArray := prog_1_method_15_code
def yX5_near : MethodName := ⟨RX5, "near", "(III)I"⟩
abbrev cX5_looks : ByteArray := prog_1_method_16_code
def yX5_looks : MethodName := ⟨RX5, "looks", "(II)I"⟩
abbrev cX5_sum : ByteArray := prog_1_method_17_code
def yX5_sum : MethodName := ⟨RX5, "sum", "(III)I"⟩
abbrev cX5_would : ByteArray := prog_1_method_18_code
def yX5_would : MethodName := ⟨RX5, "would", "(III)I"⟩
abbrev cX5_best : ByteArray := prog_1_method_19_code
def yX5_best : MethodName := ⟨RX5, "best", "(II)I"⟩
abbrev cX5_judge : ByteArray := prog_1_method_20_code
def yX5_judge : MethodName := ⟨RX5, "judge", "(IJ)I"⟩
abbrev cX5_share : ByteArray := prog_1_method_21_code
def yX5_share : MethodName := ⟨RX5, "share", "(IIZ)I"⟩
abbrev cX5_seek : ByteArray := prog_1_method_22_code
def yX5_seek : MethodName := ⟨RX5, "seek", "(III)I"⟩
abbrev cX5_unseek : ByteArray := prog_1_method_23_code
def yX5_unseek : MethodName := ⟨RX5, "unseek", "()I"⟩
abbrev cX5_keys : ByteArray := prog_1_method_24_code
def yX5_keys : MethodName := ⟨RX5, "keys", "(I)I"⟩
abbrev cX5_rests : ByteArray := prog_1_method_25_code
def yX5_rests : MethodName := ⟨RX5, "rests", "(IIII)I"⟩
abbrev cX5_lost : ByteArray := prog_1_method_26_code
def yX5_lost : MethodName := ⟨RX5, "lost", "(IIIZ)I"⟩
abbrev cX5_seed : ByteArray := prog_1_method_27_code
def yX5_seed : MethodName := ⟨RX5, "seed", "(J)J"⟩
abbrev cX5_rounds : ByteArray := prog_1_method_28_code
def yX5_rounds : MethodName := ⟨RX5, "rounds", "(II)I"⟩
abbrev cX5_keep : ByteArray := prog_1_method_29_code
def yX5_keep : MethodName := ⟨RX5, "keep", "(I)I"⟩
abbrev cX5_again : ByteArray := prog_1_method_30_code
def yX5_again : MethodName := ⟨RX5, "again", "(I)I"⟩
abbrev cX5_count : ByteArray := prog_1_method_31_code
def yX5_count : MethodName := ⟨RX5, "count", "(I)I"⟩
abbrev cX5_isMap : ByteArray := prog_1_method_32_code
def yX5_isMap : MethodName := ⟨RX5, "isMap", "(I)Z"⟩
abbrev cX5_isKey : ByteArray := prog_1_method_33_code
def yX5_isKey : MethodName := ⟨RX5, "isKey", "(I)Z"⟩
abbrev cX5_isSlot : ByteArray := prog_1_method_34_code
def yX5_isSlot : MethodName := ⟨RX5, "isSlot", "(I)Z"⟩
abbrev cX5_tryOn : ByteArray := prog_1_method_35_code
def yX5_tryOn : MethodName := ⟨RX5, "tryOn", "(I)LThreeGaps$Items;"⟩
abbrev cX5_isWorthTrying : ByteArray := prog_1_method_36_code
def yX5_isWorthTrying : MethodName := ⟨RX5, "isWorthTrying", "(II)Z"⟩
abbrev cX5_looksWith : ByteArray := prog_1_method_37_code
def yX5_looksWith : MethodName := ⟨RX5, "looksWith", "(II)I"⟩
abbrev cX5_canBe : ByteArray := prog_1_method_38_code
def yX5_canBe : MethodName := ⟨RX5, "canBe", "(I)Z"⟩
abbrev cX5_chanced : ByteArray := prog_1_method_39_code
def yX5_chanced : MethodName := ⟨RX5, "chanced", "(I)I"⟩
abbrev cX5_without : ByteArray := prog_1_method_40_code
def yX5_without : MethodName := ⟨RX5, "without", "(II)LThreeGaps$Items;"⟩
abbrev cX5_ordersAround : ByteArray := prog_1_method_41_code
def yX5_ordersAround : MethodName := ⟨RX5, "ordersAround", "(II)I"⟩
abbrev cX5_factorial : ByteArray := prog_1_method_42_code
def yX5_factorial : MethodName := ⟨RX5, "factorial", "(I)I"⟩
abbrev cX5_weight : ByteArray := prog_1_method_43_code
def yX5_weight : MethodName := ⟨RX5, "weight", "(III)I"⟩
abbrev cX5_fraction : ByteArray := prog_1_method_44_code
def yX5_fraction : MethodName := ⟨RX5, "fraction", "(IIZ)I"⟩
abbrev cX5_commonDivisor : ByteArray := prog_1_method_45_code
def yX5_commonDivisor : MethodName := ⟨RX5, "commonDivisor", "(II)I"⟩
abbrev cX5_isAtRest : ByteArray := prog_1_method_46_code
def yX5_isAtRest : MethodName := ⟨RX5, "isAtRest", "(IIII)Z"⟩
abbrev cX5_gain : ByteArray := prog_1_method_47_code
def yX5_gain : MethodName := ⟨RX5, "gain", "(IIIII)I"⟩
def RX6 : String := "ThreeGapsModel"
def TX6 : u_T := fun k => match k with
  | 0 => ("ThreeGapsModel", "thrown", "I", false)
  | 1 => ("ThreeGapsModel", "text", "[I", true)
  | 2 => ("ThreeGapsModel", "textSize", "I", false)
  | 3 => ("ThreeGapsModel", "place", "I", false)
  | 4 => ("ThreeGapsModel", "open", "[I", true)
  | 5 => ("ThreeGapsModel", "readMany", "I", false)
  | 6 => ("ThreeGapsModel", "readHigh", "I", false)
  | 7 => ("ThreeGapsModel", "readMap", "[I", true)
  | 8 => ("ThreeGapsModel", "page", "[I", true)
  | 9 => ("ThreeGapsModel", "trial", "[I", true)
  | 10 => ("ThreeGapsModel", "book", "[I", true)
  | 11 => ("ThreeGapsModel", "acts", "I", false)
  | 12 => ("ThreeGapsModel", "kept", "[I", true)
  | 13 => ("ThreeGapsModel", "isKept", "[Z", true)
  | 14 => ("ThreeGapsModel", "sought", "I", false)
  | 15 => ("ThreeGapsModel", "soughtMap", "[I", true)
  | 16 => ("ThreeGapsModel", "soughtLooks", "[I", true)
  | 17 => ("ThreeGapsModel", "soughtIs", "[I", true)
  | 18 => ("ThreeGapsModel", "seed", "J", false)
  | 19 => ("ThreeGapsModel", "lookMany", "I", false)
  | 20 => ("ThreeGapsModel", "isFound", "Z", false)
  | 21 => ("ThreeGapsModel", "gapLeft", "I", false)
  | 22 => ("ThreeGapsModel", "gapRight", "I", false)
  | 23 => ("ThreeGapsModel", "bestKey", "I", false)
  | 24 => ("ThreeGapsModel", "bestMany", "I", false)
  | 25 => ("ThreeGapsModel", "keyMany", "I", false)
  | 26 => ("ThreeGapsModel", "keyFirst", "I", false)
  | 27 => ("ThreeGapsModel", "restMany", "I", false)
  | 28 => ("ThreeGapsModel", "restFirst", "I", false)
  | 29 => ("ThreeGapsModel", "gains", "[I", true)
  | _ => ("ThreeGapsModel", "value", "[I", true)
def tyX6 : Nat → FieldType := fun k => match k with
  | 0 => .int
  | 1 => .array .int
  | 2 => .int
  | 3 => .int
  | 4 => .array .int
  | 5 => .int
  | 6 => .int
  | 7 => .array .int
  | 8 => .array .int
  | 9 => .array .int
  | 10 => .array .int
  | 11 => .int
  | 12 => .array .int
  | 13 => .array .boolean
  | 14 => .int
  | 15 => .array .int
  | 16 => .array .int
  | 17 => .array .int
  | 18 => .long
  | 19 => .int
  | 20 => .boolean
  | 21 => .int
  | 22 => .int
  | 23 => .int
  | 24 => .int
  | 25 => .int
  | 26 => .int
  | 27 => .int
  | 28 => .int
  | 29 => .array .int
  | _ => .array .int
abbrev wsX60 : List Cond := u_ws RX6 TX6 31
theorem nmX6 : ∀ a, a < 31 → ∀ b, b < 31 → a ≠ b → (TX6 a).2.1 ≠ (TX6 b).2.1 := by decide +kernel
theorem tyX6_ok : ∀ k, k < 31 → parseFieldDescriptor (TX6 k).2.2.1 = some (tyX6 k) := by decide +kernel
abbrev cX6_init : ByteArray := prog_8_method_1_code
def yX6_init : MethodName := ⟨RX6, "<init>", "()V"⟩
abbrev cX6_in : ByteArray := prog_8_method_3_code
def yX6_in : MethodName := ⟨RX6, "in", "(JJJ)Z"⟩
abbrev cX6_has : ByteArray := prog_8_method_4_code
def yX6_has : MethodName := ⟨RX6, "has", "(II)Z"⟩
abbrev cX6_many : ByteArray := prog_8_method_5_code
def yX6_many : MethodName := ⟨RX6, "many", "(I)I"⟩
abbrev cX6_power : ByteArray := prog_8_method_6_code
def yX6_power : MethodName := ⟨RX6, "power", "(II)I"⟩
abbrev cX6_noMap : ByteArray := prog_8_method_7_code
def yX6_noMap : MethodName := ⟨RX6, "noMap", "(I)Z"⟩
abbrev cX6_noKey : ByteArray := prog_8_method_8_code
def yX6_noKey : MethodName := ⟨RX6, "noKey", "(I)Z"⟩
abbrev cX6_find : ByteArray := prog_8_method_9_code
def yX6_find : MethodName := ⟨RX6, "find", "([III)I"⟩
abbrev cX6_lesser : ByteArray := prog_8_method_10_code
def yX6_lesser : MethodName := ⟨RX6, "lesser", "([III)I"⟩
abbrev cX6_top : ByteArray := prog_8_method_11_code
def yX6_top : MethodName := ⟨RX6, "top", "([II)I"⟩
abbrev cX6_layGap : ByteArray := prog_8_method_12_code
def yX6_layGap : MethodName := ⟨RX6, "layGap", "([IIIII)V"⟩
abbrev cX6_between : ByteArray := prog_8_method_13_code
def yX6_between : MethodName := ⟨RX6, "between", "([IIIII)I"⟩
abbrev cX6_placeOf : ByteArray := prog_8_method_14_code
def yX6_placeOf : MethodName := ⟨RX6, "placeOf", "([IIIIII)I"⟩
abbrev cX6_move : ByteArray := prog_8_method_15_code
def yX6_move : MethodName := ⟨RX6, "move", "([IIII)V"⟩
abbrev cX6_goNew : ByteArray := prog_8_method_16_code
def yX6_goNew : MethodName := ⟨RX6, "goNew", "([IIII)V"⟩
abbrev cX6_goPut : ByteArray := prog_8_method_17_code
def yX6_goPut : MethodName := ⟨RX6, "goPut", "([IIII)Z"⟩
abbrev cX6_help : ByteArray := prog_8_method_18_code
def yX6_help : MethodName := ⟨RX6, "help", "([III)V"⟩
abbrev cX6_goRemove : ByteArray := prog_8_method_19_code
def yX6_goRemove : MethodName := ⟨RX6, "goRemove", "([III)I"⟩
abbrev cX6_nextOn : ByteArray := prog_8_method_20_code
def yX6_nextOn : MethodName := ⟨RX6, "nextOn", "([IIII)I"⟩
abbrev cX6_search : ByteArray := prog_8_method_21_code
def yX6_search : MethodName := ⟨RX6, "search", "([III)I"⟩
abbrev cX6_allLooks : ByteArray := prog_8_method_22_code
def yX6_allLooks : MethodName := ⟨RX6, "allLooks", "([II)I"⟩
abbrev cX6_write : ByteArray := prog_8_method_23_code
def yX6_write : MethodName := ⟨RX6, "write", "(I)I"⟩
abbrev cX6_wipe : ByteArray := prog_8_method_24_code
def yX6_wipe : MethodName := ⟨RX6, "wipe", "()I"⟩
abbrev cX6_figure : ByteArray := prog_8_method_25_code
def yX6_figure : MethodName := ⟨RX6, "figure", "(II)I"⟩
abbrev cX6_mayCome : ByteArray := prog_8_method_26_code
def yX6_mayCome : MethodName := ⟨RX6, "mayCome", "(I)Z"⟩
abbrev cX6_readItem : ByteArray := prog_8_method_27_code
def yX6_readItem : MethodName := ⟨RX6, "readItem", "()Z"⟩
abbrev cX6_readShape : ByteArray := prog_8_method_28_code
def yX6_readShape : MethodName := ⟨RX6, "readShape", "()I"⟩
abbrev cX6_fault : ByteArray := prog_8_method_29_code
def yX6_fault : MethodName := ⟨RX6, "fault", "()I"⟩
abbrev cX6_note : ByteArray := prog_8_method_30_code
def yX6_note : MethodName := ⟨RX6, "note", "()V"⟩
abbrev cX6_shape : ByteArray := prog_8_method_31_code
def yX6_shape : MethodName := ⟨RX6, "shape", "(I)I"⟩
abbrev cX6_put : ByteArray := prog_8_method_32_code
def yX6_put : MethodName := ⟨RX6, "put", "(III)I"⟩
abbrev cX6_remove : ByteArray := prog_8_method_33_code
def yX6_remove : MethodName := ⟨RX6, "remove", "(II)I"⟩
abbrev cX6_inRange : ByteArray := prog_8_method_34_code
def yX6_inRange : MethodName := ⟨RX6, "inRange", "(IIIIZ)I"⟩
abbrev cX6_cut : ByteArray := prog_8_method_35_code
def yX6_cut : MethodName := ⟨RX6, "cut", "(III)I"⟩
abbrev cX6_undo : ByteArray := prog_8_method_36_code
def yX6_undo : MethodName := ⟨RX6, "undo", "()I"⟩
abbrev cX6_heights : ByteArray := prog_8_method_37_code
def yX6_heights : MethodName := ⟨RX6, "heights", "([II)I"⟩
abbrev cX6_about : ByteArray := prog_8_method_38_code
def yX6_about : MethodName := ⟨RX6, "about", "(II)I"⟩
abbrev cX6_item : ByteArray := prog_8_method_39_code
def yX6_item : MethodName := ⟨RX6, "item", "(III)I"⟩
abbrev cX6_get : ByteArray := prog_8_method_40_code
def yX6_get : MethodName := ⟨RX6, "get", "(II)I"⟩
abbrev cX6_span : ByteArray := prog_8_method_41_code
def yX6_span : MethodName := ⟨RX6, "span", "(III)I"⟩
abbrev cX6_rank : ByteArray := prog_8_method_42_code
def yX6_rank : MethodName := ⟨RX6, "rank", "(II)I"⟩
abbrev cX6_near : ByteArray := prog_8_method_43_code
def yX6_near : MethodName := ⟨RX6, "near", "(III)I"⟩
abbrev cX6_looks : ByteArray := prog_8_method_44_code
def yX6_looks : MethodName := ⟨RX6, "looks", "(II)I"⟩
abbrev cX6_sum : ByteArray := prog_8_method_45_code
def yX6_sum : MethodName := ⟨RX6, "sum", "(III)I"⟩
abbrev cX6_begin : ByteArray := prog_8_method_46_code
def yX6_begin : MethodName := ⟨RX6, "begin", "()V"⟩
abbrev cX6_otherHeights : ByteArray := prog_8_method_47_code
def yX6_otherHeights : MethodName := ⟨RX6, "otherHeights", "(II)I"⟩
abbrev cX6_would : ByteArray := prog_8_method_48_code
def yX6_would : MethodName := ⟨RX6, "would", "(III)I"⟩
abbrev cX6_findBest : ByteArray := prog_8_method_49_code
def yX6_findBest : MethodName := ⟨RX6, "findBest", "(I)V"⟩
abbrev cX6_best : ByteArray := prog_8_method_50_code
def yX6_best : MethodName := ⟨RX6, "best", "(II)I"⟩
abbrev cX6_longPower : ByteArray := prog_8_method_51_code
def yX6_longPower : MethodName := ⟨RX6, "longPower", "(JI)J"⟩
abbrev cX6_removes : ByteArray := prog_8_method_52_code
def yX6_removes : MethodName := ⟨RX6, "removes", "(II)Z"⟩
abbrev cX6_does : ByteArray := prog_8_method_53_code
def yX6_does : MethodName := ⟨RX6, "does", "(I)Z"⟩
abbrev cX6_judge : ByteArray := prog_8_method_54_code
def yX6_judge : MethodName := ⟨RX6, "judge", "(IJ)I"⟩
abbrev cX6_ways : ByteArray := prog_8_method_55_code
def yX6_ways : MethodName := ⟨RX6, "ways", "(I)I"⟩
abbrev cX6_divisor : ByteArray := prog_8_method_56_code
def yX6_divisor : MethodName := ⟨RX6, "divisor", "(II)I"⟩
abbrev cX6_fraction : ByteArray := prog_8_method_57_code
def yX6_fraction : MethodName := ⟨RX6, "fraction", "(IIZ)I"⟩
abbrev cX6_few : ByteArray := prog_8_method_58_code
def yX6_few : MethodName := ⟨RX6, "few", "(I)I"⟩
abbrev cX6_without : ByteArray := prog_8_method_59_code
def yX6_without : MethodName := ⟨RX6, "without", "(II)V"⟩
abbrev cX6_share : ByteArray := prog_8_method_60_code
def yX6_share : MethodName := ⟨RX6, "share", "(IIZ)I"⟩
abbrev cX6_seek : ByteArray := prog_8_method_61_code
def yX6_seek : MethodName := ⟨RX6, "seek", "(III)I"⟩
abbrev cX6_unseek : ByteArray := prog_8_method_62_code
def yX6_unseek : MethodName := ⟨RX6, "unseek", "()I"⟩
abbrev cX6_keys : ByteArray := prog_8_method_63_code
def yX6_keys : MethodName := ⟨RX6, "keys", "(I)I"⟩
abbrev cX6_gain : ByteArray := prog_8_method_64_code
def yX6_gain : MethodName := ⟨RX6, "gain", "(III)I"⟩
abbrev cX6_layGains : ByteArray := prog_8_method_65_code
def yX6_layGains : MethodName := ⟨RX6, "layGains", "(III)V"⟩
abbrev cX6_rests : ByteArray := prog_8_method_66_code
def yX6_rests : MethodName := ⟨RX6, "rests", "(IIII)I"⟩
abbrev cX6_lost : ByteArray := prog_8_method_67_code
def yX6_lost : MethodName := ⟨RX6, "lost", "(IIIZ)I"⟩
abbrev cX6_seed : ByteArray := prog_8_method_68_code
def yX6_seed : MethodName := ⟨RX6, "seed", "(J)J"⟩
abbrev cX6_rounds : ByteArray := prog_8_method_69_code
def yX6_rounds : MethodName := ⟨RX6, "rounds", "(II)I"⟩
abbrev cX6_keep : ByteArray := prog_8_method_70_code
def yX6_keep : MethodName := ⟨RX6, "keep", "(I)I"⟩
abbrev cX6_again : ByteArray := prog_8_method_71_code
def yX6_again : MethodName := ⟨RX6, "again", "(I)I"⟩
abbrev cX6_count : ByteArray := prog_8_method_72_code
def yX6_count : MethodName := ⟨RX6, "count", "(I)I"⟩
def RJ6 : String := "java/lang/Integer"
def TJ6 : u_T := fun k => match k with
  | _ => ("", "", "", false)
def tyJ6 : Nat → FieldType := fun k => match k with
  | _ => .int
abbrev wsJ60 : List Cond := u_ws RJ6 TJ6 0
theorem nmJ6 : ∀ a, a < 0 → ∀ b, b < 0 → a ≠ b → (TJ6 a).2.1 ≠ (TJ6 b).2.1 := by decide +kernel
theorem tyJ6_ok : ∀ k, k < 0 → parseFieldDescriptor (TJ6 k).2.2.1 = some (tyJ6 k) := by decide +kernel
abbrev cJ6_bitCount_0f7a4 : ByteArray := prog_9_method_49_code
def yJ6_bitCount_0f7a4 : MethodName := ⟨RJ6, "bitCount", "(I)I"⟩
def RJ9 : String := "java/lang/Math"
def TJ9 : u_T := fun k => match k with
  | _ => ("", "", "", false)
def tyJ9 : Nat → FieldType := fun k => match k with
  | _ => .int
abbrev wsJ90 : List Cond := u_ws RJ9 TJ9 0
theorem nmJ9 : ∀ a, a < 0 → ∀ b, b < 0 → a ≠ b → (TJ9 a).2.1 ≠ (TJ9 b).2.1 := by decide +kernel
theorem tyJ9_ok : ∀ k, k < 0 → parseFieldDescriptor (TJ9 k).2.2.1 = some (tyJ9 k) := by decide +kernel
abbrev cJ9_abs_0f7a4 : ByteArray := prog_10_method_59_code
def yJ9_abs_0f7a4 : MethodName := ⟨RJ9, "abs", "(I)I"⟩
abbrev cJ9_max_7cf53 : ByteArray := prog_10_method_65_code
def yJ9_max_7cf53 : MethodName := ⟨RJ9, "max", "(II)I"⟩
abbrev cJ9_min_7cf53 : ByteArray := prog_10_method_69_code
def yJ9_min_7cf53 : MethodName := ⟨RJ9, "min", "(II)I"⟩
def RJ10 : String := "java/lang/System"
def TJ10 : u_T := fun k => match k with
  | _ => ("", "", "", false)
def tyJ10 : Nat → FieldType := fun k => match k with
  | _ => .int
abbrev wsJ100 : List Cond := u_ws RJ10 TJ10 0
theorem nmJ10 : ∀ a, a < 0 → ∀ b, b < 0 → a ≠ b → (TJ10 a).2.1 ≠ (TJ10 b).2.1 := by decide +kernel
theorem tyJ10_ok : ∀ k, k < 0 → parseFieldDescriptor (TJ10 k).2.2.1 = some (tyJ10 k) := by decide +kernel
def RL : String := "ThreeGapsLaw"
abbrev cL_law : ByteArray := code
def yL_law : MethodName := ⟨RL, "law", "([I)Z"⟩
def wsL_law_r1 : List Cond := [Cond.classLink RL 7 RX5, Cond.instantiable RX5 8, Cond.initialized RX5, Cond.classLink RL 10 RX6, Cond.instantiable RX6 31, Cond.initialized RX6, Cond.constantLong RL 89 (4294967295), Cond.methodLink RL 9 yX5_init, Cond.instanceMethod yX5_init, Cond.code yX5_init cX5_init 2 none, Cond.methodLink RX5 1 objectInit, Cond.instanceMethod objectInit, Cond.code objectInit ⟨#[0xb1]⟩ 1 none, Cond.classLink RX5 7 RX1, Cond.instantiable RX1 2, Cond.initialized RX1, Cond.fieldLink RX5 10 "ThreeGaps" "now" "LThreeGaps$Both;", Cond.fieldLink RX5 16 "ThreeGaps" "trial" "LThreeGaps$Both;", Cond.classLink RX5 19 RX0, Cond.instantiable RX0 3, Cond.initialized RX0, Cond.fieldLink RX5 22 "ThreeGaps" "acts" "LThreeGaps$Acts;", Cond.classLink RX5 26 RX4, Cond.instantiable RX4 3]
def wsL_law_r2 : List Cond := [Cond.initialized RX4, Cond.fieldLink RX5 29 "ThreeGaps" "text" "LThreeGaps$Text;", Cond.classLink RX5 33 RX3, Cond.instantiable RX3 4, Cond.initialized RX3, Cond.fieldLink RX5 36 "ThreeGaps" "sought" "LThreeGaps$Sought;", Cond.fieldLink RX5 40 "ThreeGaps" "slots" "[LThreeGaps$Both;", Cond.arrayClass .boolean, Cond.fieldLink RX5 44 "ThreeGaps" "kept" "[Z", Cond.fieldLink RX5 48 "ThreeGaps" "theSeed" "J", Cond.instanceMethod yX1_init, Cond.code yX1_init cX1_init 1 none, Cond.methodLink RX1 1 objectInit, Cond.classLink RX1 7 RX2, Cond.instantiable RX2 4, Cond.initialized RX2, Cond.fieldLink RX1 10 "ThreeGaps$Both" "zero" "LThreeGaps$Items;", Cond.fieldLink RX1 16 "ThreeGaps$Both" "one" "LThreeGaps$Items;", Cond.instanceMethod yX2_init, Cond.code yX2_init cX2_init 1 none, Cond.methodLink RX2 3 objectInit, Cond.arrayClass .int, Cond.fieldLink RX2 11 "ThreeGaps$Items" "keys" "[I", Cond.fieldLink RX2 15 "ThreeGaps$Items" "values" "[I"]
def wsL_law_r3 : List Cond := [Cond.fieldLink RX2 18 "ThreeGaps$Items" "heights" "[I", Cond.fieldLink RX2 21 "ThreeGaps$Items" "size" "I", Cond.methodLink RX5 21 yX0_init, Cond.instanceMethod yX0_init, Cond.code yX0_init cX0_init 2 none, Cond.methodLink RX0 1 objectInit, Cond.classLink RX0 9 RX1, Cond.fieldLink RX0 11 "ThreeGaps$Acts" "before" "[LThreeGaps$Both;", Cond.fieldLink RX0 15 "ThreeGaps$Acts" "next" "I", Cond.fieldLink RX0 19 "ThreeGaps$Acts" "held" "I", Cond.instanceMethod yX4_init, Cond.code yX4_init cX4_init 1 none, Cond.methodLink RX4 3 objectInit, Cond.fieldLink RX4 11 "ThreeGaps$Text" "letters" "[I", Cond.fieldLink RX4 15 "ThreeGaps$Text" "open" "[I", Cond.fieldLink RX4 18 "ThreeGaps$Text" "length" "I", Cond.instanceMethod yX3_init, Cond.code yX3_init cX3_init 1 none, Cond.methodLink RX3 1 objectInit, Cond.fieldLink RX3 9 "ThreeGaps$Sought" "maps" "[I", Cond.fieldLink RX3 13 "ThreeGaps$Sought" "looked" "[I", Cond.fieldLink RX3 16 "ThreeGaps$Sought" "found" "[I", Cond.fieldLink RX3 19 "ThreeGaps$Sought" "size" "I", Cond.methodLink RL 12 yX6_init]
def wsL_law_r4 : List Cond := [Cond.instanceMethod yX6_init, Cond.code yX6_init cX6_init 1 none, Cond.methodLink RX6 1 objectInit, Cond.fieldLink RX6 7 "ThreeGapsModel" "text" "[I", Cond.fieldLink RX6 13 "ThreeGapsModel" "open" "[I", Cond.fieldLink RX6 16 "ThreeGapsModel" "readMap" "[I", Cond.fieldLink RX6 19 "ThreeGapsModel" "page" "[I", Cond.fieldLink RX6 22 "ThreeGapsModel" "trial" "[I", Cond.fieldLink RX6 25 "ThreeGapsModel" "book" "[I", Cond.fieldLink RX6 28 "ThreeGapsModel" "kept" "[I", Cond.fieldLink RX6 31 "ThreeGapsModel" "isKept" "[Z", Cond.fieldLink RX6 35 "ThreeGapsModel" "soughtMap" "[I", Cond.fieldLink RX6 38 "ThreeGapsModel" "soughtLooks" "[I", Cond.fieldLink RX6 41 "ThreeGapsModel" "soughtIs" "[I", Cond.fieldLink RX6 44 "ThreeGapsModel" "gains" "[I", Cond.fieldLink RX6 47 "ThreeGapsModel" "value" "[I", Cond.methodLink RL 13 yX5_write, Cond.instanceMethod yX5_write, Cond.selects RX5 yX5_write yX5_write, Cond.code yX5_write cX5_write 2 (some .int), Cond.fieldLink RX5 56 "ThreeGaps$Text" "length" "I", Cond.methodLink RX5 52 yX4_append, Cond.instanceMethod yX4_append, Cond.selects RX4 yX4_append yX4_append]
def wsL_law_r5 : List Cond := [Cond.code yX4_append cX4_append 2 (some .boolean), Cond.methodLink RL 17 yX6_write, Cond.instanceMethod yX6_write, Cond.selects RX6 yX6_write yX6_write, Cond.code yX6_write cX6_write 2 (some .int), Cond.fieldLink RX6 50 "ThreeGapsModel" "thrown" "I", Cond.constantLong RX6 111 (255), Cond.fieldLink RX6 113 "ThreeGapsModel" "textSize" "I", Cond.methodLink RX6 54 yX6_in, Cond.static yX6_in, Cond.code yX6_in cX6_in 6 (some .boolean), Cond.methodLink RL 18 yX5_wipe, Cond.instanceMethod yX5_wipe, Cond.selects RX5 yX5_wipe yX5_wipe, Cond.code yX5_wipe cX5_wipe 2 (some .int), Cond.methodLink RL 22 yX6_wipe, Cond.instanceMethod yX6_wipe, Cond.selects RX6 yX6_wipe yX6_wipe, Cond.code yX6_wipe cX6_wipe 2 (some .int), Cond.methodLink RL 23 yX5_fault, Cond.instanceMethod yX5_fault, Cond.selects RX5 yX5_fault yX5_fault, Cond.code yX5_fault cX5_fault 1 (some .int), Cond.methodLink RX5 60 yX4_firstFault]
def wsL_law_r6 : List Cond := [Cond.instanceMethod yX4_firstFault, Cond.selects RX4 yX4_firstFault yX4_firstFault, Cond.code yX4_firstFault cX4_firstFault 2 (some .int), Cond.methodLink RX4 22 yX4_fits, Cond.instanceMethod yX4_fits, Cond.selects RX4 yX4_fits yX4_fits, Cond.code yX4_fits cX4_fits 3 (some .boolean), Cond.methodLink RX4 35 yX4_figure, Cond.instanceMethod yX4_figure, Cond.selects RX4 yX4_figure yX4_figure, Cond.code yX4_figure cX4_figure 2 (some .int), Cond.methodLink RX4 43 yX4_takesHeight, Cond.instanceMethod yX4_takesHeight, Cond.selects RX4 yX4_takesHeight yX4_takesHeight, Cond.code yX4_takesHeight cX4_takesHeight 3 (some .boolean), Cond.methodLink RX4 26 yX4_isClosed, Cond.instanceMethod yX4_isClosed, Cond.selects RX4 yX4_isClosed yX4_isClosed, Cond.code yX4_isClosed cX4_isClosed 2 (some .boolean), Cond.methodLink RL 26 yX6_fault, Cond.instanceMethod yX6_fault, Cond.selects RX6 yX6_fault yX6_fault, Cond.code yX6_fault cX6_fault 1 (some .int), Cond.methodLink RX6 137 yX6_readShape]
def wsL_law_r7 : List Cond := [Cond.instanceMethod yX6_readShape, Cond.selects RX6 yX6_readShape yX6_readShape, Cond.code yX6_readShape cX6_readShape 3 (some .int), Cond.fieldLink RX6 116 "ThreeGapsModel" "place" "I", Cond.fieldLink RX6 130 "ThreeGapsModel" "readMany" "I", Cond.fieldLink RX6 127 "ThreeGapsModel" "readHigh" "I", Cond.methodLink RX6 133 yX6_readItem, Cond.instanceMethod yX6_readItem, Cond.selects RX6 yX6_readItem yX6_readItem, Cond.code yX6_readItem cX6_readItem 5 (some .boolean), Cond.methodLink RX6 119 yX6_figure, Cond.instanceMethod yX6_figure, Cond.selects RX6 yX6_figure yX6_figure, Cond.code yX6_figure cX6_figure 3 (some .int), Cond.methodLink RX6 123 yX6_mayCome, Cond.instanceMethod yX6_mayCome, Cond.selects RX6 yX6_mayCome yX6_mayCome, Cond.code yX6_mayCome cX6_mayCome 4 (some .boolean), Cond.methodLink RL 27 yX5_shape, Cond.instanceMethod yX5_shape, Cond.selects RX5 yX5_shape yX5_shape, Cond.code yX5_shape cX5_shape 3 (some .int), Cond.fieldLink RX5 79 "ThreeGaps$Items" "size" "I", Cond.methodLink RX5 64 yX5_isMap]
def wsL_law_r8 : List Cond := [Cond.static yX5_isMap, Cond.code yX5_isMap cX5_isMap 1 (some .boolean), Cond.methodLink RX5 67 yX0_remember, Cond.instanceMethod yX0_remember, Cond.selects RX0 yX0_remember yX0_remember, Cond.code yX0_remember cX0_remember 2 none, Cond.methodLink RX0 27 Lib.Math.min.name, Cond.static Lib.Math.min.name, Cond.initialized "java/lang/Math", Cond.code Lib.Math.min.name Lib.Math.min.code 2 (some .int), Cond.methodLink RX0 23 yX1_copyFrom, Cond.instanceMethod yX1_copyFrom, Cond.selects RX1 yX1_copyFrom yX1_copyFrom, Cond.code yX1_copyFrom cX1_copyFrom 2 none, Cond.methodLink RX1 19 yX2_copyFrom, Cond.instanceMethod yX2_copyFrom, Cond.selects RX2 yX2_copyFrom yX2_copyFrom, Cond.code yX2_copyFrom cX2_copyFrom 2 none, Cond.methodLink RX2 25 arraycopyName, Cond.native arraycopyName, Cond.static arraycopyName, Cond.initialized "java/lang/System", Cond.methodLink RX5 71 yX1_of, Cond.instanceMethod yX1_of]
def wsL_law_r9 : List Cond := [Cond.selects RX1 yX1_of yX1_of, Cond.code yX1_of cX1_of 2 (some (.object "ThreeGaps$Items")), Cond.methodLink RX5 75 yX4_tellTo, Cond.instanceMethod yX4_tellTo, Cond.selects RX4 yX4_tellTo yX4_tellTo, Cond.code yX4_tellTo cX4_tellTo 4 none, Cond.fieldLink RX4 30 "ThreeGaps$Items" "size" "I", Cond.methodLink RX4 39 yX2_add, Cond.instanceMethod yX2_add, Cond.selects RX2 yX2_add yX2_add, Cond.code yX2_add cX2_add 4 none, Cond.methodLink RX2 31 yX2_openAt, Cond.instanceMethod yX2_openAt, Cond.selects RX2 yX2_openAt yX2_openAt, Cond.code yX2_openAt cX2_openAt 6 none, Cond.methodLink RL 30 yX6_shape, Cond.instanceMethod yX6_shape, Cond.selects RX6 yX6_shape yX6_shape, Cond.code yX6_shape cX6_shape 3 (some .int), Cond.methodLink RX6 144 yX6_noMap, Cond.static yX6_noMap, Cond.code yX6_noMap cX6_noMap 1 (some .boolean), Cond.methodLink RX6 147 yX6_note, Cond.instanceMethod yX6_note]
def wsL_law_r10 : List Cond := [Cond.selects RX6 yX6_note yX6_note, Cond.code yX6_note cX6_note 2 none, Cond.fieldLink RX6 141 "ThreeGapsModel" "acts" "I", Cond.methodLink RL 31 yX5_put, Cond.instanceMethod yX5_put, Cond.selects RX5 yX5_put yX5_put, Cond.code yX5_put cX5_put 5 (some .int), Cond.constant RX5 87 (999999), Cond.methodLink RX5 84 yX5_isKey, Cond.static yX5_isKey, Cond.code yX5_isKey cX5_isKey 1 (some .boolean), Cond.methodLink RX5 88 yX2_canTake, Cond.instanceMethod yX2_canTake, Cond.selects RX2 yX2_canTake yX2_canTake, Cond.code yX2_canTake cX2_canTake 2 (some .boolean), Cond.methodLink RX2 39 yX2_indexOf, Cond.instanceMethod yX2_indexOf, Cond.selects RX2 yX2_indexOf yX2_indexOf, Cond.code yX2_indexOf cX2_indexOf 3 (some .int), Cond.methodLink RX2 35 yX2_lesser, Cond.instanceMethod yX2_lesser, Cond.selects RX2 yX2_lesser yX2_lesser, Cond.code yX2_lesser cX2_lesser 3 (some .int), Cond.methodLink RX5 91 yX2_place]
def wsL_law_r11 : List Cond := [Cond.instanceMethod yX2_place, Cond.selects RX2 yX2_place yX2_place, Cond.code yX2_place cX2_place 5 (some .boolean), Cond.methodLink RX2 51 yX2_top, Cond.instanceMethod yX2_top, Cond.selects RX2 yX2_top yX2_top, Cond.code yX2_top cX2_top 3 (some .int), Cond.methodLink RX2 42 Lib.Math.max.name, Cond.static Lib.Math.max.name, Cond.code Lib.Math.max.name Lib.Math.max.code 2 (some .int), Cond.methodLink RX2 58 yX2_partIfFull, Cond.instanceMethod yX2_partIfFull, Cond.selects RX2 yX2_partIfFull yX2_partIfFull, Cond.code yX2_partIfFull cX2_partIfFull 5 none, Cond.methodLink RX2 55 yX2_ahead, Cond.instanceMethod yX2_ahead, Cond.selects RX2 yX2_ahead yX2_ahead, Cond.code yX2_ahead cX2_ahead 4 (some .int), Cond.methodLink RX2 48 Lib.Math.min.name, Cond.methodLink RX2 80 yX2_behind, Cond.instanceMethod yX2_behind, Cond.selects RX2 yX2_behind yX2_behind, Cond.code yX2_behind cX2_behind 4 (some .int), Cond.methodLink RX2 83 yX2_countOf]
def wsL_law_r12 : List Cond := [Cond.instanceMethod yX2_countOf, Cond.selects RX2 yX2_countOf yX2_countOf, Cond.code yX2_countOf cX2_countOf 6 (some .int), Cond.methodLink RX2 87 yX2_nth, Cond.instanceMethod yX2_nth, Cond.selects RX2 yX2_nth yX2_nth, Cond.code yX2_nth cX2_nth 7 (some .int), Cond.methodLink RX2 91 yX2_raise, Cond.instanceMethod yX2_raise, Cond.selects RX2 yX2_raise yX2_raise, Cond.code yX2_raise cX2_raise 2 none, Cond.methodLink RL 35 yX6_put, Cond.instanceMethod yX6_put, Cond.selects RX6 yX6_put yX6_put, Cond.code yX6_put cX6_put 4 (some .int), Cond.constantLong RX6 153 (999999), Cond.methodLink RX6 150 yX6_noKey, Cond.static yX6_noKey, Cond.code yX6_noKey cX6_noKey 1 (some .boolean), Cond.constantLong RX6 58 (99), Cond.methodLink RX6 90 yX6_find, Cond.static yX6_find, Cond.code yX6_find cX6_find 5 (some .int), Cond.methodLink RX6 155 yX6_goPut]
def wsL_law_r13 : List Cond := [Cond.instanceMethod yX6_goPut, Cond.selects RX6 yX6_goPut yX6_goPut, Cond.code yX6_goPut cX6_goPut 6 (some .boolean), Cond.methodLink RX6 93 yX6_goNew, Cond.instanceMethod yX6_goNew, Cond.selects RX6 yX6_goNew yX6_goNew, Cond.code yX6_goNew cX6_goNew 7 none, Cond.fieldLink RX6 60 "ThreeGapsModel" "gapLeft" "I", Cond.fieldLink RX6 63 "ThreeGapsModel" "gapRight" "I", Cond.methodLink RX6 66 yX6_lesser, Cond.static yX6_lesser, Cond.code yX6_lesser cX6_lesser 5 (some .int), Cond.methodLink RX6 70 yX6_top, Cond.static yX6_top, Cond.code yX6_top cX6_top 4 (some .int), Cond.methodLink RX6 74 yX6_layGap, Cond.instanceMethod yX6_layGap, Cond.selects RX6 yX6_layGap yX6_layGap, Cond.code yX6_layGap cX6_layGap 6 none, Cond.methodLink RX6 78 yX6_between, Cond.static yX6_between, Cond.code yX6_between cX6_between 7 (some .int), Cond.methodLink RX6 82 yX6_placeOf, Cond.static yX6_placeOf]
def wsL_law_r14 : List Cond := [Cond.code yX6_placeOf cX6_placeOf 9 (some .int), Cond.methodLink RX6 86 yX6_move, Cond.static yX6_move, Cond.code yX6_move cX6_move 4 none, Cond.methodLink RL 36 yX5_remove, Cond.instanceMethod yX5_remove, Cond.selects RX5 yX5_remove yX5_remove, Cond.code yX5_remove cX5_remove 6 (some .int), Cond.fieldLink RX5 99 "ThreeGaps$Items" "values" "[I", Cond.methodLink RX5 95 yX2_indexOf, Cond.methodLink RX5 103 yX2_takeOut, Cond.instanceMethod yX2_takeOut, Cond.selects RX2 yX2_takeOut yX2_takeOut, Cond.code yX2_takeOut cX2_takeOut 4 (some .boolean), Cond.methodLink RX2 62 yX2_changePlaces, Cond.instanceMethod yX2_changePlaces, Cond.selects RX2 yX2_changePlaces yX2_changePlaces, Cond.code yX2_changePlaces cX2_changePlaces 4 none, Cond.methodLink RX2 66 yX2_helpIfPoor, Cond.instanceMethod yX2_helpIfPoor, Cond.selects RX2 yX2_helpIfPoor yX2_helpIfPoor, Cond.code yX2_helpIfPoor cX2_helpIfPoor 5 none, Cond.methodLink RX2 94 yX2_helpFromBehind, Cond.instanceMethod yX2_helpFromBehind]
def wsL_law_r15 : List Cond := [Cond.selects RX2 yX2_helpFromBehind yX2_helpFromBehind, Cond.code yX2_helpFromBehind cX2_helpFromBehind 4 none, Cond.methodLink RX2 97 yX2_helpFromAhead, Cond.instanceMethod yX2_helpFromAhead, Cond.selects RX2 yX2_helpFromAhead yX2_helpFromAhead, Cond.code yX2_helpFromAhead cX2_helpFromAhead 5 none, Cond.methodLink RX2 69 yX2_closeAt, Cond.instanceMethod yX2_closeAt, Cond.selects RX2 yX2_closeAt yX2_closeAt, Cond.code yX2_closeAt cX2_closeAt 3 none, Cond.methodLink RL 40 yX6_remove, Cond.instanceMethod yX6_remove, Cond.selects RX6 yX6_remove yX6_remove, Cond.code yX6_remove cX6_remove 4 (some .int), Cond.methodLink RX6 159 yX6_goRemove, Cond.instanceMethod yX6_goRemove, Cond.selects RX6 yX6_goRemove yX6_goRemove, Cond.code yX6_goRemove cX6_goRemove 7 (some .int), Cond.methodLink RX6 96 yX6_help, Cond.instanceMethod yX6_help, Cond.selects RX6 yX6_help yX6_help, Cond.code yX6_help cX6_help 10 none, Cond.methodLink RL 41 yX5_cut, Cond.instanceMethod yX5_cut]
def wsL_law_r16 : List Cond := [Cond.selects RX5 yX5_cut yX5_cut, Cond.code yX5_cut cX5_cut 6 (some .int), Cond.methodLink RX5 106 yX2_newTo, Cond.instanceMethod yX2_newTo, Cond.selects RX2 yX2_newTo yX2_newTo, Cond.code yX2_newTo cX2_newTo 6 (some .int), Cond.methodLink RX5 110 yX2_moveTo, Cond.instanceMethod yX2_moveTo, Cond.selects RX2 yX2_moveTo yX2_moveTo, Cond.code yX2_moveTo cX2_moveTo 8 (some .int), Cond.methodLink RX2 72 yX2_takeOut, Cond.methodLink RX2 76 yX2_place, Cond.methodLink RL 44 yX6_cut, Cond.instanceMethod yX6_cut, Cond.selects RX6 yX6_cut yX6_cut, Cond.code yX6_cut cX6_cut 9 (some .int), Cond.methodLink RX6 162 yX6_inRange, Cond.instanceMethod yX6_inRange, Cond.selects RX6 yX6_inRange yX6_inRange, Cond.code yX6_inRange cX6_inRange 9 (some .int), Cond.methodLink RL 45 yX5_undo, Cond.instanceMethod yX5_undo, Cond.selects RX5 yX5_undo yX5_undo, Cond.code yX5_undo cX5_undo 1 (some .int)]
def wsL_law_r17 : List Cond := [Cond.fieldLink RX5 117 "ThreeGaps$Acts" "held" "I", Cond.methodLink RX5 113 yX0_bringBack, Cond.instanceMethod yX0_bringBack, Cond.selects RX0 yX0_bringBack yX0_bringBack, Cond.code yX0_bringBack cX0_bringBack 2 (some .boolean), Cond.methodLink RL 48 yX6_undo, Cond.instanceMethod yX6_undo, Cond.selects RX6 yX6_undo yX6_undo, Cond.code yX6_undo cX6_undo 2 (some .int), Cond.methodLink RL 49 yX5_about, Cond.instanceMethod yX5_about, Cond.selects RX5 yX5_about yX5_about, Cond.code yX5_about cX5_about 4 (some .int), Cond.methodLink RX5 120 yX2_top, Cond.methodLink RX5 123 yX2_allHeights, Cond.instanceMethod yX2_allHeights, Cond.selects RX2 yX2_allHeights yX2_allHeights, Cond.code yX2_allHeights cX2_allHeights 3 (some .int), Cond.methodLink RX5 126 yX2_keyAt, Cond.instanceMethod yX2_keyAt, Cond.selects RX2 yX2_keyAt yX2_keyAt, Cond.code yX2_keyAt cX2_keyAt 2 (some .int), Cond.methodLink RX5 129 yX2_allLooks, Cond.instanceMethod yX2_allLooks]
def wsL_law_r18 : List Cond := [Cond.selects RX2 yX2_allLooks yX2_allLooks, Cond.code yX2_allLooks cX2_allLooks 6 (some .int), Cond.methodLink RL 52 yX6_about, Cond.instanceMethod yX6_about, Cond.selects RX6 yX6_about yX6_about, Cond.code yX6_about cX6_about 4 (some .int), Cond.methodLink RX6 166 yX6_heights, Cond.static yX6_heights, Cond.code yX6_heights cX6_heights 4 (some .int), Cond.methodLink RX6 169 yX6_allLooks, Cond.instanceMethod yX6_allLooks, Cond.selects RX6 yX6_allLooks yX6_allLooks, Cond.code yX6_allLooks cX6_allLooks 5 (some .int), Cond.methodLink RX6 108 yX6_search, Cond.instanceMethod yX6_search, Cond.selects RX6 yX6_search yX6_search, Cond.code yX6_search cX6_search 9 (some .int), Cond.fieldLink RX6 100 "ThreeGapsModel" "isFound" "Z", Cond.methodLink RX6 104 yX6_nextOn, Cond.static yX6_nextOn, Cond.code yX6_nextOn cX6_nextOn 5 (some .int), Cond.methodLink RL 53 yX5_item, Cond.instanceMethod yX5_item, Cond.selects RX5 yX5_item yX5_item]
def wsL_law_r19 : List Cond := [Cond.code yX5_item cX5_item 5 (some .int), Cond.fieldLink RX5 132 "ThreeGaps$Items" "keys" "[I", Cond.fieldLink RX5 135 "ThreeGaps$Items" "heights" "[I", Cond.methodLink RL 56 yX6_item, Cond.instanceMethod yX6_item, Cond.selects RX6 yX6_item yX6_item, Cond.code yX6_item cX6_item 5 (some .int), Cond.methodLink RL 57 yX5_get, Cond.instanceMethod yX5_get, Cond.selects RX5 yX5_get yX5_get, Cond.code yX5_get cX5_get 5 (some .int), Cond.methodLink RL 60 yX6_get, Cond.instanceMethod yX6_get, Cond.selects RX6 yX6_get yX6_get, Cond.code yX6_get cX6_get 4 (some .int), Cond.methodLink RL 61 yX5_span, Cond.instanceMethod yX5_span, Cond.selects RX5 yX5_span yX5_span, Cond.code yX5_span cX5_span 6 (some .int), Cond.methodLink RX5 138 yX2_behind, Cond.methodLink RL 64 yX6_span, Cond.instanceMethod yX6_span, Cond.selects RX6 yX6_span yX6_span, Cond.code yX6_span cX6_span 6 (some .int)]
def wsL_law_r20 : List Cond := [Cond.methodLink RL 65 yX5_rank, Cond.instanceMethod yX5_rank, Cond.selects RX5 yX5_rank yX5_rank, Cond.code yX5_rank cX5_rank 3 (some .int), Cond.methodLink RX5 142 yX2_lesser, Cond.methodLink RL 68 yX6_rank, Cond.instanceMethod yX6_rank, Cond.selects RX6 yX6_rank yX6_rank, Cond.code yX6_rank cX6_rank 3 (some .int), Cond.methodLink RL 69 yX5_near, Cond.instanceMethod yX5_near, Cond.selects RX5 yX5_near yX5_near, Cond.code yX5_near cX5_near 6 (some .int), Cond.methodLink RL 72 yX6_near, Cond.instanceMethod yX6_near, Cond.selects RX6 yX6_near yX6_near, Cond.code yX6_near cX6_near 6 (some .int), Cond.methodLink RL 73 yX5_looks, Cond.instanceMethod yX5_looks, Cond.selects RX5 yX5_looks yX5_looks, Cond.code yX5_looks cX5_looks 3 (some .int), Cond.methodLink RX5 145 yX2_looksFor, Cond.instanceMethod yX2_looksFor, Cond.selects RX2 yX2_looksFor yX2_looksFor]
def wsL_law_r21 : List Cond := [Cond.code yX2_looksFor cX2_looksFor 6 (some .int), Cond.methodLink RL 76 yX6_looks, Cond.instanceMethod yX6_looks, Cond.selects RX6 yX6_looks yX6_looks, Cond.code yX6_looks cX6_looks 3 (some .int), Cond.methodLink RL 77 yX5_sum, Cond.instanceMethod yX5_sum, Cond.selects RX5 yX5_sum yX5_sum, Cond.code yX5_sum cX5_sum 4 (some .int), Cond.methodLink RX5 148 yX2_valuesWithin, Cond.instanceMethod yX2_valuesWithin, Cond.selects RX2 yX2_valuesWithin yX2_valuesWithin, Cond.code yX2_valuesWithin cX2_valuesWithin 5 (some .int), Cond.methodLink RL 80 yX6_sum, Cond.instanceMethod yX6_sum, Cond.selects RX6 yX6_sum yX6_sum, Cond.code yX6_sum cX6_sum 7 (some .int), Cond.methodLink RL 81 yX5_would, Cond.instanceMethod yX5_would, Cond.selects RX5 yX5_would yX5_would, Cond.code yX5_would cX5_would 6 (some .int), Cond.methodLink RX5 151 yX5_tryOn, Cond.instanceMethod yX5_tryOn, Cond.selects RX5 yX5_tryOn yX5_tryOn]
def wsL_law_r22 : List Cond := [Cond.code yX5_tryOn cX5_tryOn 3 (some (.object "ThreeGaps$Items")), Cond.methodLink RX5 223 yX2_copyFrom, Cond.methodLink RX5 154 yX2_otherHeights, Cond.instanceMethod yX2_otherHeights, Cond.selects RX2 yX2_otherHeights yX2_otherHeights, Cond.code yX2_otherHeights cX2_otherHeights 6 (some .int), Cond.methodLink RL 84 yX6_would, Cond.instanceMethod yX6_would, Cond.selects RX6 yX6_would yX6_would, Cond.code yX6_would cX6_would 6 (some .int), Cond.constantLong RX6 172 (2), Cond.methodLink RX6 174 yX6_begin, Cond.instanceMethod yX6_begin, Cond.selects RX6 yX6_begin yX6_begin, Cond.code yX6_begin cX6_begin 2 none, Cond.methodLink RX6 177 yX6_otherHeights, Cond.instanceMethod yX6_otherHeights, Cond.selects RX6 yX6_otherHeights yX6_otherHeights, Cond.code yX6_otherHeights cX6_otherHeights 7 (some .int), Cond.methodLink RL 85 yX5_best, Cond.instanceMethod yX5_best, Cond.selects RX5 yX5_best yX5_best, Cond.code yX5_best cX5_best 7 (some .int), Cond.methodLink RX5 158 yX5_isWorthTrying]
def wsL_law_r23 : List Cond := [Cond.instanceMethod yX5_isWorthTrying, Cond.selects RX5 yX5_isWorthTrying yX5_isWorthTrying, Cond.code yX5_isWorthTrying cX5_isWorthTrying 4 (some .boolean), Cond.methodLink RX5 161 yX5_looksWith, Cond.instanceMethod yX5_looksWith, Cond.selects RX5 yX5_looksWith yX5_looksWith, Cond.code yX5_looksWith cX5_looksWith 4 (some .int), Cond.methodLink RL 88 yX6_best, Cond.instanceMethod yX6_best, Cond.selects RX6 yX6_best yX6_best, Cond.code yX6_best cX6_best 3 (some .int), Cond.fieldLink RX6 180 "ThreeGapsModel" "bestKey" "I", Cond.fieldLink RX6 183 "ThreeGapsModel" "bestMany" "I", Cond.methodLink RX6 186 yX6_findBest, Cond.instanceMethod yX6_findBest, Cond.selects RX6 yX6_findBest yX6_findBest, Cond.code yX6_findBest cX6_findBest 4 none, Cond.methodLink RL 91 yX5_judge, Cond.instanceMethod yX5_judge, Cond.selects RX5 yX5_judge yX5_judge, Cond.code yX5_judge cX5_judge 7 (some .int), Cond.constantLong RX5 164 (10000), Cond.methodLink RX5 166 yX1_copyFrom, Cond.methodLink RX5 169 yX5_canBe]
def wsL_law_r24 : List Cond := [Cond.instanceMethod yX5_canBe, Cond.selects RX5 yX5_canBe yX5_canBe, Cond.code yX5_canBe cX5_canBe 5 (some .boolean), Cond.methodLink RL 95 yX6_judge, Cond.instanceMethod yX6_judge, Cond.selects RX6 yX6_judge yX6_judge, Cond.code yX6_judge cX6_judge 5 (some .int), Cond.constantLong RX6 194 (4), Cond.constantLong RX6 196 (10000), Cond.methodLink RX6 198 yX6_longPower, Cond.static yX6_longPower, Cond.code yX6_longPower cX6_longPower 6 (some .long), Cond.methodLink RX6 202 yX6_does, Cond.instanceMethod yX6_does, Cond.selects RX6 yX6_does yX6_does, Cond.code yX6_does cX6_does 4 (some .boolean), Cond.methodLink RX6 190 yX6_removes, Cond.instanceMethod yX6_removes, Cond.selects RX6 yX6_removes yX6_removes, Cond.code yX6_removes cX6_removes 4 (some .boolean), Cond.methodLink RL 96 yX5_share, Cond.instanceMethod yX5_share, Cond.selects RX5 yX5_share yX5_share, Cond.code yX5_share cX5_share 9 (some .int)]
def wsL_law_r25 : List Cond := [Cond.methodLink RX5 172 yX5_chanced, Cond.instanceMethod yX5_chanced, Cond.selects RX5 yX5_chanced yX5_chanced, Cond.code yX5_chanced cX5_chanced 2 (some .int), Cond.methodLink RX5 225 Lib.Math.min.name, Cond.methodLink RX5 175 yX5_without, Cond.instanceMethod yX5_without, Cond.selects RX5 yX5_without yX5_without, Cond.code yX5_without cX5_without 6 (some (.object "ThreeGaps$Items")), Cond.methodLink RX5 179 yJ6_bitCount_0f7a4, Cond.static yJ6_bitCount_0f7a4, Cond.initialized RJ6, Cond.code yJ6_bitCount_0f7a4 cJ6_bitCount_0f7a4 1 (some .int), Cond.constant RJ6 265 (1431655765), Cond.constant RJ6 266 (858993459), Cond.constant RJ6 267 (252645135), Cond.methodLink RX5 184 yX5_ordersAround, Cond.static yX5_ordersAround, Cond.code yX5_ordersAround cX5_ordersAround 2 (some .int), Cond.methodLink RX5 187 yX5_factorial, Cond.static yX5_factorial, Cond.code yX5_factorial cX5_factorial 1 (some .int), Cond.fieldLink RX5 230 "ThreeGaps" "FACTORIALS" "[I", Cond.methodLink RX5 190 yX5_fraction]
def wsL_law_r26 : List Cond := [Cond.static yX5_fraction, Cond.code yX5_fraction cX5_fraction 4 (some .int), Cond.methodLink RX5 233 Lib.Math.abs.name, Cond.static Lib.Math.abs.name, Cond.code Lib.Math.abs.name Lib.Math.abs.code 1 (some .int), Cond.methodLink RX5 236 yX5_commonDivisor, Cond.static yX5_commonDivisor, Cond.code yX5_commonDivisor cX5_commonDivisor 6 (some .int), Cond.methodLink RL 100 yX6_share, Cond.instanceMethod yX6_share, Cond.selects RX6 yX6_share yX6_share, Cond.code yX6_share cX6_share 9 (some .int), Cond.methodLink RX6 208 yX6_few, Cond.instanceMethod yX6_few, Cond.selects RX6 yX6_few yX6_few, Cond.code yX6_few cX6_few 2 (some .int), Cond.methodLink RX6 215 yX6_without, Cond.instanceMethod yX6_without, Cond.selects RX6 yX6_without yX6_without, Cond.code yX6_without cX6_without 4 none, Cond.methodLink RX6 212 yX6_has, Cond.static yX6_has, Cond.code yX6_has cX6_has 2 (some .boolean), Cond.methodLink RX6 219 yX6_many]
def wsL_law_r27 : List Cond := [Cond.static yX6_many, Cond.code yX6_many cX6_many 3 (some .int), Cond.methodLink RX6 222 yX6_ways, Cond.static yX6_ways, Cond.code yX6_ways cX6_ways 3 (some .int), Cond.methodLink RX6 225 yX6_fraction, Cond.static yX6_fraction, Cond.code yX6_fraction cX6_fraction 4 (some .int), Cond.methodLink RX6 205 yX6_divisor, Cond.static yX6_divisor, Cond.code yX6_divisor cX6_divisor 5 (some .int), Cond.methodLink RL 101 yX5_seek, Cond.instanceMethod yX5_seek, Cond.selects RX5 yX5_seek yX5_seek, Cond.code yX5_seek cX5_seek 4 (some .int), Cond.fieldLink RX5 198 "ThreeGaps$Sought" "size" "I", Cond.methodLink RX5 194 yX3_add, Cond.instanceMethod yX3_add, Cond.selects RX3 yX3_add yX3_add, Cond.code yX3_add cX3_add 4 (some .boolean), Cond.methodLink RL 104 yX6_seek, Cond.instanceMethod yX6_seek, Cond.selects RX6 yX6_seek yX6_seek, Cond.code yX6_seek cX6_seek 4 (some .int)]
def wsL_law_r28 : List Cond := [Cond.constantLong RX6 229 (20), Cond.fieldLink RX6 231 "ThreeGapsModel" "sought" "I", Cond.methodLink RL 105 yX5_unseek, Cond.instanceMethod yX5_unseek, Cond.selects RX5 yX5_unseek yX5_unseek, Cond.code yX5_unseek cX5_unseek 2 (some .int), Cond.methodLink RL 108 yX6_unseek, Cond.instanceMethod yX6_unseek, Cond.selects RX6 yX6_unseek yX6_unseek, Cond.code yX6_unseek cX6_unseek 2 (some .int), Cond.methodLink RL 109 yX5_keys, Cond.instanceMethod yX5_keys, Cond.selects RX5 yX5_keys yX5_keys, Cond.code yX5_keys cX5_keys 5 (some .int), Cond.methodLink RX5 199 yX3_isSo, Cond.instanceMethod yX3_isSo, Cond.selects RX3 yX3_isSo yX3_isSo, Cond.code yX3_isSo cX3_isSo 6 (some .boolean), Cond.methodLink RX3 23 yX1_of, Cond.methodLink RX3 29 yX2_indexOf, Cond.methodLink RX3 35 yX2_looksFor, Cond.methodLink RL 112 yX6_keys, Cond.instanceMethod yX6_keys, Cond.selects RX6 yX6_keys yX6_keys]
def wsL_law_r29 : List Cond := [Cond.code yX6_keys cX6_keys 6 (some .int), Cond.fieldLink RX6 234 "ThreeGapsModel" "keyMany" "I", Cond.fieldLink RX6 237 "ThreeGapsModel" "keyFirst" "I", Cond.methodLink RL 113 yX5_rests, Cond.instanceMethod yX5_rests, Cond.selects RX5 yX5_rests yX5_rests, Cond.code yX5_rests cX5_rests 9 (some .int), Cond.methodLink RX5 203 yX5_isAtRest, Cond.instanceMethod yX5_isAtRest, Cond.selects RX5 yX5_isAtRest yX5_isAtRest, Cond.code yX5_isAtRest cX5_isAtRest 5 (some .boolean), Cond.methodLink RX5 239 yX5_gain, Cond.instanceMethod yX5_gain, Cond.selects RX5 yX5_gain yX5_gain, Cond.code yX5_gain cX5_gain 7 (some .int), Cond.methodLink RL 117 yX6_rests, Cond.instanceMethod yX6_rests, Cond.selects RX6 yX6_rests yX6_rests, Cond.code yX6_rests cX6_rests 8 (some .int), Cond.fieldLink RX6 248 "ThreeGapsModel" "restMany" "I", Cond.fieldLink RX6 251 "ThreeGapsModel" "restFirst" "I", Cond.methodLink RX6 244 yX6_layGains, Cond.instanceMethod yX6_layGains, Cond.selects RX6 yX6_layGains yX6_layGains]
def wsL_law_r30 : List Cond := [Cond.code yX6_layGains cX6_layGains 5 none, Cond.methodLink RX6 240 yX6_gain, Cond.instanceMethod yX6_gain, Cond.selects RX6 yX6_gain yX6_gain, Cond.code yX6_gain cX6_gain 4 (some .int), Cond.methodLink RL 118 yX5_lost, Cond.instanceMethod yX5_lost, Cond.selects RX5 yX5_lost yX5_lost, Cond.code yX5_lost cX5_lost 9 (some .int), Cond.methodLink RX5 207 yX5_weight, Cond.static yX5_weight, Cond.code yX5_weight cX5_weight 5 (some .int), Cond.methodLink RL 122 yX6_lost, Cond.instanceMethod yX6_lost, Cond.selects RX6 yX6_lost yX6_lost, Cond.code yX6_lost cX6_lost 10 (some .int), Cond.constantLong RX6 254 (9), Cond.constantLong RX6 256 (10), Cond.methodLink RX6 258 yX6_power, Cond.static yX6_power, Cond.code yX6_power cX6_power 4 (some .int), Cond.methodLink RL 123 yX5_seed, Cond.instanceMethod yX5_seed, Cond.selects RX5 yX5_seed yX5_seed]
def wsL_law_r31 : List Cond := [Cond.code yX5_seed cX5_seed 5 (some .long), Cond.methodLink RL 127 yX6_seed, Cond.instanceMethod yX6_seed, Cond.selects RX6 yX6_seed yX6_seed, Cond.code yX6_seed cX6_seed 5 (some .long), Cond.fieldLink RX6 261 "ThreeGapsModel" "seed" "J", Cond.methodLink RL 128 yX5_rounds, Cond.instanceMethod yX5_rounds, Cond.selects RX5 yX5_rounds yX5_rounds, Cond.code yX5_rounds cX5_rounds 7 (some .int), Cond.constantLong RX5 211 (6364136223846793005), Cond.constantLong RX5 213 (1442695040888963407), Cond.constantLong RX5 215 (200), Cond.methodLink RL 131 yX6_rounds, Cond.instanceMethod yX6_rounds, Cond.selects RX6 yX6_rounds yX6_rounds, Cond.code yX6_rounds cX6_rounds 6 (some .int), Cond.constantLong RX6 265 (30), Cond.constantLong RX6 267 (6364136223846793005), Cond.constantLong RX6 269 (1442695040888963407), Cond.constantLong RX6 271 (200), Cond.methodLink RL 132 yX5_keep, Cond.instanceMethod yX5_keep, Cond.selects RX5 yX5_keep yX5_keep]
def wsL_law_r32 : List Cond := [Cond.code yX5_keep cX5_keep 2 (some .int), Cond.methodLink RX5 217 yX5_isSlot, Cond.static yX5_isSlot, Cond.code yX5_isSlot cX5_isSlot 1 (some .boolean), Cond.methodLink RX5 220 yX1_items, Cond.instanceMethod yX1_items, Cond.selects RX1 yX1_items yX1_items, Cond.code yX1_items cX1_items 1 (some .int), Cond.fieldLink RX1 23 "ThreeGaps$Items" "size" "I", Cond.methodLink RL 135 yX6_keep, Cond.instanceMethod yX6_keep, Cond.selects RX6 yX6_keep yX6_keep, Cond.code yX6_keep cX6_keep 3 (some .int), Cond.methodLink RL 136 yX5_again, Cond.instanceMethod yX5_again, Cond.selects RX5 yX5_again yX5_again, Cond.code yX5_again cX5_again 2 (some .int), Cond.methodLink RL 139 yX6_again, Cond.instanceMethod yX6_again, Cond.selects RX6 yX6_again yX6_again, Cond.code yX6_again cX6_again 3 (some .int), Cond.methodLink RL 140 yX5_count, Cond.instanceMethod yX5_count, Cond.selects RX5 yX5_count yX5_count]
def wsL_law_r33 : List Cond := [Cond.code yX5_count cX5_count 2 (some .int), Cond.methodLink RL 143 yX6_count, Cond.instanceMethod yX6_count, Cond.selects RX6 yX6_count yX6_count, Cond.code yX6_count cX6_count 2 (some .int)]
def wsL_law : List Cond := (wsL_law_r1 ++ (wsL_law_r2 ++ (wsL_law_r3 ++ (wsL_law_r4 ++ (wsL_law_r5 ++ (wsL_law_r6 ++ (wsL_law_r7 ++ (wsL_law_r8 ++ (wsL_law_r9 ++ (wsL_law_r10 ++ (wsL_law_r11 ++ (wsL_law_r12 ++ (wsL_law_r13 ++ (wsL_law_r14 ++ (wsL_law_r15 ++ (wsL_law_r16 ++ (wsL_law_r17 ++ (wsL_law_r18 ++ (wsL_law_r19 ++ (wsL_law_r20 ++ (wsL_law_r21 ++ (wsL_law_r22 ++ (wsL_law_r23 ++ (wsL_law_r24 ++ (wsL_law_r25 ++ (wsL_law_r26 ++ (wsL_law_r27 ++ (wsL_law_r28 ++ (wsL_law_r29 ++ (wsL_law_r30 ++ (wsL_law_r31 ++ (wsL_law_r32 ++ wsL_law_r33)))))))))))))))))))))))))))))))) ++ wsX50 ++ wsX60 ++ wsX10 ++ wsX00 ++ wsX40 ++ wsX30 ++ wsX20 ++ ([] : List Cond)
theorem inlX0 : ∀ w ∈ wsX00, w ∈ wsL_law := fun _ h => List.mem_append_left _ (List.mem_append_left _ (List.mem_append_left _ (List.mem_append_left _ (List.mem_append_right _ h))))
theorem inlX1 : ∀ w ∈ wsX10, w ∈ wsL_law := fun _ h => List.mem_append_left _ (List.mem_append_left _ (List.mem_append_left _ (List.mem_append_left _ (List.mem_append_left _ (List.mem_append_right _ h)))))
theorem inlX2 : ∀ w ∈ wsX20, w ∈ wsL_law := fun _ h => List.mem_append_left _ (List.mem_append_right _ h)
theorem inlX3 : ∀ w ∈ wsX30, w ∈ wsL_law := fun _ h => List.mem_append_left _ (List.mem_append_left _ (List.mem_append_right _ h))
theorem inlX4 : ∀ w ∈ wsX40, w ∈ wsL_law := fun _ h => List.mem_append_left _ (List.mem_append_left _ (List.mem_append_left _ (List.mem_append_right _ h)))
theorem inlX5 : ∀ w ∈ wsX50, w ∈ wsL_law := fun _ h => List.mem_append_left _ (List.mem_append_left _ (List.mem_append_left _ (List.mem_append_left _ (List.mem_append_left _ (List.mem_append_left _ (List.mem_append_left _ (List.mem_append_right _ h)))))))
theorem inlX6 : ∀ w ∈ wsX60, w ∈ wsL_law := fun _ h => List.mem_append_left _ (List.mem_append_left _ (List.mem_append_left _ (List.mem_append_left _ (List.mem_append_left _ (List.mem_append_left _ (List.mem_append_right _ h))))))
abbrev vwCl : List vw_C := [(RX0, TX0, 3), (RX1, TX1, 2), (RX2, TX2, 4), (RX3, TX3, 4), (RX4, TX4, 3), (RX5, TX5, 8), (RX6, TX6, 31)]

