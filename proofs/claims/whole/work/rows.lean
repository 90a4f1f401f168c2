section
/-- a private method of a class that the tables say can be made, by its rows of tables_1 -/
def lw_okq (q : MethodName × Nat) : Prop := (q.1.cls ≠ "java/lang/invoke/MethodHandle" ∧ q.1.cls ≠ "java/lang/invoke/VarHandle") ∧ Cond.instantiable q.1.cls q.2 ∈ tables_1 ∧ Cond.privateMethod q.1 ∈ tables_1 ∧ Cond.instanceMethod q.1 ∈ tables_1
theorem lw_p0 : lw_okq (⟨"ThreeGaps$Text", "fits", "(I)Z"⟩, 3) := ⟨⟨by decide +kernel, by decide +kernel⟩, List.mem_of_getElem? (i := 79) (by decide +kernel), List.mem_of_getElem? (i := 162) (by decide +kernel), List.mem_of_getElem? (i := 163) (by decide +kernel)⟩
theorem lw_p1 : lw_okq (⟨"ThreeGaps$Text", "figure", "(I)I"⟩, 3) := ⟨⟨by decide +kernel, by decide +kernel⟩, List.mem_of_getElem? (i := 79) (by decide +kernel), List.mem_of_getElem? (i := 166) (by decide +kernel), List.mem_of_getElem? (i := 167) (by decide +kernel)⟩
theorem lw_p2 : lw_okq (⟨"ThreeGaps$Text", "takesHeight", "(I)Z"⟩, 3) := ⟨⟨by decide +kernel, by decide +kernel⟩, List.mem_of_getElem? (i := 79) (by decide +kernel), List.mem_of_getElem? (i := 170) (by decide +kernel), List.mem_of_getElem? (i := 171) (by decide +kernel)⟩
theorem lw_p3 : lw_okq (⟨"ThreeGaps$Text", "isClosed", "()Z"⟩, 3) := ⟨⟨by decide +kernel, by decide +kernel⟩, List.mem_of_getElem? (i := 79) (by decide +kernel), List.mem_of_getElem? (i := 174) (by decide +kernel), List.mem_of_getElem? (i := 175) (by decide +kernel)⟩
theorem lw_p4 : lw_okq (⟨"ThreeGaps$Items", "openAt", "(IIII)V"⟩, 4) := ⟨⟨by decide +kernel, by decide +kernel⟩, List.mem_of_getElem? (i := 26) (by decide +kernel), List.mem_of_getElem? (i := 215) (by decide +kernel), List.mem_of_getElem? (i := 216) (by decide +kernel)⟩
theorem lw_p5 : lw_okq (⟨"ThreeGaps$Items", "partIfFull", "(II)V"⟩, 4) := ⟨⟨by decide +kernel, by decide +kernel⟩, List.mem_of_getElem? (i := 26) (by decide +kernel), List.mem_of_getElem? (i := 250) (by decide +kernel), List.mem_of_getElem? (i := 251) (by decide +kernel)⟩
theorem lw_p6 : lw_okq (⟨"ThreeGaps$Items", "countOf", "(III)I"⟩, 4) := ⟨⟨by decide +kernel, by decide +kernel⟩, List.mem_of_getElem? (i := 26) (by decide +kernel), List.mem_of_getElem? (i := 263) (by decide +kernel), List.mem_of_getElem? (i := 264) (by decide +kernel)⟩
theorem lw_p7 : lw_okq (⟨"ThreeGaps$Items", "nth", "(IIII)I"⟩, 4) := ⟨⟨by decide +kernel, by decide +kernel⟩, List.mem_of_getElem? (i := 26) (by decide +kernel), List.mem_of_getElem? (i := 267) (by decide +kernel), List.mem_of_getElem? (i := 268) (by decide +kernel)⟩
theorem lw_p8 : lw_okq (⟨"ThreeGaps$Items", "raise", "(I)V"⟩, 4) := ⟨⟨by decide +kernel, by decide +kernel⟩, List.mem_of_getElem? (i := 26) (by decide +kernel), List.mem_of_getElem? (i := 271) (by decide +kernel), List.mem_of_getElem? (i := 272) (by decide +kernel)⟩
theorem lw_p9 : lw_okq (⟨"ThreeGaps$Items", "changePlaces", "(I)V"⟩, 4) := ⟨⟨by decide +kernel, by decide +kernel⟩, List.mem_of_getElem? (i := 26) (by decide +kernel), List.mem_of_getElem? (i := 284) (by decide +kernel), List.mem_of_getElem? (i := 285) (by decide +kernel)⟩
theorem lw_p10 : lw_okq (⟨"ThreeGaps$Items", "helpIfPoor", "(II)V"⟩, 4) := ⟨⟨by decide +kernel, by decide +kernel⟩, List.mem_of_getElem? (i := 26) (by decide +kernel), List.mem_of_getElem? (i := 288) (by decide +kernel), List.mem_of_getElem? (i := 289) (by decide +kernel)⟩
theorem lw_p11 : lw_okq (⟨"ThreeGaps$Items", "helpFromBehind", "(II)V"⟩, 4) := ⟨⟨by decide +kernel, by decide +kernel⟩, List.mem_of_getElem? (i := 26) (by decide +kernel), List.mem_of_getElem? (i := 292) (by decide +kernel), List.mem_of_getElem? (i := 293) (by decide +kernel)⟩
theorem lw_p12 : lw_okq (⟨"ThreeGaps$Items", "helpFromAhead", "(II)V"⟩, 4) := ⟨⟨by decide +kernel, by decide +kernel⟩, List.mem_of_getElem? (i := 26) (by decide +kernel), List.mem_of_getElem? (i := 296) (by decide +kernel), List.mem_of_getElem? (i := 297) (by decide +kernel)⟩
theorem lw_p13 : lw_okq (⟨"ThreeGaps$Items", "closeAt", "(I)V"⟩, 4) := ⟨⟨by decide +kernel, by decide +kernel⟩, List.mem_of_getElem? (i := 26) (by decide +kernel), List.mem_of_getElem? (i := 300) (by decide +kernel), List.mem_of_getElem? (i := 301) (by decide +kernel)⟩
theorem lw_p14 : lw_okq (⟨"ThreeGaps", "tryOn", "(I)LThreeGaps$Items;"⟩, 8) := ⟨⟨by decide +kernel, by decide +kernel⟩, List.mem_of_getElem? (i := 12) (by decide +kernel), List.mem_of_getElem? (i := 385) (by decide +kernel), List.mem_of_getElem? (i := 386) (by decide +kernel)⟩
theorem lw_p15 : lw_okq (⟨"ThreeGaps", "isWorthTrying", "(II)Z"⟩, 8) := ⟨⟨by decide +kernel, by decide +kernel⟩, List.mem_of_getElem? (i := 12) (by decide +kernel), List.mem_of_getElem? (i := 398) (by decide +kernel), List.mem_of_getElem? (i := 399) (by decide +kernel)⟩
def lw_privs_1 : List (MethodName × Nat) := [(⟨"ThreeGaps$Text", "fits", "(I)Z"⟩, 3), (⟨"ThreeGaps$Text", "figure", "(I)I"⟩, 3), (⟨"ThreeGaps$Text", "takesHeight", "(I)Z"⟩, 3), (⟨"ThreeGaps$Text", "isClosed", "()Z"⟩, 3), (⟨"ThreeGaps$Items", "openAt", "(IIII)V"⟩, 4), (⟨"ThreeGaps$Items", "partIfFull", "(II)V"⟩, 4), (⟨"ThreeGaps$Items", "countOf", "(III)I"⟩, 4), (⟨"ThreeGaps$Items", "nth", "(IIII)I"⟩, 4), (⟨"ThreeGaps$Items", "raise", "(I)V"⟩, 4), (⟨"ThreeGaps$Items", "changePlaces", "(I)V"⟩, 4), (⟨"ThreeGaps$Items", "helpIfPoor", "(II)V"⟩, 4), (⟨"ThreeGaps$Items", "helpFromBehind", "(II)V"⟩, 4), (⟨"ThreeGaps$Items", "helpFromAhead", "(II)V"⟩, 4), (⟨"ThreeGaps$Items", "closeAt", "(I)V"⟩, 4), (⟨"ThreeGaps", "tryOn", "(I)LThreeGaps$Items;"⟩, 8), (⟨"ThreeGaps", "isWorthTrying", "(II)Z"⟩, 8)]
theorem lw_r1 : ∀ q ∈ lw_privs_1, lw_okq q := List.forall_mem_cons.mpr ⟨lw_p0, List.forall_mem_cons.mpr ⟨lw_p1, List.forall_mem_cons.mpr ⟨lw_p2, List.forall_mem_cons.mpr ⟨lw_p3, List.forall_mem_cons.mpr ⟨lw_p4, List.forall_mem_cons.mpr ⟨lw_p5, List.forall_mem_cons.mpr ⟨lw_p6, List.forall_mem_cons.mpr ⟨lw_p7, List.forall_mem_cons.mpr ⟨lw_p8, List.forall_mem_cons.mpr ⟨lw_p9, List.forall_mem_cons.mpr ⟨lw_p10, List.forall_mem_cons.mpr ⟨lw_p11, List.forall_mem_cons.mpr ⟨lw_p12, List.forall_mem_cons.mpr ⟨lw_p13, List.forall_mem_cons.mpr ⟨lw_p14, List.forall_mem_cons.mpr ⟨lw_p15, fun _ h => absurd h List.not_mem_nil⟩⟩⟩⟩⟩⟩⟩⟩⟩⟩⟩⟩⟩⟩⟩⟩
theorem lw_p16 : lw_okq (⟨"ThreeGaps", "looksWith", "(II)I"⟩, 8) := ⟨⟨by decide +kernel, by decide +kernel⟩, List.mem_of_getElem? (i := 12) (by decide +kernel), List.mem_of_getElem? (i := 402) (by decide +kernel), List.mem_of_getElem? (i := 403) (by decide +kernel)⟩
theorem lw_p17 : lw_okq (⟨"ThreeGaps", "canBe", "(I)Z"⟩, 8) := ⟨⟨by decide +kernel, by decide +kernel⟩, List.mem_of_getElem? (i := 12) (by decide +kernel), List.mem_of_getElem? (i := 412) (by decide +kernel), List.mem_of_getElem? (i := 413) (by decide +kernel)⟩
theorem lw_p18 : lw_okq (⟨"ThreeGaps", "chanced", "(I)I"⟩, 8) := ⟨⟨by decide +kernel, by decide +kernel⟩, List.mem_of_getElem? (i := 12) (by decide +kernel), List.mem_of_getElem? (i := 420) (by decide +kernel), List.mem_of_getElem? (i := 421) (by decide +kernel)⟩
theorem lw_p19 : lw_okq (⟨"ThreeGaps", "without", "(II)LThreeGaps$Items;"⟩, 8) := ⟨⟨by decide +kernel, by decide +kernel⟩, List.mem_of_getElem? (i := 12) (by decide +kernel), List.mem_of_getElem? (i := 425) (by decide +kernel), List.mem_of_getElem? (i := 426) (by decide +kernel)⟩
theorem lw_p20 : lw_okq (⟨"ThreeGaps", "isAtRest", "(IIII)Z"⟩, 8) := ⟨⟨by decide +kernel, by decide +kernel⟩, List.mem_of_getElem? (i := 12) (by decide +kernel), List.mem_of_getElem? (i := 479) (by decide +kernel), List.mem_of_getElem? (i := 480) (by decide +kernel)⟩
theorem lw_p21 : lw_okq (⟨"ThreeGaps", "gain", "(IIIII)I"⟩, 8) := ⟨⟨by decide +kernel, by decide +kernel⟩, List.mem_of_getElem? (i := 12) (by decide +kernel), List.mem_of_getElem? (i := 483) (by decide +kernel), List.mem_of_getElem? (i := 484) (by decide +kernel)⟩
theorem lw_p22 : lw_okq (⟨"ThreeGapsModel", "readShape", "()I"⟩, 31) := ⟨⟨by decide +kernel, by decide +kernel⟩, List.mem_of_getElem? (i := 524) (by decide +kernel), List.mem_of_getElem? (i := 639) (by decide +kernel), List.mem_of_getElem? (i := 640) (by decide +kernel)⟩
theorem lw_p23 : lw_okq (⟨"ThreeGapsModel", "readItem", "()Z"⟩, 31) := ⟨⟨by decide +kernel, by decide +kernel⟩, List.mem_of_getElem? (i := 524) (by decide +kernel), List.mem_of_getElem? (i := 643) (by decide +kernel), List.mem_of_getElem? (i := 644) (by decide +kernel)⟩
theorem lw_p24 : lw_okq (⟨"ThreeGapsModel", "figure", "(II)I"⟩, 31) := ⟨⟨by decide +kernel, by decide +kernel⟩, List.mem_of_getElem? (i := 524) (by decide +kernel), List.mem_of_getElem? (i := 647) (by decide +kernel), List.mem_of_getElem? (i := 648) (by decide +kernel)⟩
theorem lw_p25 : lw_okq (⟨"ThreeGapsModel", "mayCome", "(I)Z"⟩, 31) := ⟨⟨by decide +kernel, by decide +kernel⟩, List.mem_of_getElem? (i := 524) (by decide +kernel), List.mem_of_getElem? (i := 651) (by decide +kernel), List.mem_of_getElem? (i := 652) (by decide +kernel)⟩
theorem lw_p26 : lw_okq (⟨"ThreeGapsModel", "note", "()V"⟩, 31) := ⟨⟨by decide +kernel, by decide +kernel⟩, List.mem_of_getElem? (i := 524) (by decide +kernel), List.mem_of_getElem? (i := 662) (by decide +kernel), List.mem_of_getElem? (i := 663) (by decide +kernel)⟩
theorem lw_p27 : lw_okq (⟨"ThreeGapsModel", "goPut", "([IIII)Z"⟩, 31) := ⟨⟨by decide +kernel, by decide +kernel⟩, List.mem_of_getElem? (i := 524) (by decide +kernel), List.mem_of_getElem? (i := 678) (by decide +kernel), List.mem_of_getElem? (i := 679) (by decide +kernel)⟩
theorem lw_p28 : lw_okq (⟨"ThreeGapsModel", "goNew", "([IIII)V"⟩, 31) := ⟨⟨by decide +kernel, by decide +kernel⟩, List.mem_of_getElem? (i := 524) (by decide +kernel), List.mem_of_getElem? (i := 682) (by decide +kernel), List.mem_of_getElem? (i := 683) (by decide +kernel)⟩
theorem lw_p29 : lw_okq (⟨"ThreeGapsModel", "layGap", "([IIIII)V"⟩, 31) := ⟨⟨by decide +kernel, by decide +kernel⟩, List.mem_of_getElem? (i := 524) (by decide +kernel), List.mem_of_getElem? (i := 692) (by decide +kernel), List.mem_of_getElem? (i := 693) (by decide +kernel)⟩
theorem lw_p30 : lw_okq (⟨"ThreeGapsModel", "goRemove", "([III)I"⟩, 31) := ⟨⟨by decide +kernel, by decide +kernel⟩, List.mem_of_getElem? (i := 524) (by decide +kernel), List.mem_of_getElem? (i := 709) (by decide +kernel), List.mem_of_getElem? (i := 710) (by decide +kernel)⟩
theorem lw_p31 : lw_okq (⟨"ThreeGapsModel", "help", "([III)V"⟩, 31) := ⟨⟨by decide +kernel, by decide +kernel⟩, List.mem_of_getElem? (i := 524) (by decide +kernel), List.mem_of_getElem? (i := 713) (by decide +kernel), List.mem_of_getElem? (i := 714) (by decide +kernel)⟩
def lw_privs_2 : List (MethodName × Nat) := [(⟨"ThreeGaps", "looksWith", "(II)I"⟩, 8), (⟨"ThreeGaps", "canBe", "(I)Z"⟩, 8), (⟨"ThreeGaps", "chanced", "(I)I"⟩, 8), (⟨"ThreeGaps", "without", "(II)LThreeGaps$Items;"⟩, 8), (⟨"ThreeGaps", "isAtRest", "(IIII)Z"⟩, 8), (⟨"ThreeGaps", "gain", "(IIIII)I"⟩, 8), (⟨"ThreeGapsModel", "readShape", "()I"⟩, 31), (⟨"ThreeGapsModel", "readItem", "()Z"⟩, 31), (⟨"ThreeGapsModel", "figure", "(II)I"⟩, 31), (⟨"ThreeGapsModel", "mayCome", "(I)Z"⟩, 31), (⟨"ThreeGapsModel", "note", "()V"⟩, 31), (⟨"ThreeGapsModel", "goPut", "([IIII)Z"⟩, 31), (⟨"ThreeGapsModel", "goNew", "([IIII)V"⟩, 31), (⟨"ThreeGapsModel", "layGap", "([IIIII)V"⟩, 31), (⟨"ThreeGapsModel", "goRemove", "([III)I"⟩, 31), (⟨"ThreeGapsModel", "help", "([III)V"⟩, 31)]
theorem lw_r2 : ∀ q ∈ lw_privs_2, lw_okq q := List.forall_mem_cons.mpr ⟨lw_p16, List.forall_mem_cons.mpr ⟨lw_p17, List.forall_mem_cons.mpr ⟨lw_p18, List.forall_mem_cons.mpr ⟨lw_p19, List.forall_mem_cons.mpr ⟨lw_p20, List.forall_mem_cons.mpr ⟨lw_p21, List.forall_mem_cons.mpr ⟨lw_p22, List.forall_mem_cons.mpr ⟨lw_p23, List.forall_mem_cons.mpr ⟨lw_p24, List.forall_mem_cons.mpr ⟨lw_p25, List.forall_mem_cons.mpr ⟨lw_p26, List.forall_mem_cons.mpr ⟨lw_p27, List.forall_mem_cons.mpr ⟨lw_p28, List.forall_mem_cons.mpr ⟨lw_p29, List.forall_mem_cons.mpr ⟨lw_p30, List.forall_mem_cons.mpr ⟨lw_p31, fun _ h => absurd h List.not_mem_nil⟩⟩⟩⟩⟩⟩⟩⟩⟩⟩⟩⟩⟩⟩⟩⟩
theorem lw_p32 : lw_okq (⟨"ThreeGapsModel", "inRange", "(IIIIZ)I"⟩, 31) := ⟨⟨by decide +kernel, by decide +kernel⟩, List.mem_of_getElem? (i := 524) (by decide +kernel), List.mem_of_getElem? (i := 721) (by decide +kernel), List.mem_of_getElem? (i := 722) (by decide +kernel)⟩
theorem lw_p33 : lw_okq (⟨"ThreeGapsModel", "allLooks", "([II)I"⟩, 31) := ⟨⟨by decide +kernel, by decide +kernel⟩, List.mem_of_getElem? (i := 524) (by decide +kernel), List.mem_of_getElem? (i := 736) (by decide +kernel), List.mem_of_getElem? (i := 737) (by decide +kernel)⟩
theorem lw_p34 : lw_okq (⟨"ThreeGapsModel", "search", "([III)I"⟩, 31) := ⟨⟨by decide +kernel, by decide +kernel⟩, List.mem_of_getElem? (i := 524) (by decide +kernel), List.mem_of_getElem? (i := 740) (by decide +kernel), List.mem_of_getElem? (i := 741) (by decide +kernel)⟩
theorem lw_p35 : lw_okq (⟨"ThreeGapsModel", "begin", "()V"⟩, 31) := ⟨⟨by decide +kernel, by decide +kernel⟩, List.mem_of_getElem? (i := 524) (by decide +kernel), List.mem_of_getElem? (i := 780) (by decide +kernel), List.mem_of_getElem? (i := 781) (by decide +kernel)⟩
theorem lw_p36 : lw_okq (⟨"ThreeGapsModel", "otherHeights", "(II)I"⟩, 31) := ⟨⟨by decide +kernel, by decide +kernel⟩, List.mem_of_getElem? (i := 524) (by decide +kernel), List.mem_of_getElem? (i := 784) (by decide +kernel), List.mem_of_getElem? (i := 785) (by decide +kernel)⟩
theorem lw_p37 : lw_okq (⟨"ThreeGapsModel", "findBest", "(I)V"⟩, 31) := ⟨⟨by decide +kernel, by decide +kernel⟩, List.mem_of_getElem? (i := 524) (by decide +kernel), List.mem_of_getElem? (i := 792) (by decide +kernel), List.mem_of_getElem? (i := 793) (by decide +kernel)⟩
theorem lw_p38 : lw_okq (⟨"ThreeGapsModel", "does", "(I)Z"⟩, 31) := ⟨⟨by decide +kernel, by decide +kernel⟩, List.mem_of_getElem? (i := 524) (by decide +kernel), List.mem_of_getElem? (i := 805) (by decide +kernel), List.mem_of_getElem? (i := 806) (by decide +kernel)⟩
theorem lw_p39 : lw_okq (⟨"ThreeGapsModel", "removes", "(II)Z"⟩, 31) := ⟨⟨by decide +kernel, by decide +kernel⟩, List.mem_of_getElem? (i := 524) (by decide +kernel), List.mem_of_getElem? (i := 809) (by decide +kernel), List.mem_of_getElem? (i := 810) (by decide +kernel)⟩
theorem lw_p40 : lw_okq (⟨"ThreeGapsModel", "few", "(I)I"⟩, 31) := ⟨⟨by decide +kernel, by decide +kernel⟩, List.mem_of_getElem? (i := 524) (by decide +kernel), List.mem_of_getElem? (i := 817) (by decide +kernel), List.mem_of_getElem? (i := 818) (by decide +kernel)⟩
theorem lw_p41 : lw_okq (⟨"ThreeGapsModel", "without", "(II)V"⟩, 31) := ⟨⟨by decide +kernel, by decide +kernel⟩, List.mem_of_getElem? (i := 524) (by decide +kernel), List.mem_of_getElem? (i := 821) (by decide +kernel), List.mem_of_getElem? (i := 822) (by decide +kernel)⟩
theorem lw_p42 : lw_okq (⟨"ThreeGapsModel", "layGains", "(III)V"⟩, 31) := ⟨⟨by decide +kernel, by decide +kernel⟩, List.mem_of_getElem? (i := 524) (by decide +kernel), List.mem_of_getElem? (i := 857) (by decide +kernel), List.mem_of_getElem? (i := 858) (by decide +kernel)⟩
theorem lw_p43 : lw_okq (⟨"ThreeGapsModel", "gain", "(III)I"⟩, 31) := ⟨⟨by decide +kernel, by decide +kernel⟩, List.mem_of_getElem? (i := 524) (by decide +kernel), List.mem_of_getElem? (i := 861) (by decide +kernel), List.mem_of_getElem? (i := 862) (by decide +kernel)⟩
def lw_privs_3 : List (MethodName × Nat) := [(⟨"ThreeGapsModel", "inRange", "(IIIIZ)I"⟩, 31), (⟨"ThreeGapsModel", "allLooks", "([II)I"⟩, 31), (⟨"ThreeGapsModel", "search", "([III)I"⟩, 31), (⟨"ThreeGapsModel", "begin", "()V"⟩, 31), (⟨"ThreeGapsModel", "otherHeights", "(II)I"⟩, 31), (⟨"ThreeGapsModel", "findBest", "(I)V"⟩, 31), (⟨"ThreeGapsModel", "does", "(I)Z"⟩, 31), (⟨"ThreeGapsModel", "removes", "(II)Z"⟩, 31), (⟨"ThreeGapsModel", "few", "(I)I"⟩, 31), (⟨"ThreeGapsModel", "without", "(II)V"⟩, 31), (⟨"ThreeGapsModel", "layGains", "(III)V"⟩, 31), (⟨"ThreeGapsModel", "gain", "(III)I"⟩, 31)]
theorem lw_r3 : ∀ q ∈ lw_privs_3, lw_okq q := List.forall_mem_cons.mpr ⟨lw_p32, List.forall_mem_cons.mpr ⟨lw_p33, List.forall_mem_cons.mpr ⟨lw_p34, List.forall_mem_cons.mpr ⟨lw_p35, List.forall_mem_cons.mpr ⟨lw_p36, List.forall_mem_cons.mpr ⟨lw_p37, List.forall_mem_cons.mpr ⟨lw_p38, List.forall_mem_cons.mpr ⟨lw_p39, List.forall_mem_cons.mpr ⟨lw_p40, List.forall_mem_cons.mpr ⟨lw_p41, List.forall_mem_cons.mpr ⟨lw_p42, List.forall_mem_cons.mpr ⟨lw_p43, fun _ h => absurd h List.not_mem_nil⟩⟩⟩⟩⟩⟩⟩⟩⟩⟩⟩⟩
def lw_privs : List (MethodName × Nat) := lw_privs_1 ++ (lw_privs_2 ++ (lw_privs_3))
def lw_tbl : List Cond := k2_sels lw_privs ++ tables_1
theorem lw_privs_ok : ∀ q ∈ lw_privs, lw_okq q := by
  show ∀ q ∈ lw_privs_1 ++ (lw_privs_2 ++ (lw_privs_3)), lw_okq q
  exact List.forall_mem_append.mpr ⟨lw_r1, List.forall_mem_append.mpr ⟨lw_r2, lw_r3⟩⟩
theorem goodIn_r {big : List Cond} (ws : List Cond) (ps : List Nat) (hp : ws = ps.filterMap (fun i => big[i]?)) (h : ws.all goodWord = true) : GoodIn big ws := by
  intro w hw
  have h1 := List.all_eq_true.mp h w hw
  rw [hp] at hw
  obtain ⟨i, -, hi⟩ := List.mem_filterMap.mp hw
  have hm : w ∈ big := by first | exact List.mem_of_getElem? hi | exact List.getElem?_mem hi
  exact ⟨hm, good_of_word h1⟩
theorem goodIn_app {big a b : List Cond} (ha : GoodIn big a) (hb : GoodIn big b) : GoodIn big (a ++ b) := fun w h => (List.mem_append.mp h).elim (ha w) (hb w)
theorem goodIn_ca {big a b : List Cond} {c : Cond} (ha : GoodIn big (c :: a)) (hb : GoodIn big b) : GoodIn big (c :: (a ++ b)) := fun w h => (List.mem_cons.mp h).elim (fun e => ha w (List.mem_cons.mpr (Or.inl e))) (fun h => (List.mem_append.mp h).elim (fun h => ha w (List.mem_cons.mpr (Or.inr h))) (hb w))
theorem goodIn_sub {big ws : List Cond} (hm : ∀ w ∈ ws, w ∈ big) (h : ws.all goodWord = true) : GoodIn big ws := fun w hw => ⟨hm w hw, good_of_word (List.all_eq_true.mp h w hw)⟩
def RX0 : String := "ThreeGaps$Acts"
def TX0 : u_T := fun k => match k with
  | 0 => ("ThreeGaps$Acts", "before", "[LThreeGaps$Both;", true)
  | 1 => ("ThreeGaps$Acts", "next", "I", false)
  | _ => ("ThreeGaps$Acts", "held", "I", false)
def tyX0 : Nat → FieldType := fun k => match k with
  | 0 => .array (.object "ThreeGaps$Both")
  | 1 => .int
  | _ => .int
abbrev wsX00 : List Cond := u_ws RX0 TX0 3
theorem nmX0 : ∀ a, a < 3 → ∀ b, b < 3 → a ≠ b → (TX0 a).2.1 ≠ (TX0 b).2.1 := by decide +kernel
theorem tyX0_ok : ∀ k, k < 3 → parseFieldDescriptor (TX0 k).2.2.1 = some (tyX0 k) := by decide +kernel
abbrev cX0_init : ByteArray := prog_2_method_1_code
def yX0_init : MethodName := ⟨RX0, "<init>", "()V"⟩
abbrev cX0_remember : ByteArray := prog_2_method_2_code
def yX0_remember : MethodName := ⟨RX0, "remember", "(LThreeGaps$Both;)V"⟩
abbrev cX0_bringBack : ByteArray := prog_2_method_3_code
def yX0_bringBack : MethodName := ⟨RX0, "bringBack", "(LThreeGaps$Both;)Z"⟩
def RX1 : String := "ThreeGaps$Both"
def TX1 : u_T := fun k => match k with
  | 0 => ("ThreeGaps$Both", "zero", "LThreeGaps$Items;", true)
  | _ => ("ThreeGaps$Both", "one", "LThreeGaps$Items;", true)
def tyX1 : Nat → FieldType := fun k => match k with
  | 0 => .object "ThreeGaps$Items"
  | _ => .object "ThreeGaps$Items"
abbrev wsX10 : List Cond := u_ws RX1 TX1 2
theorem nmX1 : ∀ a, a < 2 → ∀ b, b < 2 → a ≠ b → (TX1 a).2.1 ≠ (TX1 b).2.1 := by decide +kernel
theorem tyX1_ok : ∀ k, k < 2 → parseFieldDescriptor (TX1 k).2.2.1 = some (tyX1 k) := by decide +kernel
abbrev cX1_init : ByteArray := prog_3_method_1_code
def yX1_init : MethodName := ⟨RX1, "<init>", "()V"⟩
abbrev cX1_of : ByteArray := prog_3_method_2_code
def yX1_of : MethodName := ⟨RX1, "of", "(I)LThreeGaps$Items;"⟩
abbrev cX1_copyFrom : ByteArray := prog_3_method_3_code
def yX1_copyFrom : MethodName := ⟨RX1, "copyFrom", "(LThreeGaps$Both;)V"⟩
abbrev cX1_items : ByteArray := prog_3_method_4_code
def yX1_items : MethodName := ⟨RX1, "items", "()I"⟩
def RX2 : String := "ThreeGaps$Items"
def TX2 : u_T := fun k => match k with
  | 0 => ("ThreeGaps$Items", "keys", "[I", true)
  | 1 => ("ThreeGaps$Items", "values", "[I", true)
  | 2 => ("ThreeGaps$Items", "heights", "[I", true)
  | _ => ("ThreeGaps$Items", "size", "I", false)
def tyX2 : Nat → FieldType := fun k => match k with
  | 0 => .array .int
  | 1 => .array .int
  | 2 => .array .int
  | _ => .int
abbrev wsX20 : List Cond := u_ws RX2 TX2 4
theorem nmX2 : ∀ a, a < 4 → ∀ b, b < 4 → a ≠ b → (TX2 a).2.1 ≠ (TX2 b).2.1 := by decide +kernel
theorem tyX2_ok : ∀ k, k < 4 → parseFieldDescriptor (TX2 k).2.2.1 = some (tyX2 k) := by decide +kernel
abbrev cX2_init : ByteArray := prog_4_method_1_code
def yX2_init : MethodName := ⟨RX2, "<init>", "()V"⟩
abbrev cX2_copyFrom : ByteArray := prog_4_method_2_code
def yX2_copyFrom : MethodName := ⟨RX2, "copyFrom", "(LThreeGaps$Items;)V"⟩
abbrev cX2_add : ByteArray := prog_4_method_3_code
def yX2_add : MethodName := ⟨RX2, "add", "(III)V"⟩
abbrev cX2_keyAt : ByteArray := prog_4_method_4_code
def yX2_keyAt : MethodName := ⟨RX2, "keyAt", "(I)I"⟩
abbrev cX2_lesser : ByteArray := prog_4_method_5_code
def yX2_lesser : MethodName := ⟨RX2, "lesser", "(I)I"⟩
abbrev cX2_indexOf : ByteArray := prog_4_method_6_code
def yX2_indexOf : MethodName := ⟨RX2, "indexOf", "(I)I"⟩
abbrev cX2_canTake : ByteArray := prog_4_method_7_code
def yX2_canTake : MethodName := ⟨RX2, "canTake", "(I)Z"⟩
abbrev cX2_top : ByteArray := prog_4_method_8_code
def yX2_top : MethodName := ⟨RX2, "top", "()I"⟩
abbrev cX2_allHeights : ByteArray := prog_4_method_9_code
def yX2_allHeights : MethodName := ⟨RX2, "allHeights", "()I"⟩
abbrev cX2_valuesWithin : ByteArray := prog_4_method_10_code
def yX2_valuesWithin : MethodName := ⟨RX2, "valuesWithin", "(II)I"⟩
abbrev cX2_ahead : ByteArray := prog_4_method_11_code
def yX2_ahead : MethodName := ⟨RX2, "ahead", "(II)I"⟩
abbrev cX2_behind : ByteArray := prog_4_method_12_code
def yX2_behind : MethodName := ⟨RX2, "behind", "(II)I"⟩
abbrev cX2_looksFor : ByteArray := prog_4_method_13_code
def yX2_looksFor : MethodName := ⟨RX2, "looksFor", "(I)I"⟩
abbrev cX2_allLooks : ByteArray := prog_4_method_14_code
def yX2_allLooks : MethodName := ⟨RX2, "allLooks", "()I"⟩
abbrev cX2_place : ByteArray := prog_4_method_15_code
def yX2_place : MethodName := ⟨RX2, "place", "(II)Z"⟩
abbrev cX2_takeOut : ByteArray := prog_4_method_16_code
def yX2_takeOut : MethodName := ⟨RX2, "takeOut", "(I)Z"⟩
abbrev cX2_newTo : ByteArray := prog_4_method_17_code
def yX2_newTo : MethodName := ⟨RX2, "newTo", "(LThreeGaps$Items;II)I"⟩
abbrev cX2_moveTo : ByteArray := prog_4_method_18_code
def yX2_moveTo : MethodName := ⟨RX2, "moveTo", "(LThreeGaps$Items;II)I"⟩
abbrev cX2_otherHeights : ByteArray := prog_4_method_19_code
def yX2_otherHeights : MethodName := ⟨RX2, "otherHeights", "(LThreeGaps$Items;I)I"⟩
abbrev cX2_partIfFull : ByteArray := prog_4_method_20_code
def yX2_partIfFull : MethodName := ⟨RX2, "partIfFull", "(II)V"⟩
abbrev cX2_helpIfPoor : ByteArray := prog_4_method_21_code
def yX2_helpIfPoor : MethodName := ⟨RX2, "helpIfPoor", "(II)V"⟩
abbrev cX2_helpFromBehind : ByteArray := prog_4_method_22_code
def yX2_helpFromBehind : MethodName := ⟨RX2, "helpFromBehind", "(II)V"⟩
abbrev cX2_helpFromAhead : ByteArray := prog_4_method_23_code
def yX2_helpFromAhead : MethodName := ⟨RX2, "helpFromAhead", "(II)V"⟩
abbrev cX2_countOf : ByteArray := prog_4_method_24_code
def yX2_countOf : MethodName := ⟨RX2, "countOf", "(III)I"⟩
abbrev cX2_nth : ByteArray := prog_4_method_25_code
def yX2_nth : MethodName := ⟨RX2, "nth", "(IIII)I"⟩
abbrev cX2_raise : ByteArray := prog_4_method_26_code
def yX2_raise : MethodName := ⟨RX2, "raise", "(I)V"⟩
abbrev cX2_changePlaces : ByteArray := prog_4_method_27_code
def yX2_changePlaces : MethodName := ⟨RX2, "changePlaces", "(I)V"⟩
abbrev cX2_openAt : ByteArray := prog_4_method_28_code
def yX2_openAt : MethodName := ⟨RX2, "openAt", "(IIII)V"⟩
abbrev cX2_closeAt : ByteArray := prog_4_method_29_code
def yX2_closeAt : MethodName := ⟨RX2, "closeAt", "(I)V"⟩
def RX3 : String := "ThreeGaps$Sought"
def TX3 : u_T := fun k => match k with
  | 0 => ("ThreeGaps$Sought", "maps", "[I", true)
  | 1 => ("ThreeGaps$Sought", "looked", "[I", true)
  | 2 => ("ThreeGaps$Sought", "found", "[I", true)
  | _ => ("ThreeGaps$Sought", "size", "I", false)
def tyX3 : Nat → FieldType := fun k => match k with
  | 0 => .array .int
  | 1 => .array .int
  | 2 => .array .int
  | _ => .int
abbrev wsX30 : List Cond := u_ws RX3 TX3 4
theorem nmX3 : ∀ a, a < 4 → ∀ b, b < 4 → a ≠ b → (TX3 a).2.1 ≠ (TX3 b).2.1 := by decide +kernel
theorem tyX3_ok : ∀ k, k < 4 → parseFieldDescriptor (TX3 k).2.2.1 = some (tyX3 k) := by decide +kernel
abbrev cX3_init : ByteArray := prog_5_method_1_code
def yX3_init : MethodName := ⟨RX3, "<init>", "()V"⟩
abbrev cX3_add : ByteArray := prog_5_method_2_code
def yX3_add : MethodName := ⟨RX3, "add", "(III)Z"⟩
abbrev cX3_isSo : ByteArray := prog_5_method_3_code
def yX3_isSo : MethodName := ⟨RX3, "isSo", "(LThreeGaps$Both;I)Z"⟩
def RX4 : String := "ThreeGaps$Text"
def TX4 : u_T := fun k => match k with
  | 0 => ("ThreeGaps$Text", "letters", "[I", true)
  | 1 => ("ThreeGaps$Text", "open", "[I", true)
  | _ => ("ThreeGaps$Text", "length", "I", false)
def tyX4 : Nat → FieldType := fun k => match k with
  | 0 => .array .int
  | 1 => .array .int
  | _ => .int
abbrev wsX40 : List Cond := u_ws RX4 TX4 3
theorem nmX4 : ∀ a, a < 3 → ∀ b, b < 3 → a ≠ b → (TX4 a).2.1 ≠ (TX4 b).2.1 := by decide +kernel
theorem tyX4_ok : ∀ k, k < 3 → parseFieldDescriptor (TX4 k).2.2.1 = some (tyX4 k) := by decide +kernel
abbrev cX4_init : ByteArray := prog_6_method_1_code
def yX4_init : MethodName := ⟨RX4, "<init>", "()V"⟩
abbrev cX4_append : ByteArray := prog_6_method_2_code
def yX4_append : MethodName := ⟨RX4, "append", "(I)Z"⟩
abbrev cX4_firstFault : ByteArray := prog_6_method_3_code
def yX4_firstFault : MethodName := ⟨RX4, "firstFault", "()I"⟩
abbrev cX4_tellTo : ByteArray := prog_6_method_4_code
def yX4_tellTo : MethodName := ⟨RX4, "tellTo", "(LThreeGaps$Items;)V"⟩
abbrev cX4_fits : ByteArray := prog_6_method_5_code
def yX4_fits : MethodName := ⟨RX4, "fits", "(I)Z"⟩
abbrev cX4_figure : ByteArray := prog_6_method_6_code
def yX4_figure : MethodName := ⟨RX4, "figure", "(I)I"⟩
abbrev cX4_takesHeight : ByteArray := prog_6_method_7_code
def yX4_takesHeight : MethodName := ⟨RX4, "takesHeight", "(I)Z"⟩
abbrev cX4_isClosed : ByteArray := prog_6_method_8_code
def yX4_isClosed : MethodName := ⟨RX4, "isClosed", "()Z"⟩
def RX5 : String := "ThreeGaps"
def TX5 : u_T := fun k => match k with
  | 0 => ("ThreeGaps", "now", "LThreeGaps$Both;", true)
  | 1 => ("ThreeGaps", "trial", "LThreeGaps$Both;", true)
  | 2 => ("ThreeGaps", "acts", "LThreeGaps$Acts;", true)
  | 3 => ("ThreeGaps", "text", "LThreeGaps$Text;", true)
  | 4 => ("ThreeGaps", "sought", "LThreeGaps$Sought;", true)
  | 5 => ("ThreeGaps", "slots", "[LThreeGaps$Both;", true)
  | 6 => ("ThreeGaps", "kept", "[Z", true)
  | _ => ("ThreeGaps", "theSeed", "J", false)
def tyX5 : Nat → FieldType := fun k => match k with
  | 0 => .object "ThreeGaps$Both"
  | 1 => .object "ThreeGaps$Both"
  | 2 => .object "ThreeGaps$Acts"
  | 3 => .object "ThreeGaps$Text"
  | 4 => .object "ThreeGaps$Sought"
  | 5 => .array (.object "ThreeGaps$Both")
  | 6 => .array .boolean
  | _ => .long
abbrev wsX50 : List Cond := u_ws RX5 TX5 8
theorem nmX5 : ∀ a, a < 8 → ∀ b, b < 8 → a ≠ b → (TX5 a).2.1 ≠ (TX5 b).2.1 := by decide +kernel
theorem tyX5_ok : ∀ k, k < 8 → parseFieldDescriptor (TX5 k).2.2.1 = some (tyX5 k) := by decide +kernel
abbrev cX5_init : ByteArray := prog_1_method_1_code
def yX5_init : MethodName := ⟨RX5, "<init>", "()V"⟩
abbrev cX5_write : ByteArray := prog_1_method_2_code
def yX5_write : MethodName := ⟨RX5, "write", "(I)I"⟩
abbrev cX5_wipe : ByteArray := prog_1_method_3_code
def yX5_wipe : MethodName := ⟨RX5, "wipe", "()I"⟩
abbrev cX5_fault : ByteArray := prog_1_method_4_code
def yX5_fault : MethodName := ⟨RX5, "fault", "()I"⟩
abbrev cX5_shape : ByteArray := prog_1_method_5_code
def yX5_shape : MethodName := ⟨RX5, "shape", "(I)I"⟩
abbrev cX5_put : ByteArray := prog_1_method_6_code
def yX5_put : MethodName := ⟨RX5, "put", "(III)I"⟩
abbrev cX5_remove : ByteArray := prog_1_method_7_code
def yX5_remove : MethodName := ⟨RX5, "remove", "(II)I"⟩
abbrev cX5_cut : ByteArray := prog_1_method_8_code
def yX5_cut : MethodName := ⟨RX5, "cut", "(III)I"⟩
abbrev cX5_undo : ByteArray := prog_1_method_9_code
def yX5_undo : MethodName := ⟨RX5, "undo", "()I"⟩
abbrev cX5_about : ByteArray := prog_1_method_10_code
def yX5_about : MethodName := ⟨RX5, "about", "(II)I"⟩
abbrev cX5_item : ByteArray := prog_1_method_11_code
def yX5_item : MethodName := ⟨RX5, "item", "(III)I"⟩
abbrev cX5_get : ByteArray := prog_1_method_12_code
def yX5_get : MethodName := ⟨RX5, "get", "(II)I"⟩
abbrev cX5_span : ByteArray := prog_1_method_13_code
def yX5_span : MethodName := ⟨RX5, "span", "(III)I"⟩
abbrev cX5_rank : ByteArray := prog_1_method_14_code
def yX5_rank : MethodName := ⟨RX5, "rank", "(II)I"⟩
abbrev cX5_near : ByteArray := prog_1_method_15_code
def yX5_near : MethodName := ⟨RX5, "near", "(III)I"⟩
abbrev cX5_looks : ByteArray := prog_1_method_16_code
def yX5_looks : MethodName := ⟨RX5, "looks", "(II)I"⟩
abbrev cX5_sum : ByteArray := prog_1_method_17_code
def yX5_sum : MethodName := ⟨RX5, "sum", "(III)I"⟩
abbrev cX5_would : ByteArray := prog_1_method_18_code
def yX5_would : MethodName := ⟨RX5, "would", "(III)I"⟩
abbrev cX5_best : ByteArray := prog_1_method_19_code
def yX5_best : MethodName := ⟨RX5, "best", "(II)I"⟩
abbrev cX5_judge : ByteArray := prog_1_method_20_code
def yX5_judge : MethodName := ⟨RX5, "judge", "(IJ)I"⟩
abbrev cX5_share : ByteArray := prog_1_method_21_code
def yX5_share : MethodName := ⟨RX5, "share", "(IIZ)I"⟩
abbrev cX5_seek : ByteArray := prog_1_method_22_code
def yX5_seek : MethodName := ⟨RX5, "seek", "(III)I"⟩
abbrev cX5_unseek : ByteArray := prog_1_method_23_code
def yX5_unseek : MethodName := ⟨RX5, "unseek", "()I"⟩
abbrev cX5_keys : ByteArray := prog_1_method_24_code
def yX5_keys : MethodName := ⟨RX5, "keys", "(I)I"⟩
abbrev cX5_rests : ByteArray := prog_1_method_25_code
def yX5_rests : MethodName := ⟨RX5, "rests", "(IIII)I"⟩
abbrev cX5_lost : ByteArray := prog_1_method_26_code
def yX5_lost : MethodName := ⟨RX5, "lost", "(IIIZ)I"⟩
abbrev cX5_seed : ByteArray := prog_1_method_27_code
def yX5_seed : MethodName := ⟨RX5, "seed", "(J)J"⟩
abbrev cX5_rounds : ByteArray := prog_1_method_28_code
def yX5_rounds : MethodName := ⟨RX5, "rounds", "(II)I"⟩
abbrev cX5_keep : ByteArray := prog_1_method_29_code
def yX5_keep : MethodName := ⟨RX5, "keep", "(I)I"⟩
abbrev cX5_again : ByteArray := prog_1_method_30_code
def yX5_again : MethodName := ⟨RX5, "again", "(I)I"⟩
abbrev cX5_count : ByteArray := prog_1_method_31_code
def yX5_count : MethodName := ⟨RX5, "count", "(I)I"⟩
abbrev cX5_isMap : ByteArray := prog_1_method_32_code
def yX5_isMap : MethodName := ⟨RX5, "isMap", "(I)Z"⟩
abbrev cX5_isKey : ByteArray := prog_1_method_33_code
def yX5_isKey : MethodName := ⟨RX5, "isKey", "(I)Z"⟩
abbrev cX5_isSlot : ByteArray := prog_1_method_34_code
def yX5_isSlot : MethodName := ⟨RX5, "isSlot", "(I)Z"⟩
abbrev cX5_tryOn : ByteArray := prog_1_method_35_code
def yX5_tryOn : MethodName := ⟨RX5, "tryOn", "(I)LThreeGaps$Items;"⟩
abbrev cX5_isWorthTrying : ByteArray := prog_1_method_36_code
def yX5_isWorthTrying : MethodName := ⟨RX5, "isWorthTrying", "(II)Z"⟩
abbrev cX5_looksWith : ByteArray := prog_1_method_37_code
def yX5_looksWith : MethodName := ⟨RX5, "looksWith", "(II)I"⟩
abbrev cX5_canBe : ByteArray := prog_1_method_38_code
def yX5_canBe : MethodName := ⟨RX5, "canBe", "(I)Z"⟩
abbrev cX5_chanced : ByteArray := prog_1_method_39_code
def yX5_chanced : MethodName := ⟨RX5, "chanced", "(I)I"⟩
abbrev cX5_without : ByteArray := prog_1_method_40_code
def yX5_without : MethodName := ⟨RX5, "without", "(II)LThreeGaps$Items;"⟩
abbrev cX5_ordersAround : ByteArray := prog_1_method_41_code
def yX5_ordersAround : MethodName := ⟨RX5, "ordersAround", "(II)I"⟩
abbrev cX5_factorial : ByteArray := prog_1_method_42_code
def yX5_factorial : MethodName := ⟨RX5, "factorial", "(I)I"⟩
abbrev cX5_weight : ByteArray := prog_1_method_43_code
def yX5_weight : MethodName := ⟨RX5, "weight", "(III)I"⟩
abbrev cX5_fraction : ByteArray := prog_1_method_44_code
def yX5_fraction : MethodName := ⟨RX5, "fraction", "(IIZ)I"⟩
abbrev cX5_commonDivisor : ByteArray := prog_1_method_45_code
def yX5_commonDivisor : MethodName := ⟨RX5, "commonDivisor", "(II)I"⟩
abbrev cX5_isAtRest : ByteArray := prog_1_method_46_code
def yX5_isAtRest : MethodName := ⟨RX5, "isAtRest", "(IIII)Z"⟩
abbrev cX5_gain : ByteArray := prog_1_method_47_code
def yX5_gain : MethodName := ⟨RX5, "gain", "(IIIII)I"⟩
def RX6 : String := "ThreeGapsModel"
def TX6 : u_T := fun k => match k with
  | 0 => ("ThreeGapsModel", "thrown", "I", false)
  | 1 => ("ThreeGapsModel", "text", "[I", true)
  | 2 => ("ThreeGapsModel", "textSize", "I", false)
  | 3 => ("ThreeGapsModel", "place", "I", false)
  | 4 => ("ThreeGapsModel", "open", "[I", true)
  | 5 => ("ThreeGapsModel", "readMany", "I", false)
  | 6 => ("ThreeGapsModel", "readHigh", "I", false)
  | 7 => ("ThreeGapsModel", "readMap", "[I", true)
  | 8 => ("ThreeGapsModel", "page", "[I", true)
  | 9 => ("ThreeGapsModel", "trial", "[I", true)
  | 10 => ("ThreeGapsModel", "book", "[I", true)
  | 11 => ("ThreeGapsModel", "acts", "I", false)
  | 12 => ("ThreeGapsModel", "kept", "[I", true)
  | 13 => ("ThreeGapsModel", "isKept", "[Z", true)
  | 14 => ("ThreeGapsModel", "sought", "I", false)
  | 15 => ("ThreeGapsModel", "soughtMap", "[I", true)
  | 16 => ("ThreeGapsModel", "soughtLooks", "[I", true)
  | 17 => ("ThreeGapsModel", "soughtIs", "[I", true)
  | 18 => ("ThreeGapsModel", "seed", "J", false)
  | 19 => ("ThreeGapsModel", "lookMany", "I", false)
  | 20 => ("ThreeGapsModel", "isFound", "Z", false)
  | 21 => ("ThreeGapsModel", "gapLeft", "I", false)
  | 22 => ("ThreeGapsModel", "gapRight", "I", false)
  | 23 => ("ThreeGapsModel", "bestKey", "I", false)
  | 24 => ("ThreeGapsModel", "bestMany", "I", false)
  | 25 => ("ThreeGapsModel", "keyMany", "I", false)
  | 26 => ("ThreeGapsModel", "keyFirst", "I", false)
  | 27 => ("ThreeGapsModel", "restMany", "I", false)
  | 28 => ("ThreeGapsModel", "restFirst", "I", false)
  | 29 => ("ThreeGapsModel", "gains", "[I", true)
  | _ => ("ThreeGapsModel", "value", "[I", true)
def tyX6 : Nat → FieldType := fun k => match k with
  | 0 => .int
  | 1 => .array .int
  | 2 => .int
  | 3 => .int
  | 4 => .array .int
  | 5 => .int
  | 6 => .int
  | 7 => .array .int
  | 8 => .array .int
  | 9 => .array .int
  | 10 => .array .int
  | 11 => .int
  | 12 => .array .int
  | 13 => .array .boolean
  | 14 => .int
  | 15 => .array .int
  | 16 => .array .int
  | 17 => .array .int
  | 18 => .long
  | 19 => .int
  | 20 => .boolean
  | 21 => .int
  | 22 => .int
  | 23 => .int
  | 24 => .int
  | 25 => .int
  | 26 => .int
  | 27 => .int
  | 28 => .int
  | 29 => .array .int
  | _ => .array .int
abbrev wsX60 : List Cond := u_ws RX6 TX6 31
theorem nmX6 : ∀ a, a < 31 → ∀ b, b < 31 → a ≠ b → (TX6 a).2.1 ≠ (TX6 b).2.1 := by decide +kernel
theorem tyX6_ok : ∀ k, k < 31 → parseFieldDescriptor (TX6 k).2.2.1 = some (tyX6 k) := by decide +kernel
abbrev cX6_init : ByteArray := prog_8_method_1_code
def yX6_init : MethodName := ⟨RX6, "<init>", "()V"⟩
abbrev cX6_in : ByteArray := prog_8_method_3_code
def yX6_in : MethodName := ⟨RX6, "in", "(JJJ)Z"⟩
abbrev cX6_has : ByteArray := prog_8_method_4_code
def yX6_has : MethodName := ⟨RX6, "has", "(II)Z"⟩
abbrev cX6_many : ByteArray := prog_8_method_5_code
def yX6_many : MethodName := ⟨RX6, "many", "(I)I"⟩
abbrev cX6_power : ByteArray := prog_8_method_6_code
def yX6_power : MethodName := ⟨RX6, "power", "(II)I"⟩
abbrev cX6_noMap : ByteArray := prog_8_method_7_code
def yX6_noMap : MethodName := ⟨RX6, "noMap", "(I)Z"⟩
abbrev cX6_noKey : ByteArray := prog_8_method_8_code
def yX6_noKey : MethodName := ⟨RX6, "noKey", "(I)Z"⟩
abbrev cX6_find : ByteArray := prog_8_method_9_code
def yX6_find : MethodName := ⟨RX6, "find", "([III)I"⟩
abbrev cX6_lesser : ByteArray := prog_8_method_10_code
def yX6_lesser : MethodName := ⟨RX6, "lesser", "([III)I"⟩
abbrev cX6_top : ByteArray := prog_8_method_11_code
def yX6_top : MethodName := ⟨RX6, "top", "([II)I"⟩
abbrev cX6_layGap : ByteArray := prog_8_method_12_code
def yX6_layGap : MethodName := ⟨RX6, "layGap", "([IIIII)V"⟩
abbrev cX6_between : ByteArray := prog_8_method_13_code
def yX6_between : MethodName := ⟨RX6, "between", "([IIIII)I"⟩
abbrev cX6_placeOf : ByteArray := prog_8_method_14_code
def yX6_placeOf : MethodName := ⟨RX6, "placeOf", "([IIIIII)I"⟩
abbrev cX6_move : ByteArray := prog_8_method_15_code
def yX6_move : MethodName := ⟨RX6, "move", "([IIII)V"⟩
abbrev cX6_goNew : ByteArray := prog_8_method_16_code
def yX6_goNew : MethodName := ⟨RX6, "goNew", "([IIII)V"⟩
abbrev cX6_goPut : ByteArray := prog_8_method_17_code
def yX6_goPut : MethodName := ⟨RX6, "goPut", "([IIII)Z"⟩
abbrev cX6_help : ByteArray := prog_8_method_18_code
def yX6_help : MethodName := ⟨RX6, "help", "([III)V"⟩
abbrev cX6_goRemove : ByteArray := prog_8_method_19_code
def yX6_goRemove : MethodName := ⟨RX6, "goRemove", "([III)I"⟩
abbrev cX6_nextOn : ByteArray := prog_8_method_20_code
def yX6_nextOn : MethodName := ⟨RX6, "nextOn", "([IIII)I"⟩
abbrev cX6_search : ByteArray := prog_8_method_21_code
def yX6_search : MethodName := ⟨RX6, "search", "([III)I"⟩
abbrev cX6_allLooks : ByteArray := prog_8_method_22_code
def yX6_allLooks : MethodName := ⟨RX6, "allLooks", "([II)I"⟩
abbrev cX6_write : ByteArray := prog_8_method_23_code
def yX6_write : MethodName := ⟨RX6, "write", "(I)I"⟩
abbrev cX6_wipe : ByteArray := prog_8_method_24_code
def yX6_wipe : MethodName := ⟨RX6, "wipe", "()I"⟩
abbrev cX6_figure : ByteArray := prog_8_method_25_code
def yX6_figure : MethodName := ⟨RX6, "figure", "(II)I"⟩
abbrev cX6_mayCome : ByteArray := prog_8_method_26_code
def yX6_mayCome : MethodName := ⟨RX6, "mayCome", "(I)Z"⟩
abbrev cX6_readItem : ByteArray := prog_8_method_27_code
def yX6_readItem : MethodName := ⟨RX6, "readItem", "()Z"⟩
abbrev cX6_readShape : ByteArray := prog_8_method_28_code
def yX6_readShape : MethodName := ⟨RX6, "readShape", "()I"⟩
abbrev cX6_fault : ByteArray := prog_8_method_29_code
def yX6_fault : MethodName := ⟨RX6, "fault", "()I"⟩
abbrev cX6_note : ByteArray := prog_8_method_30_code
def yX6_note : MethodName := ⟨RX6, "note", "()V"⟩
abbrev cX6_shape : ByteArray := prog_8_method_31_code
def yX6_shape : MethodName := ⟨RX6, "shape", "(I)I"⟩
abbrev cX6_put : ByteArray := prog_8_method_32_code
def yX6_put : MethodName := ⟨RX6, "put", "(III)I"⟩
abbrev cX6_remove : ByteArray := prog_8_method_33_code
def yX6_remove : MethodName := ⟨RX6, "remove", "(II)I"⟩
abbrev cX6_inRange : ByteArray := prog_8_method_34_code
def yX6_inRange : MethodName := ⟨RX6, "inRange", "(IIIIZ)I"⟩
abbrev cX6_cut : ByteArray := prog_8_method_35_code
def yX6_cut : MethodName := ⟨RX6, "cut", "(III)I"⟩
abbrev cX6_undo : ByteArray := prog_8_method_36_code
def yX6_undo : MethodName := ⟨RX6, "undo", "()I"⟩
abbrev cX6_heights : ByteArray := prog_8_method_37_code
def yX6_heights : MethodName := ⟨RX6, "heights", "([II)I"⟩
abbrev cX6_about : ByteArray := prog_8_method_38_code
def yX6_about : MethodName := ⟨RX6, "about", "(II)I"⟩
abbrev cX6_item : ByteArray := prog_8_method_39_code
def yX6_item : MethodName := ⟨RX6, "item", "(III)I"⟩
abbrev cX6_get : ByteArray := prog_8_method_40_code
def yX6_get : MethodName := ⟨RX6, "get", "(II)I"⟩
abbrev cX6_span : ByteArray := prog_8_method_41_code
def yX6_span : MethodName := ⟨RX6, "span", "(III)I"⟩
abbrev cX6_rank : ByteArray := prog_8_method_42_code
def yX6_rank : MethodName := ⟨RX6, "rank", "(II)I"⟩
abbrev cX6_near : ByteArray := prog_8_method_43_code
def yX6_near : MethodName := ⟨RX6, "near", "(III)I"⟩
abbrev cX6_looks : ByteArray := prog_8_method_44_code
def yX6_looks : MethodName := ⟨RX6, "looks", "(II)I"⟩
abbrev cX6_sum : ByteArray := prog_8_method_45_code
def yX6_sum : MethodName := ⟨RX6, "sum", "(III)I"⟩
abbrev cX6_begin : ByteArray := prog_8_method_46_code
def yX6_begin : MethodName := ⟨RX6, "begin", "()V"⟩
abbrev cX6_otherHeights : ByteArray := prog_8_method_47_code
def yX6_otherHeights : MethodName := ⟨RX6, "otherHeights", "(II)I"⟩
abbrev cX6_would : ByteArray := prog_8_method_48_code
def yX6_would : MethodName := ⟨RX6, "would", "(III)I"⟩
abbrev cX6_findBest : ByteArray := prog_8_method_49_code
def yX6_findBest : MethodName := ⟨RX6, "findBest", "(I)V"⟩
abbrev cX6_best : ByteArray := prog_8_method_50_code
def yX6_best : MethodName := ⟨RX6, "best", "(II)I"⟩
abbrev cX6_longPower : ByteArray := prog_8_method_51_code
def yX6_longPower : MethodName := ⟨RX6, "longPower", "(JI)J"⟩
abbrev cX6_removes : ByteArray := prog_8_method_52_code
def yX6_removes : MethodName := ⟨RX6, "removes", "(II)Z"⟩
abbrev cX6_does : ByteArray := prog_8_method_53_code
def yX6_does : MethodName := ⟨RX6, "does", "(I)Z"⟩
abbrev cX6_judge : ByteArray := prog_8_method_54_code
def yX6_judge : MethodName := ⟨RX6, "judge", "(IJ)I"⟩
abbrev cX6_ways : ByteArray := prog_8_method_55_code
def yX6_ways : MethodName := ⟨RX6, "ways", "(I)I"⟩
abbrev cX6_divisor : ByteArray := prog_8_method_56_code
def yX6_divisor : MethodName := ⟨RX6, "divisor", "(II)I"⟩
abbrev cX6_fraction : ByteArray := prog_8_method_57_code
def yX6_fraction : MethodName := ⟨RX6, "fraction", "(IIZ)I"⟩
abbrev cX6_few : ByteArray := prog_8_method_58_code
def yX6_few : MethodName := ⟨RX6, "few", "(I)I"⟩
abbrev cX6_without : ByteArray := prog_8_method_59_code
def yX6_without : MethodName := ⟨RX6, "without", "(II)V"⟩
abbrev cX6_share : ByteArray := prog_8_method_60_code
def yX6_share : MethodName := ⟨RX6, "share", "(IIZ)I"⟩
abbrev cX6_seek : ByteArray := prog_8_method_61_code
def yX6_seek : MethodName := ⟨RX6, "seek", "(III)I"⟩
abbrev cX6_unseek : ByteArray := prog_8_method_62_code
def yX6_unseek : MethodName := ⟨RX6, "unseek", "()I"⟩
abbrev cX6_keys : ByteArray := prog_8_method_63_code
def yX6_keys : MethodName := ⟨RX6, "keys", "(I)I"⟩
abbrev cX6_gain : ByteArray := prog_8_method_64_code
def yX6_gain : MethodName := ⟨RX6, "gain", "(III)I"⟩
abbrev cX6_layGains : ByteArray := prog_8_method_65_code
def yX6_layGains : MethodName := ⟨RX6, "layGains", "(III)V"⟩
abbrev cX6_rests : ByteArray := prog_8_method_66_code
def yX6_rests : MethodName := ⟨RX6, "rests", "(IIII)I"⟩
abbrev cX6_lost : ByteArray := prog_8_method_67_code
def yX6_lost : MethodName := ⟨RX6, "lost", "(IIIZ)I"⟩
abbrev cX6_seed : ByteArray := prog_8_method_68_code
def yX6_seed : MethodName := ⟨RX6, "seed", "(J)J"⟩
abbrev cX6_rounds : ByteArray := prog_8_method_69_code
def yX6_rounds : MethodName := ⟨RX6, "rounds", "(II)I"⟩
abbrev cX6_keep : ByteArray := prog_8_method_70_code
def yX6_keep : MethodName := ⟨RX6, "keep", "(I)I"⟩
abbrev cX6_again : ByteArray := prog_8_method_71_code
def yX6_again : MethodName := ⟨RX6, "again", "(I)I"⟩
abbrev cX6_count : ByteArray := prog_8_method_72_code
def yX6_count : MethodName := ⟨RX6, "count", "(I)I"⟩
def RJ6 : String := "java/lang/Integer"
def TJ6 : u_T := fun k => match k with
  | _ => ("", "", "", false)
def tyJ6 : Nat → FieldType := fun k => match k with
  | _ => .int
abbrev wsJ60 : List Cond := u_ws RJ6 TJ6 0
theorem nmJ6 : ∀ a, a < 0 → ∀ b, b < 0 → a ≠ b → (TJ6 a).2.1 ≠ (TJ6 b).2.1 := by decide +kernel
theorem tyJ6_ok : ∀ k, k < 0 → parseFieldDescriptor (TJ6 k).2.2.1 = some (tyJ6 k) := by decide +kernel
abbrev cJ6_bitCount_0f7a4 : ByteArray := prog_9_method_49_code
def yJ6_bitCount_0f7a4 : MethodName := ⟨RJ6, "bitCount", "(I)I"⟩
def RJ9 : String := "java/lang/Math"
def TJ9 : u_T := fun k => match k with
  | _ => ("", "", "", false)
def tyJ9 : Nat → FieldType := fun k => match k with
  | _ => .int
abbrev wsJ90 : List Cond := u_ws RJ9 TJ9 0
theorem nmJ9 : ∀ a, a < 0 → ∀ b, b < 0 → a ≠ b → (TJ9 a).2.1 ≠ (TJ9 b).2.1 := by decide +kernel
theorem tyJ9_ok : ∀ k, k < 0 → parseFieldDescriptor (TJ9 k).2.2.1 = some (tyJ9 k) := by decide +kernel
abbrev cJ9_abs_0f7a4 : ByteArray := prog_10_method_59_code
def yJ9_abs_0f7a4 : MethodName := ⟨RJ9, "abs", "(I)I"⟩
abbrev cJ9_max_7cf53 : ByteArray := prog_10_method_65_code
def yJ9_max_7cf53 : MethodName := ⟨RJ9, "max", "(II)I"⟩
abbrev cJ9_min_7cf53 : ByteArray := prog_10_method_69_code
def yJ9_min_7cf53 : MethodName := ⟨RJ9, "min", "(II)I"⟩
def RJ10 : String := "java/lang/System"
def TJ10 : u_T := fun k => match k with
  | _ => ("", "", "", false)
def tyJ10 : Nat → FieldType := fun k => match k with
  | _ => .int
abbrev wsJ100 : List Cond := u_ws RJ10 TJ10 0
theorem nmJ10 : ∀ a, a < 0 → ∀ b, b < 0 → a ≠ b → (TJ10 a).2.1 ≠ (TJ10 b).2.1 := by decide +kernel
theorem tyJ10_ok : ∀ k, k < 0 → parseFieldDescriptor (TJ10 k).2.2.1 = some (tyJ10 k) := by decide +kernel
def RL : String := "ThreeGapsLaw"
abbrev cL_law : ByteArray := code
def yL_law : MethodName := ⟨RL, "law", "([I)Z"⟩
def wsL_law_r1 : List Cond := [Cond.classLink RL 7 RX5, Cond.instantiable RX5 8, Cond.initialized RX5, Cond.classLink RL 10 RX6, Cond.instantiable RX6 31, Cond.initialized RX6, Cond.constantLong RL 89 (4294967295), Cond.methodLink RL 9 yX5_init, Cond.instanceMethod yX5_init, Cond.code yX5_init cX5_init 2 none, Cond.methodLink RX5 1 objectInit, Cond.instanceMethod objectInit, Cond.code objectInit ⟨#[0xb1]⟩ 1 none, Cond.classLink RX5 7 RX1, Cond.instantiable RX1 2, Cond.initialized RX1, Cond.fieldLink RX5 10 "ThreeGaps" "now" "LThreeGaps$Both;", Cond.fieldLink RX5 16 "ThreeGaps" "trial" "LThreeGaps$Both;", Cond.classLink RX5 19 RX0, Cond.instantiable RX0 3, Cond.initialized RX0, Cond.fieldLink RX5 22 "ThreeGaps" "acts" "LThreeGaps$Acts;", Cond.classLink RX5 26 RX4, Cond.instantiable RX4 3]
def wsL_law_r2 : List Cond := [Cond.initialized RX4, Cond.fieldLink RX5 29 "ThreeGaps" "text" "LThreeGaps$Text;", Cond.classLink RX5 33 RX3, Cond.instantiable RX3 4, Cond.initialized RX3, Cond.fieldLink RX5 36 "ThreeGaps" "sought" "LThreeGaps$Sought;", Cond.fieldLink RX5 40 "ThreeGaps" "slots" "[LThreeGaps$Both;", Cond.arrayClass .boolean, Cond.fieldLink RX5 44 "ThreeGaps" "kept" "[Z", Cond.fieldLink RX5 48 "ThreeGaps" "theSeed" "J", Cond.instanceMethod yX1_init, Cond.code yX1_init cX1_init 1 none, Cond.methodLink RX1 1 objectInit, Cond.classLink RX1 7 RX2, Cond.instantiable RX2 4, Cond.initialized RX2, Cond.fieldLink RX1 10 "ThreeGaps$Both" "zero" "LThreeGaps$Items;", Cond.fieldLink RX1 16 "ThreeGaps$Both" "one" "LThreeGaps$Items;", Cond.instanceMethod yX2_init, Cond.code yX2_init cX2_init 1 none, Cond.methodLink RX2 3 objectInit, Cond.arrayClass .int, Cond.fieldLink RX2 11 "ThreeGaps$Items" "keys" "[I", Cond.fieldLink RX2 15 "ThreeGaps$Items" "values" "[I"]
def wsL_law_r3 : List Cond := [Cond.fieldLink RX2 18 "ThreeGaps$Items" "heights" "[I", Cond.fieldLink RX2 21 "ThreeGaps$Items" "size" "I", Cond.methodLink RX5 21 yX0_init, Cond.instanceMethod yX0_init, Cond.code yX0_init cX0_init 2 none, Cond.methodLink RX0 1 objectInit, Cond.classLink RX0 9 RX1, Cond.fieldLink RX0 11 "ThreeGaps$Acts" "before" "[LThreeGaps$Both;", Cond.fieldLink RX0 15 "ThreeGaps$Acts" "next" "I", Cond.fieldLink RX0 19 "ThreeGaps$Acts" "held" "I", Cond.instanceMethod yX4_init, Cond.code yX4_init cX4_init 1 none, Cond.methodLink RX4 3 objectInit, Cond.fieldLink RX4 11 "ThreeGaps$Text" "letters" "[I", Cond.fieldLink RX4 15 "ThreeGaps$Text" "open" "[I", Cond.fieldLink RX4 18 "ThreeGaps$Text" "length" "I", Cond.instanceMethod yX3_init, Cond.code yX3_init cX3_init 1 none, Cond.methodLink RX3 1 objectInit, Cond.fieldLink RX3 9 "ThreeGaps$Sought" "maps" "[I", Cond.fieldLink RX3 13 "ThreeGaps$Sought" "looked" "[I", Cond.fieldLink RX3 16 "ThreeGaps$Sought" "found" "[I", Cond.fieldLink RX3 19 "ThreeGaps$Sought" "size" "I", Cond.methodLink RL 12 yX6_init]
def wsL_law_r4 : List Cond := [Cond.instanceMethod yX6_init, Cond.code yX6_init cX6_init 1 none, Cond.methodLink RX6 1 objectInit, Cond.fieldLink RX6 7 "ThreeGapsModel" "text" "[I", Cond.fieldLink RX6 13 "ThreeGapsModel" "open" "[I", Cond.fieldLink RX6 16 "ThreeGapsModel" "readMap" "[I", Cond.fieldLink RX6 19 "ThreeGapsModel" "page" "[I", Cond.fieldLink RX6 22 "ThreeGapsModel" "trial" "[I", Cond.fieldLink RX6 25 "ThreeGapsModel" "book" "[I", Cond.fieldLink RX6 28 "ThreeGapsModel" "kept" "[I", Cond.fieldLink RX6 31 "ThreeGapsModel" "isKept" "[Z", Cond.fieldLink RX6 35 "ThreeGapsModel" "soughtMap" "[I", Cond.fieldLink RX6 38 "ThreeGapsModel" "soughtLooks" "[I", Cond.fieldLink RX6 41 "ThreeGapsModel" "soughtIs" "[I", Cond.fieldLink RX6 44 "ThreeGapsModel" "gains" "[I", Cond.fieldLink RX6 47 "ThreeGapsModel" "value" "[I", Cond.methodLink RL 13 yX5_write, Cond.instanceMethod yX5_write, Cond.selects RX5 yX5_write yX5_write, Cond.code yX5_write cX5_write 2 (some .int), Cond.fieldLink RX5 56 "ThreeGaps$Text" "length" "I", Cond.methodLink RX5 52 yX4_append, Cond.instanceMethod yX4_append, Cond.selects RX4 yX4_append yX4_append]
def wsL_law_r5 : List Cond := [Cond.code yX4_append cX4_append 2 (some .boolean), Cond.methodLink RL 17 yX6_write, Cond.instanceMethod yX6_write, Cond.selects RX6 yX6_write yX6_write, Cond.code yX6_write cX6_write 2 (some .int), Cond.fieldLink RX6 50 "ThreeGapsModel" "thrown" "I", Cond.constantLong RX6 111 (255), Cond.fieldLink RX6 113 "ThreeGapsModel" "textSize" "I", Cond.methodLink RX6 54 yX6_in, Cond.static yX6_in, Cond.code yX6_in cX6_in 6 (some .boolean), Cond.methodLink RL 18 yX5_wipe, Cond.instanceMethod yX5_wipe, Cond.selects RX5 yX5_wipe yX5_wipe, Cond.code yX5_wipe cX5_wipe 2 (some .int), Cond.methodLink RL 22 yX6_wipe, Cond.instanceMethod yX6_wipe, Cond.selects RX6 yX6_wipe yX6_wipe, Cond.code yX6_wipe cX6_wipe 2 (some .int), Cond.methodLink RL 23 yX5_fault, Cond.instanceMethod yX5_fault, Cond.selects RX5 yX5_fault yX5_fault, Cond.code yX5_fault cX5_fault 1 (some .int), Cond.methodLink RX5 60 yX4_firstFault]
def wsL_law_r6 : List Cond := [Cond.instanceMethod yX4_firstFault, Cond.selects RX4 yX4_firstFault yX4_firstFault, Cond.code yX4_firstFault cX4_firstFault 2 (some .int), Cond.methodLink RX4 22 yX4_fits, Cond.instanceMethod yX4_fits, Cond.selects RX4 yX4_fits yX4_fits, Cond.code yX4_fits cX4_fits 3 (some .boolean), Cond.methodLink RX4 35 yX4_figure, Cond.instanceMethod yX4_figure, Cond.selects RX4 yX4_figure yX4_figure, Cond.code yX4_figure cX4_figure 2 (some .int), Cond.methodLink RX4 43 yX4_takesHeight, Cond.instanceMethod yX4_takesHeight, Cond.selects RX4 yX4_takesHeight yX4_takesHeight, Cond.code yX4_takesHeight cX4_takesHeight 3 (some .boolean), Cond.methodLink RX4 26 yX4_isClosed, Cond.instanceMethod yX4_isClosed, Cond.selects RX4 yX4_isClosed yX4_isClosed, Cond.code yX4_isClosed cX4_isClosed 2 (some .boolean), Cond.methodLink RL 26 yX6_fault, Cond.instanceMethod yX6_fault, Cond.selects RX6 yX6_fault yX6_fault, Cond.code yX6_fault cX6_fault 1 (some .int), Cond.methodLink RX6 137 yX6_readShape]
def wsL_law_r7 : List Cond := [Cond.instanceMethod yX6_readShape, Cond.selects RX6 yX6_readShape yX6_readShape, Cond.code yX6_readShape cX6_readShape 3 (some .int), Cond.fieldLink RX6 116 "ThreeGapsModel" "place" "I", Cond.fieldLink RX6 130 "ThreeGapsModel" "readMany" "I", Cond.fieldLink RX6 127 "ThreeGapsModel" "readHigh" "I", Cond.methodLink RX6 133 yX6_readItem, Cond.instanceMethod yX6_readItem, Cond.selects RX6 yX6_readItem yX6_readItem, Cond.code yX6_readItem cX6_readItem 5 (some .boolean), Cond.methodLink RX6 119 yX6_figure, Cond.instanceMethod yX6_figure, Cond.selects RX6 yX6_figure yX6_figure, Cond.code yX6_figure cX6_figure 3 (some .int), Cond.methodLink RX6 123 yX6_mayCome, Cond.instanceMethod yX6_mayCome, Cond.selects RX6 yX6_mayCome yX6_mayCome, Cond.code yX6_mayCome cX6_mayCome 4 (some .boolean), Cond.methodLink RL 27 yX5_shape, Cond.instanceMethod yX5_shape, Cond.selects RX5 yX5_shape yX5_shape, Cond.code yX5_shape cX5_shape 3 (some .int), Cond.fieldLink RX5 79 "ThreeGaps$Items" "size" "I", Cond.methodLink RX5 64 yX5_isMap]
def wsL_law_r8 : List Cond := [Cond.static yX5_isMap, Cond.code yX5_isMap cX5_isMap 1 (some .boolean), Cond.methodLink RX5 67 yX0_remember, Cond.instanceMethod yX0_remember, Cond.selects RX0 yX0_remember yX0_remember, Cond.code yX0_remember cX0_remember 2 none, Cond.methodLink RX0 27 Lib.Math.min.name, Cond.static Lib.Math.min.name, Cond.initialized "java/lang/Math", Cond.code Lib.Math.min.name Lib.Math.min.code 2 (some .int), Cond.methodLink RX0 23 yX1_copyFrom, Cond.instanceMethod yX1_copyFrom, Cond.selects RX1 yX1_copyFrom yX1_copyFrom, Cond.code yX1_copyFrom cX1_copyFrom 2 none, Cond.methodLink RX1 19 yX2_copyFrom, Cond.instanceMethod yX2_copyFrom, Cond.selects RX2 yX2_copyFrom yX2_copyFrom, Cond.code yX2_copyFrom cX2_copyFrom 2 none, Cond.methodLink RX2 25 arraycopyName, Cond.native arraycopyName, Cond.static arraycopyName, Cond.initialized "java/lang/System", Cond.methodLink RX5 71 yX1_of, Cond.instanceMethod yX1_of]
def wsL_law_r9 : List Cond := [Cond.selects RX1 yX1_of yX1_of, Cond.code yX1_of cX1_of 2 (some (.object "ThreeGaps$Items")), Cond.methodLink RX5 75 yX4_tellTo, Cond.instanceMethod yX4_tellTo, Cond.selects RX4 yX4_tellTo yX4_tellTo, Cond.code yX4_tellTo cX4_tellTo 4 none, Cond.fieldLink RX4 30 "ThreeGaps$Items" "size" "I", Cond.methodLink RX4 39 yX2_add, Cond.instanceMethod yX2_add, Cond.selects RX2 yX2_add yX2_add, Cond.code yX2_add cX2_add 4 none, Cond.methodLink RX2 31 yX2_openAt, Cond.instanceMethod yX2_openAt, Cond.selects RX2 yX2_openAt yX2_openAt, Cond.code yX2_openAt cX2_openAt 6 none, Cond.methodLink RL 30 yX6_shape, Cond.instanceMethod yX6_shape, Cond.selects RX6 yX6_shape yX6_shape, Cond.code yX6_shape cX6_shape 3 (some .int), Cond.methodLink RX6 144 yX6_noMap, Cond.static yX6_noMap, Cond.code yX6_noMap cX6_noMap 1 (some .boolean), Cond.methodLink RX6 147 yX6_note, Cond.instanceMethod yX6_note]
def wsL_law_r10 : List Cond := [Cond.selects RX6 yX6_note yX6_note, Cond.code yX6_note cX6_note 2 none, Cond.fieldLink RX6 141 "ThreeGapsModel" "acts" "I", Cond.methodLink RL 31 yX5_put, Cond.instanceMethod yX5_put, Cond.selects RX5 yX5_put yX5_put, Cond.code yX5_put cX5_put 5 (some .int), Cond.constant RX5 87 (999999), Cond.methodLink RX5 84 yX5_isKey, Cond.static yX5_isKey, Cond.code yX5_isKey cX5_isKey 1 (some .boolean), Cond.methodLink RX5 88 yX2_canTake, Cond.instanceMethod yX2_canTake, Cond.selects RX2 yX2_canTake yX2_canTake, Cond.code yX2_canTake cX2_canTake 2 (some .boolean), Cond.methodLink RX2 39 yX2_indexOf, Cond.instanceMethod yX2_indexOf, Cond.selects RX2 yX2_indexOf yX2_indexOf, Cond.code yX2_indexOf cX2_indexOf 3 (some .int), Cond.methodLink RX2 35 yX2_lesser, Cond.instanceMethod yX2_lesser, Cond.selects RX2 yX2_lesser yX2_lesser, Cond.code yX2_lesser cX2_lesser 3 (some .int), Cond.methodLink RX5 91 yX2_place]
def wsL_law_r11 : List Cond := [Cond.instanceMethod yX2_place, Cond.selects RX2 yX2_place yX2_place, Cond.code yX2_place cX2_place 5 (some .boolean), Cond.methodLink RX2 51 yX2_top, Cond.instanceMethod yX2_top, Cond.selects RX2 yX2_top yX2_top, Cond.code yX2_top cX2_top 3 (some .int), Cond.methodLink RX2 42 Lib.Math.max.name, Cond.static Lib.Math.max.name, Cond.code Lib.Math.max.name Lib.Math.max.code 2 (some .int), Cond.methodLink RX2 58 yX2_partIfFull, Cond.instanceMethod yX2_partIfFull, Cond.selects RX2 yX2_partIfFull yX2_partIfFull, Cond.code yX2_partIfFull cX2_partIfFull 5 none, Cond.methodLink RX2 55 yX2_ahead, Cond.instanceMethod yX2_ahead, Cond.selects RX2 yX2_ahead yX2_ahead, Cond.code yX2_ahead cX2_ahead 4 (some .int), Cond.methodLink RX2 48 Lib.Math.min.name, Cond.methodLink RX2 80 yX2_behind, Cond.instanceMethod yX2_behind, Cond.selects RX2 yX2_behind yX2_behind, Cond.code yX2_behind cX2_behind 4 (some .int), Cond.methodLink RX2 83 yX2_countOf]
def wsL_law_r12 : List Cond := [Cond.instanceMethod yX2_countOf, Cond.selects RX2 yX2_countOf yX2_countOf, Cond.code yX2_countOf cX2_countOf 6 (some .int), Cond.methodLink RX2 87 yX2_nth, Cond.instanceMethod yX2_nth, Cond.selects RX2 yX2_nth yX2_nth, Cond.code yX2_nth cX2_nth 7 (some .int), Cond.methodLink RX2 91 yX2_raise, Cond.instanceMethod yX2_raise, Cond.selects RX2 yX2_raise yX2_raise, Cond.code yX2_raise cX2_raise 2 none, Cond.methodLink RL 35 yX6_put, Cond.instanceMethod yX6_put, Cond.selects RX6 yX6_put yX6_put, Cond.code yX6_put cX6_put 4 (some .int), Cond.constantLong RX6 153 (999999), Cond.methodLink RX6 150 yX6_noKey, Cond.static yX6_noKey, Cond.code yX6_noKey cX6_noKey 1 (some .boolean), Cond.constantLong RX6 58 (99), Cond.methodLink RX6 90 yX6_find, Cond.static yX6_find, Cond.code yX6_find cX6_find 5 (some .int), Cond.methodLink RX6 155 yX6_goPut]
def wsL_law_r13 : List Cond := [Cond.instanceMethod yX6_goPut, Cond.selects RX6 yX6_goPut yX6_goPut, Cond.code yX6_goPut cX6_goPut 6 (some .boolean), Cond.methodLink RX6 93 yX6_goNew, Cond.instanceMethod yX6_goNew, Cond.selects RX6 yX6_goNew yX6_goNew, Cond.code yX6_goNew cX6_goNew 7 none, Cond.fieldLink RX6 60 "ThreeGapsModel" "gapLeft" "I", Cond.fieldLink RX6 63 "ThreeGapsModel" "gapRight" "I", Cond.methodLink RX6 66 yX6_lesser, Cond.static yX6_lesser, Cond.code yX6_lesser cX6_lesser 5 (some .int), Cond.methodLink RX6 70 yX6_top, Cond.static yX6_top, Cond.code yX6_top cX6_top 4 (some .int), Cond.methodLink RX6 74 yX6_layGap, Cond.instanceMethod yX6_layGap, Cond.selects RX6 yX6_layGap yX6_layGap, Cond.code yX6_layGap cX6_layGap 6 none, Cond.methodLink RX6 78 yX6_between, Cond.static yX6_between, Cond.code yX6_between cX6_between 7 (some .int), Cond.methodLink RX6 82 yX6_placeOf, Cond.static yX6_placeOf]
def wsL_law_r14 : List Cond := [Cond.code yX6_placeOf cX6_placeOf 9 (some .int), Cond.methodLink RX6 86 yX6_move, Cond.static yX6_move, Cond.code yX6_move cX6_move 4 none, Cond.methodLink RL 36 yX5_remove, Cond.instanceMethod yX5_remove, Cond.selects RX5 yX5_remove yX5_remove, Cond.code yX5_remove cX5_remove 6 (some .int), Cond.fieldLink RX5 99 "ThreeGaps$Items" "values" "[I", Cond.methodLink RX5 95 yX2_indexOf, Cond.methodLink RX5 103 yX2_takeOut, Cond.instanceMethod yX2_takeOut, Cond.selects RX2 yX2_takeOut yX2_takeOut, Cond.code yX2_takeOut cX2_takeOut 4 (some .boolean), Cond.methodLink RX2 62 yX2_changePlaces, Cond.instanceMethod yX2_changePlaces, Cond.selects RX2 yX2_changePlaces yX2_changePlaces, Cond.code yX2_changePlaces cX2_changePlaces 4 none, Cond.methodLink RX2 66 yX2_helpIfPoor, Cond.instanceMethod yX2_helpIfPoor, Cond.selects RX2 yX2_helpIfPoor yX2_helpIfPoor, Cond.code yX2_helpIfPoor cX2_helpIfPoor 5 none, Cond.methodLink RX2 94 yX2_helpFromBehind, Cond.instanceMethod yX2_helpFromBehind]
def wsL_law_r15 : List Cond := [Cond.selects RX2 yX2_helpFromBehind yX2_helpFromBehind, Cond.code yX2_helpFromBehind cX2_helpFromBehind 4 none, Cond.methodLink RX2 97 yX2_helpFromAhead, Cond.instanceMethod yX2_helpFromAhead, Cond.selects RX2 yX2_helpFromAhead yX2_helpFromAhead, Cond.code yX2_helpFromAhead cX2_helpFromAhead 5 none, Cond.methodLink RX2 69 yX2_closeAt, Cond.instanceMethod yX2_closeAt, Cond.selects RX2 yX2_closeAt yX2_closeAt, Cond.code yX2_closeAt cX2_closeAt 3 none, Cond.methodLink RL 40 yX6_remove, Cond.instanceMethod yX6_remove, Cond.selects RX6 yX6_remove yX6_remove, Cond.code yX6_remove cX6_remove 4 (some .int), Cond.methodLink RX6 159 yX6_goRemove, Cond.instanceMethod yX6_goRemove, Cond.selects RX6 yX6_goRemove yX6_goRemove, Cond.code yX6_goRemove cX6_goRemove 7 (some .int), Cond.methodLink RX6 96 yX6_help, Cond.instanceMethod yX6_help, Cond.selects RX6 yX6_help yX6_help, Cond.code yX6_help cX6_help 10 none, Cond.methodLink RL 41 yX5_cut, Cond.instanceMethod yX5_cut]
def wsL_law_r16 : List Cond := [Cond.selects RX5 yX5_cut yX5_cut, Cond.code yX5_cut cX5_cut 6 (some .int), Cond.methodLink RX5 106 yX2_newTo, Cond.instanceMethod yX2_newTo, Cond.selects RX2 yX2_newTo yX2_newTo, Cond.code yX2_newTo cX2_newTo 6 (some .int), Cond.methodLink RX5 110 yX2_moveTo, Cond.instanceMethod yX2_moveTo, Cond.selects RX2 yX2_moveTo yX2_moveTo, Cond.code yX2_moveTo cX2_moveTo 8 (some .int), Cond.methodLink RX2 72 yX2_takeOut, Cond.methodLink RX2 76 yX2_place, Cond.methodLink RL 44 yX6_cut, Cond.instanceMethod yX6_cut, Cond.selects RX6 yX6_cut yX6_cut, Cond.code yX6_cut cX6_cut 9 (some .int), Cond.methodLink RX6 162 yX6_inRange, Cond.instanceMethod yX6_inRange, Cond.selects RX6 yX6_inRange yX6_inRange, Cond.code yX6_inRange cX6_inRange 9 (some .int), Cond.methodLink RL 45 yX5_undo, Cond.instanceMethod yX5_undo, Cond.selects RX5 yX5_undo yX5_undo, Cond.code yX5_undo cX5_undo 1 (some .int)]
def wsL_law_r17 : List Cond := [Cond.fieldLink RX5 117 "ThreeGaps$Acts" "held" "I", Cond.methodLink RX5 113 yX0_bringBack, Cond.instanceMethod yX0_bringBack, Cond.selects RX0 yX0_bringBack yX0_bringBack, Cond.code yX0_bringBack cX0_bringBack 2 (some .boolean), Cond.methodLink RL 48 yX6_undo, Cond.instanceMethod yX6_undo, Cond.selects RX6 yX6_undo yX6_undo, Cond.code yX6_undo cX6_undo 2 (some .int), Cond.methodLink RL 49 yX5_about, Cond.instanceMethod yX5_about, Cond.selects RX5 yX5_about yX5_about, Cond.code yX5_about cX5_about 4 (some .int), Cond.methodLink RX5 120 yX2_top, Cond.methodLink RX5 123 yX2_allHeights, Cond.instanceMethod yX2_allHeights, Cond.selects RX2 yX2_allHeights yX2_allHeights, Cond.code yX2_allHeights cX2_allHeights 3 (some .int), Cond.methodLink RX5 126 yX2_keyAt, Cond.instanceMethod yX2_keyAt, Cond.selects RX2 yX2_keyAt yX2_keyAt, Cond.code yX2_keyAt cX2_keyAt 2 (some .int), Cond.methodLink RX5 129 yX2_allLooks, Cond.instanceMethod yX2_allLooks]
def wsL_law_r18 : List Cond := [Cond.selects RX2 yX2_allLooks yX2_allLooks, Cond.code yX2_allLooks cX2_allLooks 6 (some .int), Cond.methodLink RL 52 yX6_about, Cond.instanceMethod yX6_about, Cond.selects RX6 yX6_about yX6_about, Cond.code yX6_about cX6_about 4 (some .int), Cond.methodLink RX6 166 yX6_heights, Cond.static yX6_heights, Cond.code yX6_heights cX6_heights 4 (some .int), Cond.methodLink RX6 169 yX6_allLooks, Cond.instanceMethod yX6_allLooks, Cond.selects RX6 yX6_allLooks yX6_allLooks, Cond.code yX6_allLooks cX6_allLooks 5 (some .int), Cond.methodLink RX6 108 yX6_search, Cond.instanceMethod yX6_search, Cond.selects RX6 yX6_search yX6_search, Cond.code yX6_search cX6_search 9 (some .int), Cond.fieldLink RX6 100 "ThreeGapsModel" "isFound" "Z", Cond.methodLink RX6 104 yX6_nextOn, Cond.static yX6_nextOn, Cond.code yX6_nextOn cX6_nextOn 5 (some .int), Cond.methodLink RL 53 yX5_item, Cond.instanceMethod yX5_item, Cond.selects RX5 yX5_item yX5_item]
def wsL_law_r19 : List Cond := [Cond.code yX5_item cX5_item 5 (some .int), Cond.fieldLink RX5 132 "ThreeGaps$Items" "keys" "[I", Cond.fieldLink RX5 135 "ThreeGaps$Items" "heights" "[I", Cond.methodLink RL 56 yX6_item, Cond.instanceMethod yX6_item, Cond.selects RX6 yX6_item yX6_item, Cond.code yX6_item cX6_item 5 (some .int), Cond.methodLink RL 57 yX5_get, Cond.instanceMethod yX5_get, Cond.selects RX5 yX5_get yX5_get, Cond.code yX5_get cX5_get 5 (some .int), Cond.methodLink RL 60 yX6_get, Cond.instanceMethod yX6_get, Cond.selects RX6 yX6_get yX6_get, Cond.code yX6_get cX6_get 4 (some .int), Cond.methodLink RL 61 yX5_span, Cond.instanceMethod yX5_span, Cond.selects RX5 yX5_span yX5_span, Cond.code yX5_span cX5_span 6 (some .int), Cond.methodLink RX5 138 yX2_behind, Cond.methodLink RL 64 yX6_span, Cond.instanceMethod yX6_span, Cond.selects RX6 yX6_span yX6_span, Cond.code yX6_span cX6_span 6 (some .int)]
def wsL_law_r20 : List Cond := [Cond.methodLink RL 65 yX5_rank, Cond.instanceMethod yX5_rank, Cond.selects RX5 yX5_rank yX5_rank, Cond.code yX5_rank cX5_rank 3 (some .int), Cond.methodLink RX5 142 yX2_lesser, Cond.methodLink RL 68 yX6_rank, Cond.instanceMethod yX6_rank, Cond.selects RX6 yX6_rank yX6_rank, Cond.code yX6_rank cX6_rank 3 (some .int), Cond.methodLink RL 69 yX5_near, Cond.instanceMethod yX5_near, Cond.selects RX5 yX5_near yX5_near, Cond.code yX5_near cX5_near 6 (some .int), Cond.methodLink RL 72 yX6_near, Cond.instanceMethod yX6_near, Cond.selects RX6 yX6_near yX6_near, Cond.code yX6_near cX6_near 6 (some .int), Cond.methodLink RL 73 yX5_looks, Cond.instanceMethod yX5_looks, Cond.selects RX5 yX5_looks yX5_looks, Cond.code yX5_looks cX5_looks 3 (some .int), Cond.methodLink RX5 145 yX2_looksFor, Cond.instanceMethod yX2_looksFor, Cond.selects RX2 yX2_looksFor yX2_looksFor]
def wsL_law_r21 : List Cond := [Cond.code yX2_looksFor cX2_looksFor 6 (some .int), Cond.methodLink RL 76 yX6_looks, Cond.instanceMethod yX6_looks, Cond.selects RX6 yX6_looks yX6_looks, Cond.code yX6_looks cX6_looks 3 (some .int), Cond.methodLink RL 77 yX5_sum, Cond.instanceMethod yX5_sum, Cond.selects RX5 yX5_sum yX5_sum, Cond.code yX5_sum cX5_sum 4 (some .int), Cond.methodLink RX5 148 yX2_valuesWithin, Cond.instanceMethod yX2_valuesWithin, Cond.selects RX2 yX2_valuesWithin yX2_valuesWithin, Cond.code yX2_valuesWithin cX2_valuesWithin 5 (some .int), Cond.methodLink RL 80 yX6_sum, Cond.instanceMethod yX6_sum, Cond.selects RX6 yX6_sum yX6_sum, Cond.code yX6_sum cX6_sum 7 (some .int), Cond.methodLink RL 81 yX5_would, Cond.instanceMethod yX5_would, Cond.selects RX5 yX5_would yX5_would, Cond.code yX5_would cX5_would 6 (some .int), Cond.methodLink RX5 151 yX5_tryOn, Cond.instanceMethod yX5_tryOn, Cond.selects RX5 yX5_tryOn yX5_tryOn]
def wsL_law_r22 : List Cond := [Cond.code yX5_tryOn cX5_tryOn 3 (some (.object "ThreeGaps$Items")), Cond.methodLink RX5 223 yX2_copyFrom, Cond.methodLink RX5 154 yX2_otherHeights, Cond.instanceMethod yX2_otherHeights, Cond.selects RX2 yX2_otherHeights yX2_otherHeights, Cond.code yX2_otherHeights cX2_otherHeights 6 (some .int), Cond.methodLink RL 84 yX6_would, Cond.instanceMethod yX6_would, Cond.selects RX6 yX6_would yX6_would, Cond.code yX6_would cX6_would 6 (some .int), Cond.constantLong RX6 172 (2), Cond.methodLink RX6 174 yX6_begin, Cond.instanceMethod yX6_begin, Cond.selects RX6 yX6_begin yX6_begin, Cond.code yX6_begin cX6_begin 2 none, Cond.methodLink RX6 177 yX6_otherHeights, Cond.instanceMethod yX6_otherHeights, Cond.selects RX6 yX6_otherHeights yX6_otherHeights, Cond.code yX6_otherHeights cX6_otherHeights 7 (some .int), Cond.methodLink RL 85 yX5_best, Cond.instanceMethod yX5_best, Cond.selects RX5 yX5_best yX5_best, Cond.code yX5_best cX5_best 7 (some .int), Cond.methodLink RX5 158 yX5_isWorthTrying]
def wsL_law_r23 : List Cond := [Cond.instanceMethod yX5_isWorthTrying, Cond.selects RX5 yX5_isWorthTrying yX5_isWorthTrying, Cond.code yX5_isWorthTrying cX5_isWorthTrying 4 (some .boolean), Cond.methodLink RX5 161 yX5_looksWith, Cond.instanceMethod yX5_looksWith, Cond.selects RX5 yX5_looksWith yX5_looksWith, Cond.code yX5_looksWith cX5_looksWith 4 (some .int), Cond.methodLink RL 88 yX6_best, Cond.instanceMethod yX6_best, Cond.selects RX6 yX6_best yX6_best, Cond.code yX6_best cX6_best 3 (some .int), Cond.fieldLink RX6 180 "ThreeGapsModel" "bestKey" "I", Cond.fieldLink RX6 183 "ThreeGapsModel" "bestMany" "I", Cond.methodLink RX6 186 yX6_findBest, Cond.instanceMethod yX6_findBest, Cond.selects RX6 yX6_findBest yX6_findBest, Cond.code yX6_findBest cX6_findBest 4 none, Cond.methodLink RL 91 yX5_judge, Cond.instanceMethod yX5_judge, Cond.selects RX5 yX5_judge yX5_judge, Cond.code yX5_judge cX5_judge 7 (some .int), Cond.constantLong RX5 164 (10000), Cond.methodLink RX5 166 yX1_copyFrom, Cond.methodLink RX5 169 yX5_canBe]
def wsL_law_r24 : List Cond := [Cond.instanceMethod yX5_canBe, Cond.selects RX5 yX5_canBe yX5_canBe, Cond.code yX5_canBe cX5_canBe 5 (some .boolean), Cond.methodLink RL 95 yX6_judge, Cond.instanceMethod yX6_judge, Cond.selects RX6 yX6_judge yX6_judge, Cond.code yX6_judge cX6_judge 5 (some .int), Cond.constantLong RX6 194 (4), Cond.constantLong RX6 196 (10000), Cond.methodLink RX6 198 yX6_longPower, Cond.static yX6_longPower, Cond.code yX6_longPower cX6_longPower 6 (some .long), Cond.methodLink RX6 202 yX6_does, Cond.instanceMethod yX6_does, Cond.selects RX6 yX6_does yX6_does, Cond.code yX6_does cX6_does 4 (some .boolean), Cond.methodLink RX6 190 yX6_removes, Cond.instanceMethod yX6_removes, Cond.selects RX6 yX6_removes yX6_removes, Cond.code yX6_removes cX6_removes 4 (some .boolean), Cond.methodLink RL 96 yX5_share, Cond.instanceMethod yX5_share, Cond.selects RX5 yX5_share yX5_share, Cond.code yX5_share cX5_share 9 (some .int)]
def wsL_law_r25 : List Cond := [Cond.methodLink RX5 172 yX5_chanced, Cond.instanceMethod yX5_chanced, Cond.selects RX5 yX5_chanced yX5_chanced, Cond.code yX5_chanced cX5_chanced 2 (some .int), Cond.methodLink RX5 225 Lib.Math.min.name, Cond.methodLink RX5 175 yX5_without, Cond.instanceMethod yX5_without, Cond.selects RX5 yX5_without yX5_without, Cond.code yX5_without cX5_without 6 (some (.object "ThreeGaps$Items")), Cond.methodLink RX5 179 yJ6_bitCount_0f7a4, Cond.static yJ6_bitCount_0f7a4, Cond.initialized RJ6, Cond.code yJ6_bitCount_0f7a4 cJ6_bitCount_0f7a4 1 (some .int), Cond.constant RJ6 265 (1431655765), Cond.constant RJ6 266 (858993459), Cond.constant RJ6 267 (252645135), Cond.methodLink RX5 184 yX5_ordersAround, Cond.static yX5_ordersAround, Cond.code yX5_ordersAround cX5_ordersAround 2 (some .int), Cond.methodLink RX5 187 yX5_factorial, Cond.static yX5_factorial, Cond.code yX5_factorial cX5_factorial 1 (some .int), Cond.fieldLink RX5 230 "ThreeGaps" "FACTORIALS" "[I", Cond.methodLink RX5 190 yX5_fraction]
def wsL_law_r26 : List Cond := [Cond.static yX5_fraction, Cond.code yX5_fraction cX5_fraction 4 (some .int), Cond.methodLink RX5 233 Lib.Math.abs.name, Cond.static Lib.Math.abs.name, Cond.code Lib.Math.abs.name Lib.Math.abs.code 1 (some .int), Cond.methodLink RX5 236 yX5_commonDivisor, Cond.static yX5_commonDivisor, Cond.code yX5_commonDivisor cX5_commonDivisor 6 (some .int), Cond.methodLink RL 100 yX6_share, Cond.instanceMethod yX6_share, Cond.selects RX6 yX6_share yX6_share, Cond.code yX6_share cX6_share 9 (some .int), Cond.methodLink RX6 208 yX6_few, Cond.instanceMethod yX6_few, Cond.selects RX6 yX6_few yX6_few, Cond.code yX6_few cX6_few 2 (some .int), Cond.methodLink RX6 215 yX6_without, Cond.instanceMethod yX6_without, Cond.selects RX6 yX6_without yX6_without, Cond.code yX6_without cX6_without 4 none, Cond.methodLink RX6 212 yX6_has, Cond.static yX6_has, Cond.code yX6_has cX6_has 2 (some .boolean), Cond.methodLink RX6 219 yX6_many]
def wsL_law_r27 : List Cond := [Cond.static yX6_many, Cond.code yX6_many cX6_many 3 (some .int), Cond.methodLink RX6 222 yX6_ways, Cond.static yX6_ways, Cond.code yX6_ways cX6_ways 3 (some .int), Cond.methodLink RX6 225 yX6_fraction, Cond.static yX6_fraction, Cond.code yX6_fraction cX6_fraction 4 (some .int), Cond.methodLink RX6 205 yX6_divisor, Cond.static yX6_divisor, Cond.code yX6_divisor cX6_divisor 5 (some .int), Cond.methodLink RL 101 yX5_seek, Cond.instanceMethod yX5_seek, Cond.selects RX5 yX5_seek yX5_seek, Cond.code yX5_seek cX5_seek 4 (some .int), Cond.fieldLink RX5 198 "ThreeGaps$Sought" "size" "I", Cond.methodLink RX5 194 yX3_add, Cond.instanceMethod yX3_add, Cond.selects RX3 yX3_add yX3_add, Cond.code yX3_add cX3_add 4 (some .boolean), Cond.methodLink RL 104 yX6_seek, Cond.instanceMethod yX6_seek, Cond.selects RX6 yX6_seek yX6_seek, Cond.code yX6_seek cX6_seek 4 (some .int)]
def wsL_law_r28 : List Cond := [Cond.constantLong RX6 229 (20), Cond.fieldLink RX6 231 "ThreeGapsModel" "sought" "I", Cond.methodLink RL 105 yX5_unseek, Cond.instanceMethod yX5_unseek, Cond.selects RX5 yX5_unseek yX5_unseek, Cond.code yX5_unseek cX5_unseek 2 (some .int), Cond.methodLink RL 108 yX6_unseek, Cond.instanceMethod yX6_unseek, Cond.selects RX6 yX6_unseek yX6_unseek, Cond.code yX6_unseek cX6_unseek 2 (some .int), Cond.methodLink RL 109 yX5_keys, Cond.instanceMethod yX5_keys, Cond.selects RX5 yX5_keys yX5_keys, Cond.code yX5_keys cX5_keys 5 (some .int), Cond.methodLink RX5 199 yX3_isSo, Cond.instanceMethod yX3_isSo, Cond.selects RX3 yX3_isSo yX3_isSo, Cond.code yX3_isSo cX3_isSo 6 (some .boolean), Cond.methodLink RX3 23 yX1_of, Cond.methodLink RX3 29 yX2_indexOf, Cond.methodLink RX3 35 yX2_looksFor, Cond.methodLink RL 112 yX6_keys, Cond.instanceMethod yX6_keys, Cond.selects RX6 yX6_keys yX6_keys]
def wsL_law_r29 : List Cond := [Cond.code yX6_keys cX6_keys 6 (some .int), Cond.fieldLink RX6 234 "ThreeGapsModel" "keyMany" "I", Cond.fieldLink RX6 237 "ThreeGapsModel" "keyFirst" "I", Cond.methodLink RL 113 yX5_rests, Cond.instanceMethod yX5_rests, Cond.selects RX5 yX5_rests yX5_rests, Cond.code yX5_rests cX5_rests 9 (some .int), Cond.methodLink RX5 203 yX5_isAtRest, Cond.instanceMethod yX5_isAtRest, Cond.selects RX5 yX5_isAtRest yX5_isAtRest, Cond.code yX5_isAtRest cX5_isAtRest 5 (some .boolean), Cond.methodLink RX5 239 yX5_gain, Cond.instanceMethod yX5_gain, Cond.selects RX5 yX5_gain yX5_gain, Cond.code yX5_gain cX5_gain 7 (some .int), Cond.methodLink RL 117 yX6_rests, Cond.instanceMethod yX6_rests, Cond.selects RX6 yX6_rests yX6_rests, Cond.code yX6_rests cX6_rests 8 (some .int), Cond.fieldLink RX6 248 "ThreeGapsModel" "restMany" "I", Cond.fieldLink RX6 251 "ThreeGapsModel" "restFirst" "I", Cond.methodLink RX6 244 yX6_layGains, Cond.instanceMethod yX6_layGains, Cond.selects RX6 yX6_layGains yX6_layGains]
def wsL_law_r30 : List Cond := [Cond.code yX6_layGains cX6_layGains 5 none, Cond.methodLink RX6 240 yX6_gain, Cond.instanceMethod yX6_gain, Cond.selects RX6 yX6_gain yX6_gain, Cond.code yX6_gain cX6_gain 4 (some .int), Cond.methodLink RL 118 yX5_lost, Cond.instanceMethod yX5_lost, Cond.selects RX5 yX5_lost yX5_lost, Cond.code yX5_lost cX5_lost 9 (some .int), Cond.methodLink RX5 207 yX5_weight, Cond.static yX5_weight, Cond.code yX5_weight cX5_weight 5 (some .int), Cond.methodLink RL 122 yX6_lost, Cond.instanceMethod yX6_lost, Cond.selects RX6 yX6_lost yX6_lost, Cond.code yX6_lost cX6_lost 10 (some .int), Cond.constantLong RX6 254 (9), Cond.constantLong RX6 256 (10), Cond.methodLink RX6 258 yX6_power, Cond.static yX6_power, Cond.code yX6_power cX6_power 4 (some .int), Cond.methodLink RL 123 yX5_seed, Cond.instanceMethod yX5_seed, Cond.selects RX5 yX5_seed yX5_seed]
def wsL_law_r31 : List Cond := [Cond.code yX5_seed cX5_seed 5 (some .long), Cond.methodLink RL 127 yX6_seed, Cond.instanceMethod yX6_seed, Cond.selects RX6 yX6_seed yX6_seed, Cond.code yX6_seed cX6_seed 5 (some .long), Cond.fieldLink RX6 261 "ThreeGapsModel" "seed" "J", Cond.methodLink RL 128 yX5_rounds, Cond.instanceMethod yX5_rounds, Cond.selects RX5 yX5_rounds yX5_rounds, Cond.code yX5_rounds cX5_rounds 7 (some .int), Cond.constantLong RX5 211 (6364136223846793005), Cond.constantLong RX5 213 (1442695040888963407), Cond.constantLong RX5 215 (200), Cond.methodLink RL 131 yX6_rounds, Cond.instanceMethod yX6_rounds, Cond.selects RX6 yX6_rounds yX6_rounds, Cond.code yX6_rounds cX6_rounds 6 (some .int), Cond.constantLong RX6 265 (30), Cond.constantLong RX6 267 (6364136223846793005), Cond.constantLong RX6 269 (1442695040888963407), Cond.constantLong RX6 271 (200), Cond.methodLink RL 132 yX5_keep, Cond.instanceMethod yX5_keep, Cond.selects RX5 yX5_keep yX5_keep]
def wsL_law_r32 : List Cond := [Cond.code yX5_keep cX5_keep 2 (some .int), Cond.methodLink RX5 217 yX5_isSlot, Cond.static yX5_isSlot, Cond.code yX5_isSlot cX5_isSlot 1 (some .boolean), Cond.methodLink RX5 220 yX1_items, Cond.instanceMethod yX1_items, Cond.selects RX1 yX1_items yX1_items, Cond.code yX1_items cX1_items 1 (some .int), Cond.fieldLink RX1 23 "ThreeGaps$Items" "size" "I", Cond.methodLink RL 135 yX6_keep, Cond.instanceMethod yX6_keep, Cond.selects RX6 yX6_keep yX6_keep, Cond.code yX6_keep cX6_keep 3 (some .int), Cond.methodLink RL 136 yX5_again, Cond.instanceMethod yX5_again, Cond.selects RX5 yX5_again yX5_again, Cond.code yX5_again cX5_again 2 (some .int), Cond.methodLink RL 139 yX6_again, Cond.instanceMethod yX6_again, Cond.selects RX6 yX6_again yX6_again, Cond.code yX6_again cX6_again 3 (some .int), Cond.methodLink RL 140 yX5_count, Cond.instanceMethod yX5_count, Cond.selects RX5 yX5_count yX5_count]
def wsL_law_r33 : List Cond := [Cond.code yX5_count cX5_count 2 (some .int), Cond.methodLink RL 143 yX6_count, Cond.instanceMethod yX6_count, Cond.selects RX6 yX6_count yX6_count, Cond.code yX6_count cX6_count 2 (some .int)]
def wsL_law : List Cond := (wsL_law_r1 ++ (wsL_law_r2 ++ (wsL_law_r3 ++ (wsL_law_r4 ++ (wsL_law_r5 ++ (wsL_law_r6 ++ (wsL_law_r7 ++ (wsL_law_r8 ++ (wsL_law_r9 ++ (wsL_law_r10 ++ (wsL_law_r11 ++ (wsL_law_r12 ++ (wsL_law_r13 ++ (wsL_law_r14 ++ (wsL_law_r15 ++ (wsL_law_r16 ++ (wsL_law_r17 ++ (wsL_law_r18 ++ (wsL_law_r19 ++ (wsL_law_r20 ++ (wsL_law_r21 ++ (wsL_law_r22 ++ (wsL_law_r23 ++ (wsL_law_r24 ++ (wsL_law_r25 ++ (wsL_law_r26 ++ (wsL_law_r27 ++ (wsL_law_r28 ++ (wsL_law_r29 ++ (wsL_law_r30 ++ (wsL_law_r31 ++ (wsL_law_r32 ++ wsL_law_r33)))))))))))))))))))))))))))))))) ++ wsX50 ++ wsX60 ++ wsX10 ++ wsX00 ++ wsX40 ++ wsX30 ++ wsX20 ++ ([] : List Cond)
theorem inlX0 : ∀ w ∈ wsX00, w ∈ wsL_law := fun _ h => List.mem_append_left _ (List.mem_append_left _ (List.mem_append_left _ (List.mem_append_left _ (List.mem_append_right _ h))))
theorem inlX1 : ∀ w ∈ wsX10, w ∈ wsL_law := fun _ h => List.mem_append_left _ (List.mem_append_left _ (List.mem_append_left _ (List.mem_append_left _ (List.mem_append_left _ (List.mem_append_right _ h)))))
theorem inlX2 : ∀ w ∈ wsX20, w ∈ wsL_law := fun _ h => List.mem_append_left _ (List.mem_append_right _ h)
theorem inlX3 : ∀ w ∈ wsX30, w ∈ wsL_law := fun _ h => List.mem_append_left _ (List.mem_append_left _ (List.mem_append_right _ h))
theorem inlX4 : ∀ w ∈ wsX40, w ∈ wsL_law := fun _ h => List.mem_append_left _ (List.mem_append_left _ (List.mem_append_left _ (List.mem_append_right _ h)))
theorem inlX5 : ∀ w ∈ wsX50, w ∈ wsL_law := fun _ h => List.mem_append_left _ (List.mem_append_left _ (List.mem_append_left _ (List.mem_append_left _ (List.mem_append_left _ (List.mem_append_left _ (List.mem_append_left _ (List.mem_append_right _ h)))))))
theorem inlX6 : ∀ w ∈ wsX60, w ∈ wsL_law := fun _ h => List.mem_append_left _ (List.mem_append_left _ (List.mem_append_left _ (List.mem_append_left _ (List.mem_append_left _ (List.mem_append_left _ (List.mem_append_right _ h))))))
abbrev vwCl : List vw_C := [(RX0, TX0, 3), (RX1, TX1, 2), (RX2, TX2, 4), (RX3, TX3, 4), (RX4, TX4, 3), (RX5, TX5, 8), (RX6, TX6, 31)]
end
section
/-- an instruction: pc, what it is, the next pc, two numbers, a list of targets, an int, a long -/
abbrev En : Type := Nat × (Jvm.ClassFile.Instr × (Nat × (Nat × (Nat × (List Nat × (Int32 × Int64))))))
/-! The table of the program: methods by number, their instructions with what they link to. Laid by wip/whole/gen.py. -/
def mYs : List MethodName := [yX0_remember, yX0_bringBack, yX1_copyFrom, yX1_of, yX1_items, yX2_copyFrom, yX2_add, yX2_openAt, yX2_canTake, yX2_indexOf, yX2_lesser, yX2_place, yX2_top, yX2_partIfFull, yX2_ahead, yX2_behind, yX2_countOf, yX2_nth, yX2_raise, yX2_takeOut, yX2_changePlaces, yX2_helpIfPoor, yX2_helpFromBehind, yX2_helpFromAhead, yX2_closeAt, yX2_newTo, yX2_moveTo, yX2_allHeights, yX2_keyAt, yX2_allLooks, yX2_looksFor, yX2_valuesWithin, yX2_otherHeights, yX3_add, yX3_isSo, yX4_append, yX4_firstFault, yX4_fits, yX4_figure, yX4_takesHeight, yX4_isClosed, yX4_tellTo, yX5_write, yX5_wipe, yX5_fault, yX5_shape, yX5_isMap, yX5_put, yX5_isKey, yX5_remove, yX5_cut, yX5_undo, yX5_about, yX5_item, yX5_get, yX5_span, yX5_rank, yX5_near, yX5_looks, yX5_sum, yX5_would, yX5_tryOn, yX5_best, yX5_isWorthTrying, yX5_looksWith, yX5_judge, yX5_canBe, yX5_share, yX5_chanced, yX5_without, yX5_ordersAround, yX5_factorial, yX5_fraction, yX5_commonDivisor, yX5_seek, yX5_unseek, yX5_keys, yX5_rests, yX5_isAtRest, yX5_gain, yX5_lost, yX5_weight, yX5_seed, yX5_rounds, yX5_keep, yX5_isSlot, yX5_again, yX5_count, yX6_write, yX6_in, yX6_wipe, yX6_fault, yX6_readShape, yX6_readItem, yX6_figure, yX6_mayCome, yX6_shape, yX6_noMap, yX6_note, yX6_put, yX6_noKey, yX6_find, yX6_goPut, yX6_goNew, yX6_lesser, yX6_top, yX6_layGap, yX6_between, yX6_placeOf, yX6_move, yX6_remove, yX6_goRemove, yX6_help, yX6_cut, yX6_inRange, yX6_undo, yX6_about, yX6_heights, yX6_allLooks, yX6_search, yX6_nextOn, yX6_item, yX6_get, yX6_span, yX6_rank, yX6_near, yX6_looks, yX6_sum, yX6_would, yX6_begin, yX6_otherHeights, yX6_best, yX6_findBest, yX6_judge, yX6_longPower, yX6_does, yX6_removes, yX6_share, yX6_few, yX6_without, yX6_has, yX6_many, yX6_ways, yX6_fraction, yX6_divisor, yX6_seek, yX6_unseek, yX6_keys, yX6_rests, yX6_layGains, yX6_gain, yX6_lost, yX6_power, yX6_seed, yX6_rounds, yX6_keep, yX6_again, yX6_count, yJ6_bitCount_0f7a4, x]
def mY (y : Nat) : MethodName := mYs.getD y x
def mT : List (ByteArray × (Nat × (Option FieldType × (Nat × (Nat × Nat))))) := [(cX0_remember, 2, none, 0, 3, 68), (cX0_bringBack, 2, some .boolean, 0, 3, 68), (cX1_copyFrom, 2, none, 1, 2, 47), (cX1_of, 2, some (.object "ThreeGaps$Items"), 1, 0, 0), (cX1_items, 1, some .int, 1, 0, 0), (cX2_copyFrom, 2, none, 2, 1, 26), (cX2_add, 4, none, 2, 1, 25), (cX2_openAt, 6, none, 2, 0, 0), (cX2_canTake, 2, some .boolean, 2, 2, 44), (cX2_indexOf, 3, some .int, 2, 1, 22), (cX2_lesser, 3, some .int, 2, 0, 0), (cX2_place, 5, some .boolean, 2, 3, 76), (cX2_top, 3, some .int, 2, 1, 26), (cX2_partIfFull, 5, none, 2, 2, 52), (cX2_ahead, 4, some .int, 2, 1, 26), (cX2_behind, 4, some .int, 2, 1, 26), (cX2_countOf, 6, some .int, 2, 1, 26), (cX2_nth, 7, some .int, 2, 1, 26), (cX2_raise, 2, none, 2, 0, 0), (cX2_takeOut, 4, some .boolean, 2, 4, 100), (cX2_changePlaces, 4, none, 2, 0, 0), (cX2_helpIfPoor, 5, none, 2, 3, 76), (cX2_helpFromBehind, 4, none, 2, 2, 52), (cX2_helpFromAhead, 5, none, 2, 2, 52), (cX2_closeAt, 3, none, 2, 0, 0), (cX2_newTo, 6, some .int, 2, 2, 44), (cX2_moveTo, 8, some .int, 2, 5, 123), (cX2_allHeights, 3, some .int, 2, 0, 0), (cX2_keyAt, 2, some .int, 2, 0, 0), (cX2_allLooks, 6, some .int, 2, 2, 49), (cX2_looksFor, 6, some .int, 2, 2, 48), (cX2_valuesWithin, 5, some .int, 2, 0, 0), (cX2_otherHeights, 6, some .int, 2, 2, 44), (cX3_add, 4, some .boolean, 3, 0, 0), (cX3_isSo, 6, some .boolean, 3, 3, 73), (cX4_append, 2, some .boolean, 4, 0, 0), (cX4_firstFault, 2, some .int, 4, 2, 44), (cX4_fits, 3, some .boolean, 4, 1, 22), (cX4_figure, 2, some .int, 4, 0, 0), (cX4_takesHeight, 3, some .boolean, 4, 0, 0), (cX4_isClosed, 2, some .boolean, 4, 0, 0), (cX4_tellTo, 4, none, 4, 2, 48), (cX5_write, 2, some .int, 5, 1, 21), (cX5_wipe, 2, some .int, 5, 0, 0), (cX5_fault, 1, some .int, 5, 3, 65), (cX5_shape, 3, some .int, 5, 4, 89), (cX5_isMap, 1, some .boolean, 5, 0, 0), (cX5_put, 5, some .int, 5, 4, 100), (cX5_isKey, 1, some .boolean, 5, 0, 0), (cX5_remove, 6, some .int, 5, 5, 123), (cX5_cut, 6, some .int, 5, 6, 150), (cX5_undo, 1, some .int, 5, 4, 89), (cX5_about, 4, some .int, 5, 3, 74), (cX5_item, 5, some .int, 5, 1, 21), (cX5_get, 5, some .int, 5, 2, 44), (cX5_span, 6, some .int, 5, 2, 49), (cX5_rank, 3, some .int, 5, 1, 22), (cX5_near, 6, some .int, 5, 2, 44), (cX5_looks, 3, some .int, 5, 3, 73), (cX5_sum, 4, some .int, 5, 1, 24), (cX5_would, 6, some .int, 5, 5, 123), (cX5_tryOn, 3, some (.object "ThreeGaps$Items"), 5, 2, 47), (cX5_best, 7, some .int, 5, 5, 123), (cX5_isWorthTrying, 4, some .boolean, 5, 3, 65), (cX5_looksWith, 4, some .int, 5, 4, 100), (cX5_judge, 7, some .int, 5, 6, 147), (cX5_canBe, 5, some .boolean, 5, 5, 123), (cX5_share, 9, some .int, 5, 6, 148), (cX5_chanced, 2, some .int, 5, 1, 26), (cX5_without, 6, some (.object "ThreeGaps$Items"), 5, 5, 123), (cX5_ordersAround, 2, some .int, 5, 1, 20), (cX5_factorial, 1, some .int, 5, 0, 0), (cX5_fraction, 4, some .int, 5, 1, 26), (cX5_commonDivisor, 6, some .int, 5, 0, 0), (cX5_seek, 4, some .int, 5, 1, 23), (cX5_unseek, 2, some .int, 5, 0, 0), (cX5_keys, 5, some .int, 5, 4, 98), (cX5_rests, 9, some .int, 5, 6, 150), (cX5_isAtRest, 5, some .boolean, 5, 5, 126), (cX5_gain, 7, some .int, 5, 4, 100), (cX5_lost, 9, some .int, 5, 6, 148), (cX5_weight, 5, some .int, 5, 0, 0), (cX5_seed, 5, some .long, 5, 0, 0), (cX5_rounds, 7, some .int, 5, 5, 123), (cX5_keep, 2, some .int, 5, 3, 68), (cX5_isSlot, 1, some .boolean, 5, 0, 0), (cX5_again, 2, some .int, 5, 3, 68), (cX5_count, 2, some .int, 5, 0, 0), (cX6_write, 2, some .int, 6, 1, 25), (cX6_in, 6, some .boolean, 6, 0, 0), (cX6_wipe, 2, some .int, 6, 0, 0), (cX6_fault, 1, some .int, 6, 4, 93), (cX6_readShape, 3, some .int, 6, 3, 71), (cX6_readItem, 5, some .boolean, 6, 2, 47), (cX6_figure, 3, some .int, 6, 1, 25), (cX6_mayCome, 4, some .boolean, 6, 0, 0), (cX6_shape, 3, some .int, 6, 4, 93), (cX6_noMap, 1, some .boolean, 6, 1, 25), (cX6_note, 2, none, 6, 0, 0), (cX6_put, 4, some .int, 6, 3, 79), (cX6_noKey, 1, some .boolean, 6, 1, 25), (cX6_find, 5, some .int, 6, 0, 0), (cX6_goPut, 6, some .boolean, 6, 2, 54), (cX6_goNew, 7, none, 6, 1, 28), (cX6_lesser, 5, some .int, 6, 0, 0), (cX6_top, 4, some .int, 6, 0, 0), (cX6_layGap, 6, none, 6, 0, 0), (cX6_between, 7, some .int, 6, 0, 0), (cX6_placeOf, 9, some .int, 6, 0, 0), (cX6_move, 4, none, 6, 0, 0), (cX6_remove, 4, some .int, 6, 3, 83), (cX6_goRemove, 7, some .int, 6, 2, 57), (cX6_help, 10, none, 6, 1, 28), (cX6_cut, 9, some .int, 6, 3, 83), (cX6_inRange, 9, some .int, 6, 1, 25), (cX6_undo, 2, some .int, 6, 0, 0), (cX6_about, 4, some .int, 6, 3, 76), (cX6_heights, 4, some .int, 6, 0, 0), (cX6_allLooks, 5, some .int, 6, 2, 52), (cX6_search, 9, some .int, 6, 1, 24), (cX6_nextOn, 5, some .int, 6, 0, 0), (cX6_item, 5, some .int, 6, 2, 45), (cX6_get, 4, some .int, 6, 2, 45), (cX6_span, 6, some .int, 6, 2, 45), (cX6_rank, 3, some .int, 6, 2, 45), (cX6_near, 6, some .int, 6, 2, 45), (cX6_looks, 3, some .int, 6, 2, 52), (cX6_sum, 7, some .int, 6, 2, 45), (cX6_would, 6, some .int, 6, 3, 83), (cX6_begin, 2, none, 6, 0, 0), (cX6_otherHeights, 7, some .int, 6, 1, 24), (cX6_best, 3, some .int, 6, 4, 99), (cX6_findBest, 4, none, 6, 3, 76), (cX6_judge, 5, some .int, 6, 5, 129), (cX6_longPower, 6, some .long, 6, 0, 0), (cX6_does, 4, some .boolean, 6, 4, 106), (cX6_removes, 4, some .boolean, 6, 3, 83), (cX6_share, 9, some .int, 6, 5, 129), (cX6_few, 2, some .int, 6, 0, 0), (cX6_without, 4, none, 6, 4, 106), (cX6_has, 2, some .boolean, 6, 0, 0), (cX6_many, 3, some .int, 6, 0, 0), (cX6_ways, 3, some .int, 6, 0, 0), (cX6_fraction, 4, some .int, 6, 1, 24), (cX6_divisor, 5, some .int, 6, 0, 0), (cX6_seek, 4, some .int, 6, 2, 45), (cX6_unseek, 2, some .int, 6, 0, 0), (cX6_keys, 6, some .int, 6, 2, 52), (cX6_rests, 8, some .int, 6, 4, 99), (cX6_layGains, 5, none, 6, 3, 75), (cX6_gain, 4, some .int, 6, 2, 52), (cX6_lost, 10, some .int, 6, 5, 129), (cX6_power, 4, some .int, 6, 0, 0), (cX6_seed, 5, some .long, 6, 0, 0), (cX6_rounds, 6, some .int, 6, 4, 106), (cX6_keep, 3, some .int, 6, 1, 25), (cX6_again, 3, some .int, 6, 1, 25), (cX6_count, 2, some .int, 6, 0, 0), (cJ6_bitCount_0f7a4, 1, some .int, 7, 0, 0), (code, 4, some .boolean, 8, 9, 348)]
def mI (y : Nat) : ByteArray × (Nat × (Option FieldType × (Nat × (Nat × Nat)))) := mT.getD y (code, 0, none, 0, 0, 0)
def cnL : List (Nat × (Nat × Bool)) := [(2, 0, false), (2, 0, true), (2, 1, false), (2, 1, false), (1, 1, false), (2, 2, false), (4, 2, false), (5, 2, false), (2, 2, true), (2, 2, false), (2, 2, false), (3, 2, true), (1, 2, false), (3, 2, false), (3, 2, false), (3, 2, false), (4, 2, false), (5, 2, false), (2, 2, false), (2, 2, true), (2, 2, false), (3, 2, false), (3, 2, false), (3, 2, false), (2, 2, false), (4, 2, false), (4, 2, false), (1, 2, false), (2, 2, false), (1, 2, false), (2, 2, false), (3, 2, false), (3, 2, false), (4, 3, true), (3, 3, true), (2, 4, true), (1, 4, false), (2, 4, true), (2, 4, false), (2, 4, true), (1, 4, true), (2, 4, false), (2, 5, false), (1, 5, false), (1, 5, false), (2, 5, false), (1, 9, true), (4, 5, false), (1, 9, true), (3, 5, false), (4, 5, false), (1, 5, false), (3, 5, false), (4, 5, false), (3, 5, false), (4, 5, false), (3, 5, false), (4, 5, false), (3, 5, false), (4, 5, false), (4, 5, false), (2, 5, false), (3, 5, false), (3, 5, true), (3, 5, false), (3, 5, false), (2, 5, true), (4, 5, false), (2, 5, false), (3, 5, false), (2, 9, false), (1, 9, false), (3, 9, false), (2, 9, false), (4, 5, false), (1, 5, false), (2, 5, false), (5, 5, false), (5, 5, true), (6, 5, false), (5, 5, false), (3, 9, false), (2, 5, false), (3, 5, false), (2, 5, false), (1, 9, true), (2, 5, false), (2, 5, false), (2, 6, false), (3, 9, true), (1, 6, false), (1, 6, false), (1, 6, false), (1, 6, true), (3, 6, false), (2, 6, true), (2, 6, false), (1, 9, true), (1, 6, false), (4, 6, false), (1, 9, true), (3, 9, false), (5, 6, true), (5, 6, false), (3, 9, false), (2, 9, false), (6, 6, false), (5, 9, false), (6, 9, false), (4, 9, false), (3, 6, false), (4, 6, false), (4, 6, false), (4, 6, false), (6, 6, false), (1, 6, false), (3, 6, false), (2, 9, false), (3, 6, false), (4, 6, false), (4, 9, false), (4, 6, false), (3, 6, false), (4, 6, false), (3, 6, false), (4, 6, false), (3, 6, false), (4, 6, false), (4, 6, false), (1, 6, false), (3, 6, false), (3, 6, false), (2, 6, false), (3, 6, false), (2, 9, false), (2, 6, true), (3, 6, true), (4, 6, false), (2, 6, false), (3, 6, false), (2, 9, true), (1, 9, false), (1, 9, false), (3, 9, false), (2, 9, false), (4, 6, false), (1, 6, false), (2, 6, false), (5, 6, false), (4, 6, false), (4, 6, false), (5, 6, false), (2, 9, false), (2, 6, false), (3, 6, false), (2, 6, false), (2, 6, false), (2, 6, false), (1, 9, false), (1, 9, true)]
def cn (y : Nat) : Nat × (Nat × Bool) := cnL.getD y (0, 9, false)
/-- yX0_remember -/
def P0 : List En := [(0, .aload_n 0, 1, 0, 0, [], 0, 0),
  (1, .getfield 11, 4, 0, 0, [], 0, 0),
  (4, .aload_n 0, 5, 0, 0, [], 0, 0),
  (5, .getfield 15, 8, 0, 1, [], 0, 0),
  (8, .aaload, 9, 0, 0, [], 0, 0),
  (9, .aload_n 1, 10, 1, 0, [], 0, 0),
  (10, .invokevirtual 23, 13, 2, 0, [], 0, 0),
  (13, .aload_n 0, 14, 0, 0, [], 0, 0),
  (14, .aload_n 0, 15, 0, 0, [], 0, 0),
  (15, .getfield 15, 18, 0, 1, [], 0, 0),
  (18, .iconst 1, 19, 0, 0, [], 1, 0),
  (19, .iadd, 20, 0, 0, [], 0, 0),
  (20, .bipush 14, 22, 0, 0, [], 14, 0),
  (22, .irem, 23, 0, 0, [], 0, 0),
  (23, .putfield 15, 26, 0, 1, [], 0, 0),
  (26, .aload_n 0, 27, 0, 0, [], 0, 0),
  (27, .aload_n 0, 28, 0, 0, [], 0, 0),
  (28, .getfield 19, 31, 0, 2, [], 0, 0),
  (31, .iconst 1, 32, 0, 0, [], 1, 0),
  (32, .iadd, 33, 0, 0, [], 0, 0),
  (33, .bipush 14, 35, 0, 0, [], 14, 0),
  (35, .invokestatic 27, 38, 0, 2, [], 0, 0),
  (38, .putfield 19, 41, 0, 2, [], 0, 0),
  (41, .return_, 42, 0, 0, [], 0, 0)]
/-- yX0_bringBack -/
def P1 : List En := [(0, .aload_n 0, 1, 0, 0, [], 0, 0),
  (1, .getfield 19, 4, 0, 2, [], 0, 0),
  (4, .ifCond .ne 5, 7, 9, 0, [], 0, 0),
  (7, .iconst 0, 8, 0, 0, [], 0, 0),
  (8, .ireturn, 9, 0, 0, [], 0, 0),
  (9, .aload_n 0, 10, 0, 0, [], 0, 0),
  (10, .aload_n 0, 11, 0, 0, [], 0, 0),
  (11, .getfield 15, 14, 0, 1, [], 0, 0),
  (14, .bipush 14, 16, 0, 0, [], 14, 0),
  (16, .iadd, 17, 0, 0, [], 0, 0),
  (17, .iconst 1, 18, 0, 0, [], 1, 0),
  (18, .isub, 19, 0, 0, [], 0, 0),
  (19, .bipush 14, 21, 0, 0, [], 14, 0),
  (21, .irem, 22, 0, 0, [], 0, 0),
  (22, .putfield 15, 25, 0, 1, [], 0, 0),
  (25, .aload_n 0, 26, 0, 0, [], 0, 0),
  (26, .dup, 27, 0, 0, [], 0, 0),
  (27, .getfield 19, 30, 0, 2, [], 0, 0),
  (30, .iconst 1, 31, 0, 0, [], 1, 0),
  (31, .isub, 32, 0, 0, [], 0, 0),
  (32, .putfield 19, 35, 0, 2, [], 0, 0),
  (35, .aload_n 1, 36, 1, 0, [], 0, 0),
  (36, .aload_n 0, 37, 0, 0, [], 0, 0),
  (37, .getfield 11, 40, 0, 0, [], 0, 0),
  (40, .aload_n 0, 41, 0, 0, [], 0, 0),
  (41, .getfield 15, 44, 0, 1, [], 0, 0),
  (44, .aaload, 45, 0, 0, [], 0, 0),
  (45, .invokevirtual 23, 48, 2, 0, [], 0, 0),
  (48, .iconst 1, 49, 0, 0, [], 1, 0),
  (49, .ireturn, 50, 0, 0, [], 0, 0)]
/-- yX1_copyFrom -/
def P2 : List En := [(0, .aload_n 0, 1, 0, 0, [], 0, 0),
  (1, .getfield 10, 4, 1, 0, [], 0, 0),
  (4, .aload_n 1, 5, 1, 0, [], 0, 0),
  (5, .getfield 10, 8, 1, 0, [], 0, 0),
  (8, .invokevirtual 19, 11, 5, 0, [], 0, 0),
  (11, .aload_n 0, 12, 0, 0, [], 0, 0),
  (12, .getfield 16, 15, 1, 1, [], 0, 0),
  (15, .aload_n 1, 16, 1, 0, [], 0, 0),
  (16, .getfield 16, 19, 1, 1, [], 0, 0),
  (19, .invokevirtual 19, 22, 5, 0, [], 0, 0),
  (22, .return_, 23, 0, 0, [], 0, 0)]
/-- yX1_of -/
def P3 : List En := [(0, .iload_n 1, 1, 1, 0, [], 0, 0),
  (1, .ifCond .ne 10, 4, 11, 0, [], 0, 0),
  (4, .aload_n 0, 5, 0, 0, [], 0, 0),
  (5, .getfield 10, 8, 1, 0, [], 0, 0),
  (8, .goto 7, 11, 15, 0, [], 0, 0),
  (11, .aload_n 0, 12, 0, 0, [], 0, 0),
  (12, .getfield 16, 15, 1, 1, [], 0, 0),
  (15, .areturn, 16, 0, 0, [], 0, 0)]
/-- yX1_items -/
def P4 : List En := [(0, .aload_n 0, 1, 0, 0, [], 0, 0),
  (1, .getfield 10, 4, 1, 0, [], 0, 0),
  (4, .getfield 23, 7, 2, 3, [], 0, 0),
  (7, .aload_n 0, 8, 0, 0, [], 0, 0),
  (8, .getfield 16, 11, 1, 1, [], 0, 0),
  (11, .getfield 23, 14, 2, 3, [], 0, 0),
  (14, .iadd, 15, 0, 0, [], 0, 0),
  (15, .ireturn, 16, 0, 0, [], 0, 0)]
/-- yX2_copyFrom -/
def P5 : List En := [(0, .aload_n 0, 1, 0, 0, [], 0, 0),
  (1, .aload_n 1, 2, 1, 0, [], 0, 0),
  (2, .getfield 21, 5, 2, 3, [], 0, 0),
  (5, .putfield 21, 8, 2, 3, [], 0, 0),
  (8, .aload_n 1, 9, 1, 0, [], 0, 0),
  (9, .getfield 11, 12, 2, 0, [], 0, 0),
  (12, .iconst 0, 13, 0, 0, [], 0, 0),
  (13, .aload_n 0, 14, 0, 0, [], 0, 0),
  (14, .getfield 11, 17, 2, 0, [], 0, 0),
  (17, .iconst 0, 18, 0, 0, [], 0, 0),
  (18, .aload_n 0, 19, 0, 0, [], 0, 0),
  (19, .getfield 21, 22, 2, 3, [], 0, 0),
  (22, .invokestatic 25, 25, 0, 4, [], 0, 0),
  (25, .aload_n 1, 26, 1, 0, [], 0, 0),
  (26, .getfield 15, 29, 2, 1, [], 0, 0),
  (29, .iconst 0, 30, 0, 0, [], 0, 0),
  (30, .aload_n 0, 31, 0, 0, [], 0, 0),
  (31, .getfield 15, 34, 2, 1, [], 0, 0),
  (34, .iconst 0, 35, 0, 0, [], 0, 0),
  (35, .aload_n 0, 36, 0, 0, [], 0, 0),
  (36, .getfield 21, 39, 2, 3, [], 0, 0),
  (39, .invokestatic 25, 42, 0, 4, [], 0, 0),
  (42, .aload_n 1, 43, 1, 0, [], 0, 0),
  (43, .getfield 18, 46, 2, 2, [], 0, 0),
  (46, .iconst 0, 47, 0, 0, [], 0, 0),
  (47, .aload_n 0, 48, 0, 0, [], 0, 0),
  (48, .getfield 18, 51, 2, 2, [], 0, 0),
  (51, .iconst 0, 52, 0, 0, [], 0, 0),
  (52, .aload_n 0, 53, 0, 0, [], 0, 0),
  (53, .getfield 21, 56, 2, 3, [], 0, 0),
  (56, .invokestatic 25, 59, 0, 4, [], 0, 0),
  (59, .return_, 60, 0, 0, [], 0, 0)]
/-- yX2_add -/
def P6 : List En := [(0, .aload_n 0, 1, 0, 0, [], 0, 0),
  (1, .aload_n 0, 2, 0, 0, [], 0, 0),
  (2, .getfield 21, 5, 2, 3, [], 0, 0),
  (5, .iload_n 1, 6, 1, 0, [], 0, 0),
  (6, .iload_n 2, 7, 2, 0, [], 0, 0),
  (7, .iload_n 3, 8, 3, 0, [], 0, 0),
  (8, .invokevirtual 31, 11, 7, 0, [], 0, 0),
  (11, .return_, 12, 0, 0, [], 0, 0)]
/-- yX2_openAt -/
def P7 : List En := [(0, .aload_n 0, 1, 0, 0, [], 0, 0),
  (1, .getfield 21, 4, 2, 3, [], 0, 0),
  (4, .bipush 40, 6, 0, 0, [], 40, 0),
  (6, .if_icmp .ge 15, 9, 21, 0, [], 0, 0),
  (9, .iload_n 1, 10, 1, 0, [], 0, 0),
  (10, .ifCond .lt 11, 13, 21, 0, [], 0, 0),
  (13, .iload_n 1, 14, 1, 0, [], 0, 0),
  (14, .aload_n 0, 15, 0, 0, [], 0, 0),
  (15, .getfield 21, 18, 2, 3, [], 0, 0),
  (18, .if_icmp .le 4, 21, 22, 0, [], 0, 0),
  (21, .return_, 22, 0, 0, [], 0, 0),
  (22, .aload_n 0, 23, 0, 0, [], 0, 0),
  (23, .getfield 21, 26, 2, 3, [], 0, 0),
  (26, .istore 5, 28, 5, 0, [], 0, 0),
  (28, .iload 5, 30, 5, 0, [], 0, 0),
  (30, .iload_n 1, 31, 1, 0, [], 0, 0),
  (31, .if_icmp .le 57, 34, 88, 0, [], 0, 0),
  (34, .aload_n 0, 35, 0, 0, [], 0, 0),
  (35, .getfield 11, 38, 2, 0, [], 0, 0),
  (38, .iload 5, 40, 5, 0, [], 0, 0),
  (40, .aload_n 0, 41, 0, 0, [], 0, 0),
  (41, .getfield 11, 44, 2, 0, [], 0, 0),
  (44, .iload 5, 46, 5, 0, [], 0, 0),
  (46, .iconst 1, 47, 0, 0, [], 1, 0),
  (47, .isub, 48, 0, 0, [], 0, 0),
  (48, .iaload, 49, 0, 0, [], 0, 0),
  (49, .iastore, 50, 0, 0, [], 0, 0),
  (50, .aload_n 0, 51, 0, 0, [], 0, 0),
  (51, .getfield 15, 54, 2, 1, [], 0, 0),
  (54, .iload 5, 56, 5, 0, [], 0, 0),
  (56, .aload_n 0, 57, 0, 0, [], 0, 0),
  (57, .getfield 15, 60, 2, 1, [], 0, 0),
  (60, .iload 5, 62, 5, 0, [], 0, 0),
  (62, .iconst 1, 63, 0, 0, [], 1, 0),
  (63, .isub, 64, 0, 0, [], 0, 0),
  (64, .iaload, 65, 0, 0, [], 0, 0),
  (65, .iastore, 66, 0, 0, [], 0, 0),
  (66, .aload_n 0, 67, 0, 0, [], 0, 0),
  (67, .getfield 18, 70, 2, 2, [], 0, 0),
  (70, .iload 5, 72, 5, 0, [], 0, 0),
  (72, .aload_n 0, 73, 0, 0, [], 0, 0),
  (73, .getfield 18, 76, 2, 2, [], 0, 0),
  (76, .iload 5, 78, 5, 0, [], 0, 0),
  (78, .iconst 1, 79, 0, 0, [], 1, 0),
  (79, .isub, 80, 0, 0, [], 0, 0),
  (80, .iaload, 81, 0, 0, [], 0, 0),
  (81, .iastore, 82, 0, 0, [], 0, 0),
  (82, .iinc 5 (-1), 85, 5, 0, [], (-1), 0),
  (85, .goto (-57), 88, 28, 0, [], 0, 0),
  (88, .aload_n 0, 89, 0, 0, [], 0, 0),
  (89, .getfield 11, 92, 2, 0, [], 0, 0),
  (92, .iload_n 1, 93, 1, 0, [], 0, 0),
  (93, .iload_n 2, 94, 2, 0, [], 0, 0),
  (94, .iastore, 95, 0, 0, [], 0, 0),
  (95, .aload_n 0, 96, 0, 0, [], 0, 0),
  (96, .getfield 15, 99, 2, 1, [], 0, 0),
  (99, .iload_n 1, 100, 1, 0, [], 0, 0),
  (100, .iload_n 3, 101, 3, 0, [], 0, 0),
  (101, .iastore, 102, 0, 0, [], 0, 0),
  (102, .aload_n 0, 103, 0, 0, [], 0, 0),
  (103, .getfield 18, 106, 2, 2, [], 0, 0),
  (106, .iload_n 1, 107, 1, 0, [], 0, 0),
  (107, .iload 4, 109, 4, 0, [], 0, 0),
  (109, .iastore, 110, 0, 0, [], 0, 0),
  (110, .aload_n 0, 111, 0, 0, [], 0, 0),
  (111, .dup, 112, 0, 0, [], 0, 0),
  (112, .getfield 21, 115, 2, 3, [], 0, 0),
  (115, .iconst 1, 116, 0, 0, [], 1, 0),
  (116, .iadd, 117, 0, 0, [], 0, 0),
  (117, .putfield 21, 120, 2, 3, [], 0, 0),
  (120, .return_, 121, 0, 0, [], 0, 0)]
/-- yX2_canTake -/
def P8 : List En := [(0, .aload_n 0, 1, 0, 0, [], 0, 0),
  (1, .getfield 21, 4, 2, 3, [], 0, 0),
  (4, .bipush 40, 6, 0, 0, [], 40, 0),
  (6, .if_icmp .lt 11, 9, 17, 0, [], 0, 0),
  (9, .aload_n 0, 10, 0, 0, [], 0, 0),
  (10, .iload_n 1, 11, 1, 0, [], 0, 0),
  (11, .invokevirtual 39, 14, 9, 0, [], 0, 0),
  (14, .ifCond .lt 7, 17, 21, 0, [], 0, 0),
  (17, .iconst 1, 18, 0, 0, [], 1, 0),
  (18, .goto 4, 21, 22, 0, [], 0, 0),
  (21, .iconst 0, 22, 0, 0, [], 0, 0),
  (22, .ireturn, 23, 0, 0, [], 0, 0)]
/-- yX2_indexOf -/
def P9 : List En := [(0, .aload_n 0, 1, 0, 0, [], 0, 0),
  (1, .iload_n 1, 2, 1, 0, [], 0, 0),
  (2, .invokevirtual 35, 5, 10, 0, [], 0, 0),
  (5, .istore_n 2, 6, 2, 0, [], 0, 0),
  (6, .iload_n 2, 7, 2, 0, [], 0, 0),
  (7, .aload_n 0, 8, 0, 0, [], 0, 0),
  (8, .getfield 21, 11, 2, 3, [], 0, 0),
  (11, .if_icmp .ge 17, 14, 28, 0, [], 0, 0),
  (14, .aload_n 0, 15, 0, 0, [], 0, 0),
  (15, .getfield 11, 18, 2, 0, [], 0, 0),
  (18, .iload_n 2, 19, 2, 0, [], 0, 0),
  (19, .iaload, 20, 0, 0, [], 0, 0),
  (20, .iload_n 1, 21, 1, 0, [], 0, 0),
  (21, .if_icmp .ne 7, 24, 28, 0, [], 0, 0),
  (24, .iload_n 2, 25, 2, 0, [], 0, 0),
  (25, .goto 4, 28, 29, 0, [], 0, 0),
  (28, .iconst (-1), 29, 0, 0, [], (-1), 0),
  (29, .ireturn, 30, 0, 0, [], 0, 0)]
/-- yX2_lesser -/
def P10 : List En := [(0, .iconst 0, 1, 0, 0, [], 0, 0),
  (1, .istore_n 2, 2, 2, 0, [], 0, 0),
  (2, .iload_n 2, 3, 2, 0, [], 0, 0),
  (3, .aload_n 0, 4, 0, 0, [], 0, 0),
  (4, .getfield 21, 7, 2, 3, [], 0, 0),
  (7, .if_icmp .ge 19, 10, 26, 0, [], 0, 0),
  (10, .aload_n 0, 11, 0, 0, [], 0, 0),
  (11, .getfield 11, 14, 2, 0, [], 0, 0),
  (14, .iload_n 2, 15, 2, 0, [], 0, 0),
  (15, .iaload, 16, 0, 0, [], 0, 0),
  (16, .iload_n 1, 17, 1, 0, [], 0, 0),
  (17, .if_icmp .ge 9, 20, 26, 0, [], 0, 0),
  (20, .iinc 2 1, 23, 2, 0, [], 1, 0),
  (23, .goto (-21), 26, 2, 0, [], 0, 0),
  (26, .iload_n 2, 27, 2, 0, [], 0, 0),
  (27, .ireturn, 28, 0, 0, [], 0, 0)]
/-- yX2_place -/
def P11 : List En := [(0, .aload_n 0, 1, 0, 0, [], 0, 0),
  (1, .iload_n 1, 2, 1, 0, [], 0, 0),
  (2, .invokevirtual 35, 5, 10, 0, [], 0, 0),
  (5, .istore_n 3, 6, 3, 0, [], 0, 0),
  (6, .iload_n 3, 7, 3, 0, [], 0, 0),
  (7, .aload_n 0, 8, 0, 0, [], 0, 0),
  (8, .getfield 21, 11, 2, 3, [], 0, 0),
  (11, .if_icmp .ge 22, 14, 33, 0, [], 0, 0),
  (14, .aload_n 0, 15, 0, 0, [], 0, 0),
  (15, .getfield 11, 18, 2, 0, [], 0, 0),
  (18, .iload_n 3, 19, 3, 0, [], 0, 0),
  (19, .iaload, 20, 0, 0, [], 0, 0),
  (20, .iload_n 1, 21, 1, 0, [], 0, 0),
  (21, .if_icmp .ne 12, 24, 33, 0, [], 0, 0),
  (24, .aload_n 0, 25, 0, 0, [], 0, 0),
  (25, .getfield 15, 28, 2, 1, [], 0, 0),
  (28, .iload_n 3, 29, 3, 0, [], 0, 0),
  (29, .iload_n 2, 30, 2, 0, [], 0, 0),
  (30, .iastore, 31, 0, 0, [], 0, 0),
  (31, .iconst 1, 32, 0, 0, [], 1, 0),
  (32, .ireturn, 33, 0, 0, [], 0, 0),
  (33, .aload_n 0, 34, 0, 0, [], 0, 0),
  (34, .getfield 21, 37, 2, 3, [], 0, 0),
  (37, .bipush 40, 39, 0, 0, [], 40, 0),
  (39, .if_icmp .lt 5, 42, 44, 0, [], 0, 0),
  (42, .iconst 0, 43, 0, 0, [], 0, 0),
  (43, .ireturn, 44, 0, 0, [], 0, 0),
  (44, .aload_n 0, 45, 0, 0, [], 0, 0),
  (45, .invokevirtual 51, 48, 12, 0, [], 0, 0),
  (48, .istore 4, 50, 4, 0, [], 0, 0),
  (50, .iload 4, 52, 4, 0, [], 0, 0),
  (52, .iconst 1, 53, 0, 0, [], 1, 0),
  (53, .if_icmp .lt 16, 56, 69, 0, [], 0, 0),
  (56, .aload_n 0, 57, 0, 0, [], 0, 0),
  (57, .iload 4, 59, 4, 0, [], 0, 0),
  (59, .iload_n 3, 60, 3, 0, [], 0, 0),
  (60, .invokevirtual 58, 63, 13, 0, [], 0, 0),
  (63, .iinc 4 (-1), 66, 4, 0, [], (-1), 0),
  (66, .goto (-16), 69, 50, 0, [], 0, 0),
  (69, .aload_n 0, 70, 0, 0, [], 0, 0),
  (70, .iload_n 3, 71, 3, 0, [], 0, 0),
  (71, .iload_n 1, 72, 1, 0, [], 0, 0),
  (72, .iload_n 2, 73, 2, 0, [], 0, 0),
  (73, .iconst 0, 74, 0, 0, [], 0, 0),
  (74, .invokevirtual 31, 77, 7, 0, [], 0, 0),
  (77, .iconst 1, 78, 0, 0, [], 1, 0),
  (78, .ireturn, 79, 0, 0, [], 0, 0)]
/-- yX2_top -/
def P12 : List En := [(0, .iconst 0, 1, 0, 0, [], 0, 0),
  (1, .istore_n 1, 2, 1, 0, [], 0, 0),
  (2, .iconst 0, 3, 0, 0, [], 0, 0),
  (3, .istore_n 2, 4, 2, 0, [], 0, 0),
  (4, .iload_n 2, 5, 2, 0, [], 0, 0),
  (5, .aload_n 0, 6, 0, 0, [], 0, 0),
  (6, .getfield 21, 9, 2, 3, [], 0, 0),
  (9, .if_icmp .ge 22, 12, 31, 0, [], 0, 0),
  (12, .iload_n 1, 13, 1, 0, [], 0, 0),
  (13, .aload_n 0, 14, 0, 0, [], 0, 0),
  (14, .getfield 18, 17, 2, 2, [], 0, 0),
  (17, .iload_n 2, 18, 2, 0, [], 0, 0),
  (18, .iaload, 19, 0, 0, [], 0, 0),
  (19, .iconst 1, 20, 0, 0, [], 1, 0),
  (20, .iadd, 21, 0, 0, [], 0, 0),
  (21, .invokestatic 42, 24, 0, 1, [], 0, 0),
  (24, .istore_n 1, 25, 1, 0, [], 0, 0),
  (25, .iinc 2 1, 28, 2, 0, [], 1, 0),
  (28, .goto (-24), 31, 4, 0, [], 0, 0),
  (31, .iload_n 1, 32, 1, 0, [], 0, 0),
  (32, .ireturn, 33, 0, 0, [], 0, 0)]
/-- yX2_partIfFull -/
def P13 : List En := [(0, .aload_n 0, 1, 0, 0, [], 0, 0),
  (1, .iload_n 2, 2, 2, 0, [], 0, 0),
  (2, .iload_n 1, 3, 1, 0, [], 0, 0),
  (3, .invokevirtual 55, 6, 14, 0, [], 0, 0),
  (6, .iconst 1, 7, 0, 0, [], 1, 0),
  (7, .iadd, 8, 0, 0, [], 0, 0),
  (8, .istore_n 3, 9, 3, 0, [], 0, 0),
  (9, .aload_n 0, 10, 0, 0, [], 0, 0),
  (10, .iload_n 2, 11, 2, 0, [], 0, 0),
  (11, .iload_n 1, 12, 1, 0, [], 0, 0),
  (12, .invokevirtual 80, 15, 15, 0, [], 0, 0),
  (15, .istore 4, 17, 4, 0, [], 0, 0),
  (17, .aload_n 0, 18, 0, 0, [], 0, 0),
  (18, .iload_n 1, 19, 1, 0, [], 0, 0),
  (19, .iconst 1, 20, 0, 0, [], 1, 0),
  (20, .isub, 21, 0, 0, [], 0, 0),
  (21, .iload_n 3, 22, 3, 0, [], 0, 0),
  (22, .iload 4, 24, 4, 0, [], 0, 0),
  (24, .invokevirtual 83, 27, 16, 0, [], 0, 0),
  (27, .iconst 3, 28, 0, 0, [], 3, 0),
  (28, .if_icmp .ne 18, 31, 46, 0, [], 0, 0),
  (31, .aload_n 0, 32, 0, 0, [], 0, 0),
  (32, .aload_n 0, 33, 0, 0, [], 0, 0),
  (33, .iconst 2, 34, 0, 0, [], 2, 0),
  (34, .iload_n 1, 35, 1, 0, [], 0, 0),
  (35, .iconst 1, 36, 0, 0, [], 1, 0),
  (36, .isub, 37, 0, 0, [], 0, 0),
  (37, .iload_n 3, 38, 3, 0, [], 0, 0),
  (38, .iload 4, 40, 4, 0, [], 0, 0),
  (40, .invokevirtual 87, 43, 17, 0, [], 0, 0),
  (43, .invokevirtual 91, 46, 18, 0, [], 0, 0),
  (46, .return_, 47, 0, 0, [], 0, 0)]
/-- yX2_ahead -/
def P14 : List En := [(0, .iload_n 1, 1, 1, 0, [], 0, 0),
  (1, .aload_n 0, 2, 0, 0, [], 0, 0),
  (2, .getfield 21, 5, 2, 3, [], 0, 0),
  (5, .invokestatic 48, 8, 0, 2, [], 0, 0),
  (8, .iconst 1, 9, 0, 0, [], 1, 0),
  (9, .isub, 10, 0, 0, [], 0, 0),
  (10, .istore_n 3, 11, 3, 0, [], 0, 0),
  (11, .iload_n 3, 12, 3, 0, [], 0, 0),
  (12, .ifCond .lt 19, 15, 31, 0, [], 0, 0),
  (15, .aload_n 0, 16, 0, 0, [], 0, 0),
  (16, .getfield 18, 19, 2, 2, [], 0, 0),
  (19, .iload_n 3, 20, 3, 0, [], 0, 0),
  (20, .iaload, 21, 0, 0, [], 0, 0),
  (21, .iload_n 2, 22, 2, 0, [], 0, 0),
  (22, .if_icmp .ge 9, 25, 31, 0, [], 0, 0),
  (25, .iinc 3 (-1), 28, 3, 0, [], (-1), 0),
  (28, .goto (-17), 31, 11, 0, [], 0, 0),
  (31, .iload_n 3, 32, 3, 0, [], 0, 0),
  (32, .ireturn, 33, 0, 0, [], 0, 0)]
/-- yX2_behind -/
def P15 : List En := [(0, .iload_n 1, 1, 1, 0, [], 0, 0),
  (1, .iconst 0, 2, 0, 0, [], 0, 0),
  (2, .invokestatic 42, 5, 0, 1, [], 0, 0),
  (5, .istore_n 3, 6, 3, 0, [], 0, 0),
  (6, .iload_n 3, 7, 3, 0, [], 0, 0),
  (7, .aload_n 0, 8, 0, 0, [], 0, 0),
  (8, .getfield 21, 11, 2, 3, [], 0, 0),
  (11, .if_icmp .ge 19, 14, 30, 0, [], 0, 0),
  (14, .aload_n 0, 15, 0, 0, [], 0, 0),
  (15, .getfield 18, 18, 2, 2, [], 0, 0),
  (18, .iload_n 3, 19, 3, 0, [], 0, 0),
  (19, .iaload, 20, 0, 0, [], 0, 0),
  (20, .iload_n 2, 21, 2, 0, [], 0, 0),
  (21, .if_icmp .ge 9, 24, 30, 0, [], 0, 0),
  (24, .iinc 3 1, 27, 3, 0, [], 1, 0),
  (27, .goto (-21), 30, 6, 0, [], 0, 0),
  (30, .iload_n 3, 31, 3, 0, [], 0, 0),
  (31, .aload_n 0, 32, 0, 0, [], 0, 0),
  (32, .getfield 21, 35, 2, 3, [], 0, 0),
  (35, .invokestatic 48, 38, 0, 2, [], 0, 0),
  (38, .ireturn, 39, 0, 0, [], 0, 0)]
/-- yX2_countOf -/
def P16 : List En := [(0, .iconst 0, 1, 0, 0, [], 0, 0),
  (1, .istore 4, 3, 4, 0, [], 0, 0),
  (3, .iload_n 2, 4, 2, 0, [], 0, 0),
  (4, .iconst 0, 5, 0, 0, [], 0, 0),
  (5, .invokestatic 42, 8, 0, 1, [], 0, 0),
  (8, .istore 5, 10, 5, 0, [], 0, 0),
  (10, .iload 5, 12, 5, 0, [], 0, 0),
  (12, .iload_n 3, 13, 3, 0, [], 0, 0),
  (13, .if_icmp .ge 32, 16, 45, 0, [], 0, 0),
  (16, .iload 5, 18, 5, 0, [], 0, 0),
  (18, .aload_n 0, 19, 0, 0, [], 0, 0),
  (19, .getfield 21, 22, 2, 3, [], 0, 0),
  (22, .if_icmp .ge 23, 25, 45, 0, [], 0, 0),
  (25, .aload_n 0, 26, 0, 0, [], 0, 0),
  (26, .getfield 18, 29, 2, 2, [], 0, 0),
  (29, .iload 5, 31, 5, 0, [], 0, 0),
  (31, .iaload, 32, 0, 0, [], 0, 0),
  (32, .iload_n 1, 33, 1, 0, [], 0, 0),
  (33, .if_icmp .ne 6, 36, 39, 0, [], 0, 0),
  (36, .iinc 4 1, 39, 4, 0, [], 1, 0),
  (39, .iinc 5 1, 42, 5, 0, [], 1, 0),
  (42, .goto (-32), 45, 10, 0, [], 0, 0),
  (45, .iload 4, 47, 4, 0, [], 0, 0),
  (47, .ireturn, 48, 0, 0, [], 0, 0)]
/-- yX2_nth -/
def P17 : List En := [(0, .iconst 0, 1, 0, 0, [], 0, 0),
  (1, .istore 5, 3, 5, 0, [], 0, 0),
  (3, .iload_n 3, 4, 3, 0, [], 0, 0),
  (4, .iconst 0, 5, 0, 0, [], 0, 0),
  (5, .invokestatic 42, 8, 0, 1, [], 0, 0),
  (8, .istore 6, 10, 6, 0, [], 0, 0),
  (10, .iload 6, 12, 6, 0, [], 0, 0),
  (12, .iload 4, 14, 4, 0, [], 0, 0),
  (14, .if_icmp .ge 41, 17, 55, 0, [], 0, 0),
  (17, .iload 6, 19, 6, 0, [], 0, 0),
  (19, .aload_n 0, 20, 0, 0, [], 0, 0),
  (20, .getfield 21, 23, 2, 3, [], 0, 0),
  (23, .if_icmp .ge 32, 26, 55, 0, [], 0, 0),
  (26, .aload_n 0, 27, 0, 0, [], 0, 0),
  (27, .getfield 18, 30, 2, 2, [], 0, 0),
  (30, .iload 6, 32, 6, 0, [], 0, 0),
  (32, .iaload, 33, 0, 0, [], 0, 0),
  (33, .iload_n 2, 34, 2, 0, [], 0, 0),
  (34, .if_icmp .ne 15, 37, 49, 0, [], 0, 0),
  (37, .iinc 5 1, 40, 5, 0, [], 1, 0),
  (40, .iload 5, 42, 5, 0, [], 0, 0),
  (42, .iload_n 1, 43, 1, 0, [], 0, 0),
  (43, .if_icmp .ne 6, 46, 49, 0, [], 0, 0),
  (46, .iload 6, 48, 6, 0, [], 0, 0),
  (48, .ireturn, 49, 0, 0, [], 0, 0),
  (49, .iinc 6 1, 52, 6, 0, [], 1, 0),
  (52, .goto (-42), 55, 10, 0, [], 0, 0),
  (55, .iconst (-1), 56, 0, 0, [], (-1), 0),
  (56, .ireturn, 57, 0, 0, [], 0, 0)]
/-- yX2_raise -/
def P18 : List En := [(0, .iload_n 1, 1, 1, 0, [], 0, 0),
  (1, .ifCond .lt 21, 4, 22, 0, [], 0, 0),
  (4, .iload_n 1, 5, 1, 0, [], 0, 0),
  (5, .aload_n 0, 6, 0, 0, [], 0, 0),
  (6, .getfield 21, 9, 2, 3, [], 0, 0),
  (9, .if_icmp .ge 13, 12, 22, 0, [], 0, 0),
  (12, .aload_n 0, 13, 0, 0, [], 0, 0),
  (13, .getfield 18, 16, 2, 2, [], 0, 0),
  (16, .iload_n 1, 17, 1, 0, [], 0, 0),
  (17, .dup2, 18, 0, 0, [], 0, 0),
  (18, .iaload, 19, 0, 0, [], 0, 0),
  (19, .iconst 1, 20, 0, 0, [], 1, 0),
  (20, .iadd, 21, 0, 0, [], 0, 0),
  (21, .iastore, 22, 0, 0, [], 0, 0),
  (22, .return_, 23, 0, 0, [], 0, 0)]
/-- yX2_takeOut -/
def P19 : List En := [(0, .aload_n 0, 1, 0, 0, [], 0, 0),
  (1, .iload_n 1, 2, 1, 0, [], 0, 0),
  (2, .invokevirtual 39, 5, 9, 0, [], 0, 0),
  (5, .istore_n 2, 6, 2, 0, [], 0, 0),
  (6, .iload_n 2, 7, 2, 0, [], 0, 0),
  (7, .ifCond .ge 5, 10, 12, 0, [], 0, 0),
  (10, .iconst 0, 11, 0, 0, [], 0, 0),
  (11, .ireturn, 12, 0, 0, [], 0, 0),
  (12, .aload_n 0, 13, 0, 0, [], 0, 0),
  (13, .getfield 18, 16, 2, 2, [], 0, 0),
  (16, .iload_n 2, 17, 2, 0, [], 0, 0),
  (17, .iaload, 18, 0, 0, [], 0, 0),
  (18, .ifCond .le 21, 21, 39, 0, [], 0, 0),
  (21, .iload_n 2, 22, 2, 0, [], 0, 0),
  (22, .iconst 1, 23, 0, 0, [], 1, 0),
  (23, .iadd, 24, 0, 0, [], 0, 0),
  (24, .aload_n 0, 25, 0, 0, [], 0, 0),
  (25, .getfield 21, 28, 2, 3, [], 0, 0),
  (28, .if_icmp .ge 11, 31, 39, 0, [], 0, 0),
  (31, .aload_n 0, 32, 0, 0, [], 0, 0),
  (32, .iload_n 2, 33, 2, 0, [], 0, 0),
  (33, .invokevirtual 62, 36, 20, 0, [], 0, 0),
  (36, .iinc 2 1, 39, 2, 0, [], 1, 0),
  (39, .aload_n 0, 40, 0, 0, [], 0, 0),
  (40, .invokevirtual 51, 43, 12, 0, [], 0, 0),
  (43, .iconst 1, 44, 0, 0, [], 1, 0),
  (44, .isub, 45, 0, 0, [], 0, 0),
  (45, .istore_n 3, 46, 3, 0, [], 0, 0),
  (46, .iload_n 3, 47, 3, 0, [], 0, 0),
  (47, .iconst 1, 48, 0, 0, [], 1, 0),
  (48, .if_icmp .lt 15, 51, 63, 0, [], 0, 0),
  (51, .aload_n 0, 52, 0, 0, [], 0, 0),
  (52, .iload_n 3, 53, 3, 0, [], 0, 0),
  (53, .iload_n 2, 54, 2, 0, [], 0, 0),
  (54, .invokevirtual 66, 57, 21, 0, [], 0, 0),
  (57, .iinc 3 (-1), 60, 3, 0, [], (-1), 0),
  (60, .goto (-14), 63, 46, 0, [], 0, 0),
  (63, .aload_n 0, 64, 0, 0, [], 0, 0),
  (64, .iload_n 2, 65, 2, 0, [], 0, 0),
  (65, .invokevirtual 69, 68, 24, 0, [], 0, 0),
  (68, .iconst 1, 69, 0, 0, [], 1, 0),
  (69, .ireturn, 70, 0, 0, [], 0, 0)]
/-- yX2_changePlaces -/
def P20 : List En := [(0, .aload_n 0, 1, 0, 0, [], 0, 0),
  (1, .getfield 11, 4, 2, 0, [], 0, 0),
  (4, .iload_n 1, 5, 1, 0, [], 0, 0),
  (5, .iaload, 6, 0, 0, [], 0, 0),
  (6, .istore_n 2, 7, 2, 0, [], 0, 0),
  (7, .aload_n 0, 8, 0, 0, [], 0, 0),
  (8, .getfield 15, 11, 2, 1, [], 0, 0),
  (11, .iload_n 1, 12, 1, 0, [], 0, 0),
  (12, .iaload, 13, 0, 0, [], 0, 0),
  (13, .istore_n 3, 14, 3, 0, [], 0, 0),
  (14, .aload_n 0, 15, 0, 0, [], 0, 0),
  (15, .getfield 11, 18, 2, 0, [], 0, 0),
  (18, .iload_n 1, 19, 1, 0, [], 0, 0),
  (19, .aload_n 0, 20, 0, 0, [], 0, 0),
  (20, .getfield 11, 23, 2, 0, [], 0, 0),
  (23, .iload_n 1, 24, 1, 0, [], 0, 0),
  (24, .iconst 1, 25, 0, 0, [], 1, 0),
  (25, .iadd, 26, 0, 0, [], 0, 0),
  (26, .iaload, 27, 0, 0, [], 0, 0),
  (27, .iastore, 28, 0, 0, [], 0, 0),
  (28, .aload_n 0, 29, 0, 0, [], 0, 0),
  (29, .getfield 15, 32, 2, 1, [], 0, 0),
  (32, .iload_n 1, 33, 1, 0, [], 0, 0),
  (33, .aload_n 0, 34, 0, 0, [], 0, 0),
  (34, .getfield 15, 37, 2, 1, [], 0, 0),
  (37, .iload_n 1, 38, 1, 0, [], 0, 0),
  (38, .iconst 1, 39, 0, 0, [], 1, 0),
  (39, .iadd, 40, 0, 0, [], 0, 0),
  (40, .iaload, 41, 0, 0, [], 0, 0),
  (41, .iastore, 42, 0, 0, [], 0, 0),
  (42, .aload_n 0, 43, 0, 0, [], 0, 0),
  (43, .getfield 11, 46, 2, 0, [], 0, 0),
  (46, .iload_n 1, 47, 1, 0, [], 0, 0),
  (47, .iconst 1, 48, 0, 0, [], 1, 0),
  (48, .iadd, 49, 0, 0, [], 0, 0),
  (49, .iload_n 2, 50, 2, 0, [], 0, 0),
  (50, .iastore, 51, 0, 0, [], 0, 0),
  (51, .aload_n 0, 52, 0, 0, [], 0, 0),
  (52, .getfield 15, 55, 2, 1, [], 0, 0),
  (55, .iload_n 1, 56, 1, 0, [], 0, 0),
  (56, .iconst 1, 57, 0, 0, [], 1, 0),
  (57, .iadd, 58, 0, 0, [], 0, 0),
  (58, .iload_n 3, 59, 3, 0, [], 0, 0),
  (59, .iastore, 60, 0, 0, [], 0, 0),
  (60, .return_, 61, 0, 0, [], 0, 0)]
/-- yX2_helpIfPoor -/
def P21 : List En := [(0, .aload_n 0, 1, 0, 0, [], 0, 0),
  (1, .iload_n 2, 2, 2, 0, [], 0, 0),
  (2, .iload_n 1, 3, 1, 0, [], 0, 0),
  (3, .invokevirtual 55, 6, 14, 0, [], 0, 0),
  (6, .istore_n 3, 7, 3, 0, [], 0, 0),
  (7, .aload_n 0, 8, 0, 0, [], 0, 0),
  (8, .iload_n 2, 9, 2, 0, [], 0, 0),
  (9, .iload_n 1, 10, 1, 0, [], 0, 0),
  (10, .invokevirtual 80, 13, 15, 0, [], 0, 0),
  (13, .istore 4, 15, 4, 0, [], 0, 0),
  (15, .aload_n 0, 16, 0, 0, [], 0, 0),
  (16, .iload_n 1, 17, 1, 0, [], 0, 0),
  (17, .iconst 1, 18, 0, 0, [], 1, 0),
  (18, .isub, 19, 0, 0, [], 0, 0),
  (19, .iload_n 3, 20, 3, 0, [], 0, 0),
  (20, .iconst 1, 21, 0, 0, [], 1, 0),
  (21, .iadd, 22, 0, 0, [], 0, 0),
  (22, .iload 4, 24, 4, 0, [], 0, 0),
  (24, .invokevirtual 83, 27, 16, 0, [], 0, 0),
  (27, .iconst 1, 28, 0, 0, [], 1, 0),
  (28, .if_icmp .eq 4, 31, 32, 0, [], 0, 0),
  (31, .return_, 32, 0, 0, [], 0, 0),
  (32, .iload 4, 34, 4, 0, [], 0, 0),
  (34, .aload_n 0, 35, 0, 0, [], 0, 0),
  (35, .getfield 21, 38, 2, 3, [], 0, 0),
  (38, .if_icmp .ge 24, 41, 62, 0, [], 0, 0),
  (41, .aload_n 0, 42, 0, 0, [], 0, 0),
  (42, .getfield 18, 45, 2, 2, [], 0, 0),
  (45, .iload 4, 47, 4, 0, [], 0, 0),
  (47, .iaload, 48, 0, 0, [], 0, 0),
  (48, .iload_n 1, 49, 1, 0, [], 0, 0),
  (49, .if_icmp .ne 13, 52, 62, 0, [], 0, 0),
  (52, .aload_n 0, 53, 0, 0, [], 0, 0),
  (53, .iload_n 1, 54, 1, 0, [], 0, 0),
  (54, .iload 4, 56, 4, 0, [], 0, 0),
  (56, .invokevirtual 94, 59, 22, 0, [], 0, 0),
  (59, .goto 13, 62, 72, 0, [], 0, 0),
  (62, .iload_n 3, 63, 3, 0, [], 0, 0),
  (63, .ifCond .lt 9, 66, 72, 0, [], 0, 0),
  (66, .aload_n 0, 67, 0, 0, [], 0, 0),
  (67, .iload_n 1, 68, 1, 0, [], 0, 0),
  (68, .iload_n 3, 69, 3, 0, [], 0, 0),
  (69, .invokevirtual 97, 72, 23, 0, [], 0, 0),
  (72, .return_, 73, 0, 0, [], 0, 0)]
/-- yX2_helpFromBehind -/
def P22 : List En := [(0, .aload_n 0, 1, 0, 0, [], 0, 0),
  (1, .iload_n 2, 2, 2, 0, [], 0, 0),
  (2, .iconst 1, 3, 0, 0, [], 1, 0),
  (3, .iadd, 4, 0, 0, [], 0, 0),
  (4, .iload_n 1, 5, 1, 0, [], 0, 0),
  (5, .invokevirtual 80, 8, 15, 0, [], 0, 0),
  (8, .istore_n 3, 9, 3, 0, [], 0, 0),
  (9, .aload_n 0, 10, 0, 0, [], 0, 0),
  (10, .iload_n 1, 11, 1, 0, [], 0, 0),
  (11, .iconst 1, 12, 0, 0, [], 1, 0),
  (12, .isub, 13, 0, 0, [], 0, 0),
  (13, .iload_n 2, 14, 2, 0, [], 0, 0),
  (14, .iconst 1, 15, 0, 0, [], 1, 0),
  (15, .iadd, 16, 0, 0, [], 0, 0),
  (16, .iload_n 3, 17, 3, 0, [], 0, 0),
  (17, .invokevirtual 83, 20, 16, 0, [], 0, 0),
  (20, .iconst 2, 21, 0, 0, [], 2, 0),
  (21, .if_icmp .lt 19, 24, 40, 0, [], 0, 0),
  (24, .aload_n 0, 25, 0, 0, [], 0, 0),
  (25, .aload_n 0, 26, 0, 0, [], 0, 0),
  (26, .iconst 1, 27, 0, 0, [], 1, 0),
  (27, .iload_n 1, 28, 1, 0, [], 0, 0),
  (28, .iconst 1, 29, 0, 0, [], 1, 0),
  (29, .isub, 30, 0, 0, [], 0, 0),
  (30, .iload_n 2, 31, 2, 0, [], 0, 0),
  (31, .iconst 1, 32, 0, 0, [], 1, 0),
  (32, .iadd, 33, 0, 0, [], 0, 0),
  (33, .iload_n 3, 34, 3, 0, [], 0, 0),
  (34, .invokevirtual 87, 37, 17, 0, [], 0, 0),
  (37, .invokevirtual 91, 40, 18, 0, [], 0, 0),
  (40, .aload_n 0, 41, 0, 0, [], 0, 0),
  (41, .getfield 18, 44, 2, 2, [], 0, 0),
  (44, .iload_n 2, 45, 2, 0, [], 0, 0),
  (45, .dup2, 46, 0, 0, [], 0, 0),
  (46, .iaload, 47, 0, 0, [], 0, 0),
  (47, .iconst 1, 48, 0, 0, [], 1, 0),
  (48, .isub, 49, 0, 0, [], 0, 0),
  (49, .iastore, 50, 0, 0, [], 0, 0),
  (50, .return_, 51, 0, 0, [], 0, 0)]
/-- yX2_helpFromAhead -/
def P23 : List En := [(0, .aload_n 0, 1, 0, 0, [], 0, 0),
  (1, .iload_n 2, 2, 2, 0, [], 0, 0),
  (2, .iload_n 1, 3, 1, 0, [], 0, 0),
  (3, .invokevirtual 55, 6, 14, 0, [], 0, 0),
  (6, .iconst 1, 7, 0, 0, [], 1, 0),
  (7, .iadd, 8, 0, 0, [], 0, 0),
  (8, .istore_n 3, 9, 3, 0, [], 0, 0),
  (9, .aload_n 0, 10, 0, 0, [], 0, 0),
  (10, .iload_n 1, 11, 1, 0, [], 0, 0),
  (11, .iconst 1, 12, 0, 0, [], 1, 0),
  (12, .isub, 13, 0, 0, [], 0, 0),
  (13, .iload_n 3, 14, 3, 0, [], 0, 0),
  (14, .iload_n 2, 15, 2, 0, [], 0, 0),
  (15, .invokevirtual 83, 18, 16, 0, [], 0, 0),
  (18, .istore 4, 20, 4, 0, [], 0, 0),
  (20, .iload 4, 22, 4, 0, [], 0, 0),
  (22, .iconst 2, 23, 0, 0, [], 2, 0),
  (23, .if_icmp .lt 18, 26, 41, 0, [], 0, 0),
  (26, .aload_n 0, 27, 0, 0, [], 0, 0),
  (27, .aload_n 0, 28, 0, 0, [], 0, 0),
  (28, .iload 4, 30, 4, 0, [], 0, 0),
  (30, .iload_n 1, 31, 1, 0, [], 0, 0),
  (31, .iconst 1, 32, 0, 0, [], 1, 0),
  (32, .isub, 33, 0, 0, [], 0, 0),
  (33, .iload_n 3, 34, 3, 0, [], 0, 0),
  (34, .iload_n 2, 35, 2, 0, [], 0, 0),
  (35, .invokevirtual 87, 38, 17, 0, [], 0, 0),
  (38, .invokevirtual 91, 41, 18, 0, [], 0, 0),
  (41, .aload_n 0, 42, 0, 0, [], 0, 0),
  (42, .getfield 18, 45, 2, 2, [], 0, 0),
  (45, .iload_n 2, 46, 2, 0, [], 0, 0),
  (46, .dup2, 47, 0, 0, [], 0, 0),
  (47, .iaload, 48, 0, 0, [], 0, 0),
  (48, .iconst 1, 49, 0, 0, [], 1, 0),
  (49, .isub, 50, 0, 0, [], 0, 0),
  (50, .iastore, 51, 0, 0, [], 0, 0),
  (51, .return_, 52, 0, 0, [], 0, 0)]
/-- yX2_closeAt -/
def P24 : List En := [(0, .iload_n 1, 1, 1, 0, [], 0, 0),
  (1, .ifCond .lt 11, 4, 12, 0, [], 0, 0),
  (4, .iload_n 1, 5, 1, 0, [], 0, 0),
  (5, .aload_n 0, 6, 0, 0, [], 0, 0),
  (6, .getfield 21, 9, 2, 3, [], 0, 0),
  (9, .if_icmp .lt 4, 12, 13, 0, [], 0, 0),
  (12, .return_, 13, 0, 0, [], 0, 0),
  (13, .aload_n 0, 14, 0, 0, [], 0, 0),
  (14, .dup, 15, 0, 0, [], 0, 0),
  (15, .getfield 21, 18, 2, 3, [], 0, 0),
  (18, .iconst 1, 19, 0, 0, [], 1, 0),
  (19, .isub, 20, 0, 0, [], 0, 0),
  (20, .putfield 21, 23, 2, 3, [], 0, 0),
  (23, .iload_n 1, 24, 1, 0, [], 0, 0),
  (24, .istore_n 2, 25, 2, 0, [], 0, 0),
  (25, .iload_n 2, 26, 2, 0, [], 0, 0),
  (26, .aload_n 0, 27, 0, 0, [], 0, 0),
  (27, .getfield 21, 30, 2, 3, [], 0, 0),
  (30, .if_icmp .ge 51, 33, 81, 0, [], 0, 0),
  (33, .aload_n 0, 34, 0, 0, [], 0, 0),
  (34, .getfield 11, 37, 2, 0, [], 0, 0),
  (37, .iload_n 2, 38, 2, 0, [], 0, 0),
  (38, .aload_n 0, 39, 0, 0, [], 0, 0),
  (39, .getfield 11, 42, 2, 0, [], 0, 0),
  (42, .iload_n 2, 43, 2, 0, [], 0, 0),
  (43, .iconst 1, 44, 0, 0, [], 1, 0),
  (44, .iadd, 45, 0, 0, [], 0, 0),
  (45, .iaload, 46, 0, 0, [], 0, 0),
  (46, .iastore, 47, 0, 0, [], 0, 0),
  (47, .aload_n 0, 48, 0, 0, [], 0, 0),
  (48, .getfield 15, 51, 2, 1, [], 0, 0),
  (51, .iload_n 2, 52, 2, 0, [], 0, 0),
  (52, .aload_n 0, 53, 0, 0, [], 0, 0),
  (53, .getfield 15, 56, 2, 1, [], 0, 0),
  (56, .iload_n 2, 57, 2, 0, [], 0, 0),
  (57, .iconst 1, 58, 0, 0, [], 1, 0),
  (58, .iadd, 59, 0, 0, [], 0, 0),
  (59, .iaload, 60, 0, 0, [], 0, 0),
  (60, .iastore, 61, 0, 0, [], 0, 0),
  (61, .aload_n 0, 62, 0, 0, [], 0, 0),
  (62, .getfield 18, 65, 2, 2, [], 0, 0),
  (65, .iload_n 2, 66, 2, 0, [], 0, 0),
  (66, .aload_n 0, 67, 0, 0, [], 0, 0),
  (67, .getfield 18, 70, 2, 2, [], 0, 0),
  (70, .iload_n 2, 71, 2, 0, [], 0, 0),
  (71, .iconst 1, 72, 0, 0, [], 1, 0),
  (72, .iadd, 73, 0, 0, [], 0, 0),
  (73, .iaload, 74, 0, 0, [], 0, 0),
  (74, .iastore, 75, 0, 0, [], 0, 0),
  (75, .iinc 2 1, 78, 2, 0, [], 1, 0),
  (78, .goto (-53), 81, 25, 0, [], 0, 0),
  (81, .return_, 82, 0, 0, [], 0, 0)]
/-- yX2_newTo -/
def P25 : List En := [(0, .iconst 0, 1, 0, 0, [], 0, 0),
  (1, .istore 4, 3, 4, 0, [], 0, 0),
  (3, .iconst 0, 4, 0, 0, [], 0, 0),
  (4, .istore 5, 6, 5, 0, [], 0, 0),
  (6, .iload 5, 8, 5, 0, [], 0, 0),
  (8, .aload_n 0, 9, 0, 0, [], 0, 0),
  (9, .getfield 21, 12, 2, 3, [], 0, 0),
  (12, .if_icmp .ge 48, 15, 60, 0, [], 0, 0),
  (15, .aload_n 0, 16, 0, 0, [], 0, 0),
  (16, .getfield 11, 19, 2, 0, [], 0, 0),
  (19, .iload 5, 21, 5, 0, [], 0, 0),
  (21, .iaload, 22, 0, 0, [], 0, 0),
  (22, .iload_n 2, 23, 2, 0, [], 0, 0),
  (23, .if_icmp .lt 31, 26, 54, 0, [], 0, 0),
  (26, .aload_n 0, 27, 0, 0, [], 0, 0),
  (27, .getfield 11, 30, 2, 0, [], 0, 0),
  (30, .iload 5, 32, 5, 0, [], 0, 0),
  (32, .iaload, 33, 0, 0, [], 0, 0),
  (33, .iload_n 3, 34, 3, 0, [], 0, 0),
  (34, .if_icmp .gt 20, 37, 54, 0, [], 0, 0),
  (37, .aload_n 1, 38, 1, 0, [], 0, 0),
  (38, .aload_n 0, 39, 0, 0, [], 0, 0),
  (39, .getfield 11, 42, 2, 0, [], 0, 0),
  (42, .iload 5, 44, 5, 0, [], 0, 0),
  (44, .iaload, 45, 0, 0, [], 0, 0),
  (45, .invokevirtual 39, 48, 9, 0, [], 0, 0),
  (48, .ifCond .ge 6, 51, 54, 0, [], 0, 0),
  (51, .iinc 4 1, 54, 4, 0, [], 1, 0),
  (54, .iinc 5 1, 57, 5, 0, [], 1, 0),
  (57, .goto (-51), 60, 6, 0, [], 0, 0),
  (60, .iload 4, 62, 4, 0, [], 0, 0),
  (62, .ireturn, 63, 0, 0, [], 0, 0)]
/-- yX2_moveTo -/
def P26 : List En := [(0, .iconst 0, 1, 0, 0, [], 0, 0),
  (1, .istore 4, 3, 4, 0, [], 0, 0),
  (3, .iload_n 2, 4, 2, 0, [], 0, 0),
  (4, .istore 5, 6, 5, 0, [], 0, 0),
  (6, .iload 5, 8, 5, 0, [], 0, 0),
  (8, .iload_n 3, 9, 3, 0, [], 0, 0),
  (9, .if_icmp .gt 50, 12, 59, 0, [], 0, 0),
  (12, .aload_n 0, 13, 0, 0, [], 0, 0),
  (13, .iload 5, 15, 5, 0, [], 0, 0),
  (15, .invokevirtual 39, 18, 9, 0, [], 0, 0),
  (18, .istore 6, 20, 6, 0, [], 0, 0),
  (20, .iload 6, 22, 6, 0, [], 0, 0),
  (22, .ifCond .lt 31, 25, 53, 0, [], 0, 0),
  (25, .aload_n 0, 26, 0, 0, [], 0, 0),
  (26, .getfield 15, 29, 2, 1, [], 0, 0),
  (29, .iload 6, 31, 6, 0, [], 0, 0),
  (31, .iaload, 32, 0, 0, [], 0, 0),
  (32, .istore 7, 34, 7, 0, [], 0, 0),
  (34, .aload_n 0, 35, 0, 0, [], 0, 0),
  (35, .iload 5, 37, 5, 0, [], 0, 0),
  (37, .invokevirtual 72, 40, 19, 0, [], 0, 0),
  (40, .pop, 41, 0, 0, [], 0, 0),
  (41, .aload_n 1, 42, 1, 0, [], 0, 0),
  (42, .iload 5, 44, 5, 0, [], 0, 0),
  (44, .iload 7, 46, 7, 0, [], 0, 0),
  (46, .invokevirtual 76, 49, 11, 0, [], 0, 0),
  (49, .pop, 50, 0, 0, [], 0, 0),
  (50, .iinc 4 1, 53, 4, 0, [], 1, 0),
  (53, .iinc 5 1, 56, 5, 0, [], 1, 0),
  (56, .goto (-50), 59, 6, 0, [], 0, 0),
  (59, .iload 4, 61, 4, 0, [], 0, 0),
  (61, .ireturn, 62, 0, 0, [], 0, 0)]
/-- yX2_allHeights -/
def P27 : List En := [(0, .iconst 0, 1, 0, 0, [], 0, 0),
  (1, .istore_n 1, 2, 1, 0, [], 0, 0),
  (2, .iconst 0, 3, 0, 0, [], 0, 0),
  (3, .istore_n 2, 4, 2, 0, [], 0, 0),
  (4, .iload_n 2, 5, 2, 0, [], 0, 0),
  (5, .aload_n 0, 6, 0, 0, [], 0, 0),
  (6, .getfield 21, 9, 2, 3, [], 0, 0),
  (9, .if_icmp .ge 18, 12, 27, 0, [], 0, 0),
  (12, .iload_n 1, 13, 1, 0, [], 0, 0),
  (13, .aload_n 0, 14, 0, 0, [], 0, 0),
  (14, .getfield 18, 17, 2, 2, [], 0, 0),
  (17, .iload_n 2, 18, 2, 0, [], 0, 0),
  (18, .iaload, 19, 0, 0, [], 0, 0),
  (19, .iadd, 20, 0, 0, [], 0, 0),
  (20, .istore_n 1, 21, 1, 0, [], 0, 0),
  (21, .iinc 2 1, 24, 2, 0, [], 1, 0),
  (24, .goto (-20), 27, 4, 0, [], 0, 0),
  (27, .iload_n 1, 28, 1, 0, [], 0, 0),
  (28, .ireturn, 29, 0, 0, [], 0, 0)]
/-- yX2_keyAt -/
def P28 : List En := [(0, .iload_n 1, 1, 1, 0, [], 0, 0),
  (1, .ifCond .lt 20, 4, 21, 0, [], 0, 0),
  (4, .iload_n 1, 5, 1, 0, [], 0, 0),
  (5, .aload_n 0, 6, 0, 0, [], 0, 0),
  (6, .getfield 21, 9, 2, 3, [], 0, 0),
  (9, .if_icmp .ge 12, 12, 21, 0, [], 0, 0),
  (12, .aload_n 0, 13, 0, 0, [], 0, 0),
  (13, .getfield 11, 16, 2, 0, [], 0, 0),
  (16, .iload_n 1, 17, 1, 0, [], 0, 0),
  (17, .iaload, 18, 0, 0, [], 0, 0),
  (18, .goto 5, 21, 23, 0, [], 0, 0),
  (21, .bipush (-9), 23, 0, 0, [], (-9), 0),
  (23, .ireturn, 24, 0, 0, [], 0, 0)]
/-- yX2_allLooks -/
def P29 : List En := [(0, .iconst 0, 1, 0, 0, [], 0, 0),
  (1, .istore_n 1, 2, 1, 0, [], 0, 0),
  (2, .aload_n 0, 3, 0, 0, [], 0, 0),
  (3, .invokevirtual 51, 6, 12, 0, [], 0, 0),
  (6, .iconst 1, 7, 0, 0, [], 1, 0),
  (7, .isub, 8, 0, 0, [], 0, 0),
  (8, .istore_n 2, 9, 2, 0, [], 0, 0),
  (9, .iload_n 2, 10, 2, 0, [], 0, 0),
  (10, .ifCond .lt 97, 13, 107, 0, [], 0, 0),
  (13, .aload_n 0, 14, 0, 0, [], 0, 0),
  (14, .aload_n 0, 15, 0, 0, [], 0, 0),
  (15, .getfield 21, 18, 2, 3, [], 0, 0),
  (18, .iload_n 2, 19, 2, 0, [], 0, 0),
  (19, .invokevirtual 55, 22, 14, 0, [], 0, 0),
  (22, .istore_n 3, 23, 3, 0, [], 0, 0),
  (23, .iconst 0, 24, 0, 0, [], 0, 0),
  (24, .istore 4, 26, 4, 0, [], 0, 0),
  (26, .iconst 0, 27, 0, 0, [], 0, 0),
  (27, .istore 5, 29, 5, 0, [], 0, 0),
  (29, .iload 5, 31, 5, 0, [], 0, 0),
  (31, .aload_n 0, 32, 0, 0, [], 0, 0),
  (32, .getfield 21, 35, 2, 3, [], 0, 0),
  (35, .if_icmp .ge 66, 38, 101, 0, [], 0, 0),
  (38, .aload_n 0, 39, 0, 0, [], 0, 0),
  (39, .getfield 18, 42, 2, 2, [], 0, 0),
  (42, .iload 5, 44, 5, 0, [], 0, 0),
  (44, .iaload, 45, 0, 0, [], 0, 0),
  (45, .iload_n 2, 46, 2, 0, [], 0, 0),
  (46, .if_icmp .le 9, 49, 55, 0, [], 0, 0),
  (49, .iconst 0, 50, 0, 0, [], 0, 0),
  (50, .istore 4, 52, 4, 0, [], 0, 0),
  (52, .goto 43, 55, 95, 0, [], 0, 0),
  (55, .aload_n 0, 56, 0, 0, [], 0, 0),
  (56, .getfield 18, 59, 2, 2, [], 0, 0),
  (59, .iload 5, 61, 5, 0, [], 0, 0),
  (61, .iaload, 62, 0, 0, [], 0, 0),
  (62, .iload_n 2, 63, 2, 0, [], 0, 0),
  (63, .if_icmp .ne 14, 66, 77, 0, [], 0, 0),
  (66, .iinc 4 1, 69, 4, 0, [], 1, 0),
  (69, .iload_n 1, 70, 1, 0, [], 0, 0),
  (70, .iload 4, 72, 4, 0, [], 0, 0),
  (72, .iadd, 73, 0, 0, [], 0, 0),
  (73, .istore_n 1, 74, 1, 0, [], 0, 0),
  (74, .goto 21, 77, 95, 0, [], 0, 0),
  (77, .iload_n 1, 78, 1, 0, [], 0, 0),
  (78, .iload 5, 80, 5, 0, [], 0, 0),
  (80, .iload_n 3, 81, 3, 0, [], 0, 0),
  (81, .if_icmp .ge 10, 84, 91, 0, [], 0, 0),
  (84, .iload 4, 86, 4, 0, [], 0, 0),
  (86, .iconst 1, 87, 0, 0, [], 1, 0),
  (87, .iadd, 88, 0, 0, [], 0, 0),
  (88, .goto 5, 91, 93, 0, [], 0, 0),
  (91, .iload 4, 93, 4, 0, [], 0, 0),
  (93, .iadd, 94, 0, 0, [], 0, 0),
  (94, .istore_n 1, 95, 1, 0, [], 0, 0),
  (95, .iinc 5 1, 98, 5, 0, [], 1, 0),
  (98, .goto (-69), 101, 29, 0, [], 0, 0),
  (101, .iinc 2 (-1), 104, 2, 0, [], (-1), 0),
  (104, .goto (-95), 107, 9, 0, [], 0, 0),
  (107, .iload_n 1, 108, 1, 0, [], 0, 0),
  (108, .ireturn, 109, 0, 0, [], 0, 0)]
/-- yX2_looksFor -/
def P30 : List En := [(0, .iconst 0, 1, 0, 0, [], 0, 0),
  (1, .istore_n 2, 2, 2, 0, [], 0, 0),
  (2, .iconst (-1), 3, 0, 0, [], (-1), 0),
  (3, .istore_n 3, 4, 3, 0, [], 0, 0),
  (4, .aload_n 0, 5, 0, 0, [], 0, 0),
  (5, .invokevirtual 51, 8, 12, 0, [], 0, 0),
  (8, .iconst 1, 9, 0, 0, [], 1, 0),
  (9, .isub, 10, 0, 0, [], 0, 0),
  (10, .istore 4, 12, 4, 0, [], 0, 0),
  (12, .iload 4, 14, 4, 0, [], 0, 0),
  (14, .ifCond .lt 77, 17, 91, 0, [], 0, 0),
  (17, .iload_n 3, 18, 3, 0, [], 0, 0),
  (18, .iconst 1, 19, 0, 0, [], 1, 0),
  (19, .iadd, 20, 0, 0, [], 0, 0),
  (20, .istore 5, 22, 5, 0, [], 0, 0),
  (22, .iload 5, 24, 5, 0, [], 0, 0),
  (24, .aload_n 0, 25, 0, 0, [], 0, 0),
  (25, .getfield 21, 28, 2, 3, [], 0, 0),
  (28, .if_icmp .ge 57, 31, 85, 0, [], 0, 0),
  (31, .aload_n 0, 32, 0, 0, [], 0, 0),
  (32, .getfield 18, 35, 2, 2, [], 0, 0),
  (35, .iload 5, 37, 5, 0, [], 0, 0),
  (37, .iaload, 38, 0, 0, [], 0, 0),
  (38, .iload 4, 40, 4, 0, [], 0, 0),
  (40, .if_icmp .ge 6, 43, 46, 0, [], 0, 0),
  (43, .goto 36, 46, 79, 0, [], 0, 0),
  (46, .iinc 2 1, 49, 2, 0, [], 1, 0),
  (49, .aload_n 0, 50, 0, 0, [], 0, 0),
  (50, .getfield 11, 53, 2, 0, [], 0, 0),
  (53, .iload 5, 55, 5, 0, [], 0, 0),
  (55, .iaload, 56, 0, 0, [], 0, 0),
  (56, .iload_n 1, 57, 1, 0, [], 0, 0),
  (57, .if_icmp .ne 5, 60, 62, 0, [], 0, 0),
  (60, .iload_n 2, 61, 2, 0, [], 0, 0),
  (61, .ireturn, 62, 0, 0, [], 0, 0),
  (62, .aload_n 0, 63, 0, 0, [], 0, 0),
  (63, .getfield 11, 66, 2, 0, [], 0, 0),
  (66, .iload 5, 68, 5, 0, [], 0, 0),
  (68, .iaload, 69, 0, 0, [], 0, 0),
  (69, .iload_n 1, 70, 1, 0, [], 0, 0),
  (70, .if_icmp .le 6, 73, 76, 0, [], 0, 0),
  (73, .goto 12, 76, 85, 0, [], 0, 0),
  (76, .iload 5, 78, 5, 0, [], 0, 0),
  (78, .istore_n 3, 79, 3, 0, [], 0, 0),
  (79, .iinc 5 1, 82, 5, 0, [], 1, 0),
  (82, .goto (-60), 85, 22, 0, [], 0, 0),
  (85, .iinc 4 (-1), 88, 4, 0, [], (-1), 0),
  (88, .goto (-76), 91, 12, 0, [], 0, 0),
  (91, .iload_n 2, 92, 2, 0, [], 0, 0),
  (92, .ireturn, 93, 0, 0, [], 0, 0)]
/-- yX2_valuesWithin -/
def P31 : List En := [(0, .iconst 0, 1, 0, 0, [], 0, 0),
  (1, .istore_n 3, 2, 3, 0, [], 0, 0),
  (2, .iconst 0, 3, 0, 0, [], 0, 0),
  (3, .istore 4, 5, 4, 0, [], 0, 0),
  (5, .iload 4, 7, 4, 0, [], 0, 0),
  (7, .aload_n 0, 8, 0, 0, [], 0, 0),
  (8, .getfield 21, 11, 2, 3, [], 0, 0),
  (11, .if_icmp .ge 41, 14, 52, 0, [], 0, 0),
  (14, .aload_n 0, 15, 0, 0, [], 0, 0),
  (15, .getfield 11, 18, 2, 0, [], 0, 0),
  (18, .iload 4, 20, 4, 0, [], 0, 0),
  (20, .iaload, 21, 0, 0, [], 0, 0),
  (21, .iload_n 1, 22, 1, 0, [], 0, 0),
  (22, .if_icmp .lt 24, 25, 46, 0, [], 0, 0),
  (25, .aload_n 0, 26, 0, 0, [], 0, 0),
  (26, .getfield 11, 29, 2, 0, [], 0, 0),
  (29, .iload 4, 31, 4, 0, [], 0, 0),
  (31, .iaload, 32, 0, 0, [], 0, 0),
  (32, .iload_n 2, 33, 2, 0, [], 0, 0),
  (33, .if_icmp .gt 13, 36, 46, 0, [], 0, 0),
  (36, .iload_n 3, 37, 3, 0, [], 0, 0),
  (37, .aload_n 0, 38, 0, 0, [], 0, 0),
  (38, .getfield 15, 41, 2, 1, [], 0, 0),
  (41, .iload 4, 43, 4, 0, [], 0, 0),
  (43, .iaload, 44, 0, 0, [], 0, 0),
  (44, .iadd, 45, 0, 0, [], 0, 0),
  (45, .istore_n 3, 46, 3, 0, [], 0, 0),
  (46, .iinc 4 1, 49, 4, 0, [], 1, 0),
  (49, .goto (-44), 52, 5, 0, [], 0, 0),
  (52, .iload_n 3, 53, 3, 0, [], 0, 0),
  (53, .ireturn, 54, 0, 0, [], 0, 0)]
/-- yX2_otherHeights -/
def P32 : List En := [(0, .iconst 0, 1, 0, 0, [], 0, 0),
  (1, .istore_n 3, 2, 3, 0, [], 0, 0),
  (2, .iconst 0, 3, 0, 0, [], 0, 0),
  (3, .istore 4, 5, 4, 0, [], 0, 0),
  (5, .iload 4, 7, 4, 0, [], 0, 0),
  (7, .aload_n 0, 8, 0, 0, [], 0, 0),
  (8, .getfield 21, 11, 2, 3, [], 0, 0),
  (11, .if_icmp .ge 58, 14, 69, 0, [], 0, 0),
  (14, .aload_n 1, 15, 1, 0, [], 0, 0),
  (15, .aload_n 0, 16, 0, 0, [], 0, 0),
  (16, .getfield 11, 19, 2, 0, [], 0, 0),
  (19, .iload 4, 21, 4, 0, [], 0, 0),
  (21, .iaload, 22, 0, 0, [], 0, 0),
  (22, .invokevirtual 39, 25, 9, 0, [], 0, 0),
  (25, .istore 5, 27, 5, 0, [], 0, 0),
  (27, .aload_n 0, 28, 0, 0, [], 0, 0),
  (28, .getfield 11, 31, 2, 0, [], 0, 0),
  (31, .iload 4, 33, 4, 0, [], 0, 0),
  (33, .iaload, 34, 0, 0, [], 0, 0),
  (34, .iload_n 2, 35, 2, 0, [], 0, 0),
  (35, .if_icmp .eq 28, 38, 63, 0, [], 0, 0),
  (38, .iload 5, 40, 5, 0, [], 0, 0),
  (40, .ifCond .lt 23, 43, 63, 0, [], 0, 0),
  (43, .aload_n 1, 44, 1, 0, [], 0, 0),
  (44, .getfield 18, 47, 2, 2, [], 0, 0),
  (47, .iload 5, 49, 5, 0, [], 0, 0),
  (49, .iaload, 50, 0, 0, [], 0, 0),
  (50, .aload_n 0, 51, 0, 0, [], 0, 0),
  (51, .getfield 18, 54, 2, 2, [], 0, 0),
  (54, .iload 4, 56, 4, 0, [], 0, 0),
  (56, .iaload, 57, 0, 0, [], 0, 0),
  (57, .if_icmp .eq 6, 60, 63, 0, [], 0, 0),
  (60, .iinc 3 1, 63, 3, 0, [], 1, 0),
  (63, .iinc 4 1, 66, 4, 0, [], 1, 0),
  (66, .goto (-61), 69, 5, 0, [], 0, 0),
  (69, .iload_n 3, 70, 3, 0, [], 0, 0),
  (70, .ireturn, 71, 0, 0, [], 0, 0)]
/-- yX3_add -/
def P33 : List En := [(0, .aload_n 0, 1, 0, 0, [], 0, 0),
  (1, .getfield 19, 4, 3, 3, [], 0, 0),
  (4, .bipush 6, 6, 0, 0, [], 6, 0),
  (6, .if_icmp .lt 5, 9, 11, 0, [], 0, 0),
  (9, .iconst 0, 10, 0, 0, [], 0, 0),
  (10, .ireturn, 11, 0, 0, [], 0, 0),
  (11, .aload_n 0, 12, 0, 0, [], 0, 0),
  (12, .getfield 9, 15, 3, 0, [], 0, 0),
  (15, .aload_n 0, 16, 0, 0, [], 0, 0),
  (16, .getfield 19, 19, 3, 3, [], 0, 0),
  (19, .iload_n 1, 20, 1, 0, [], 0, 0),
  (20, .iastore, 21, 0, 0, [], 0, 0),
  (21, .aload_n 0, 22, 0, 0, [], 0, 0),
  (22, .getfield 13, 25, 3, 1, [], 0, 0),
  (25, .aload_n 0, 26, 0, 0, [], 0, 0),
  (26, .getfield 19, 29, 3, 3, [], 0, 0),
  (29, .iload_n 2, 30, 2, 0, [], 0, 0),
  (30, .iastore, 31, 0, 0, [], 0, 0),
  (31, .aload_n 0, 32, 0, 0, [], 0, 0),
  (32, .getfield 16, 35, 3, 2, [], 0, 0),
  (35, .aload_n 0, 36, 0, 0, [], 0, 0),
  (36, .getfield 19, 39, 3, 3, [], 0, 0),
  (39, .iload_n 3, 40, 3, 0, [], 0, 0),
  (40, .iastore, 41, 0, 0, [], 0, 0),
  (41, .aload_n 0, 42, 0, 0, [], 0, 0),
  (42, .dup, 43, 0, 0, [], 0, 0),
  (43, .getfield 19, 46, 3, 3, [], 0, 0),
  (46, .iconst 1, 47, 0, 0, [], 1, 0),
  (47, .iadd, 48, 0, 0, [], 0, 0),
  (48, .putfield 19, 51, 3, 3, [], 0, 0),
  (51, .iconst 1, 52, 0, 0, [], 1, 0),
  (52, .ireturn, 53, 0, 0, [], 0, 0)]
/-- yX3_isSo -/
def P34 : List En := [(0, .iconst 0, 1, 0, 0, [], 0, 0),
  (1, .istore_n 3, 2, 3, 0, [], 0, 0),
  (2, .iload_n 3, 3, 3, 0, [], 0, 0),
  (3, .aload_n 0, 4, 0, 0, [], 0, 0),
  (4, .getfield 19, 7, 3, 3, [], 0, 0),
  (7, .if_icmp .ge 74, 10, 81, 0, [], 0, 0),
  (10, .aload_n 1, 11, 1, 0, [], 0, 0),
  (11, .aload_n 0, 12, 0, 0, [], 0, 0),
  (12, .getfield 9, 15, 3, 0, [], 0, 0),
  (15, .iload_n 3, 16, 3, 0, [], 0, 0),
  (16, .iaload, 17, 0, 0, [], 0, 0),
  (17, .invokevirtual 23, 20, 3, 0, [], 0, 0),
  (20, .astore 4, 22, 4, 0, [], 0, 0),
  (22, .aload 4, 24, 4, 0, [], 0, 0),
  (24, .iload_n 2, 25, 2, 0, [], 0, 0),
  (25, .invokevirtual 29, 28, 9, 0, [], 0, 0),
  (28, .ifCond .lt 7, 31, 35, 0, [], 0, 0),
  (31, .iconst 1, 32, 0, 0, [], 1, 0),
  (32, .goto 4, 35, 36, 0, [], 0, 0),
  (35, .iconst 0, 36, 0, 0, [], 0, 0),
  (36, .istore 5, 38, 5, 0, [], 0, 0),
  (38, .iload 5, 40, 5, 0, [], 0, 0),
  (40, .aload_n 0, 41, 0, 0, [], 0, 0),
  (41, .getfield 16, 44, 3, 2, [], 0, 0),
  (44, .iload_n 3, 45, 3, 0, [], 0, 0),
  (45, .iaload, 46, 0, 0, [], 0, 0),
  (46, .iconst 1, 47, 0, 0, [], 1, 0),
  (47, .if_icmp .ne 7, 50, 54, 0, [], 0, 0),
  (50, .iconst 1, 51, 0, 0, [], 1, 0),
  (51, .goto 4, 54, 55, 0, [], 0, 0),
  (54, .iconst 0, 55, 0, 0, [], 0, 0),
  (55, .if_icmp .ne 18, 58, 73, 0, [], 0, 0),
  (58, .aload 4, 60, 4, 0, [], 0, 0),
  (60, .iload_n 2, 61, 2, 0, [], 0, 0),
  (61, .invokevirtual 35, 64, 30, 0, [], 0, 0),
  (64, .aload_n 0, 65, 0, 0, [], 0, 0),
  (65, .getfield 13, 68, 3, 1, [], 0, 0),
  (68, .iload_n 3, 69, 3, 0, [], 0, 0),
  (69, .iaload, 70, 0, 0, [], 0, 0),
  (70, .if_icmp .eq 5, 73, 75, 0, [], 0, 0),
  (73, .iconst 0, 74, 0, 0, [], 0, 0),
  (74, .ireturn, 75, 0, 0, [], 0, 0),
  (75, .iinc 3 1, 78, 3, 0, [], 1, 0),
  (78, .goto (-76), 81, 2, 0, [], 0, 0),
  (81, .iconst 1, 82, 0, 0, [], 1, 0),
  (82, .ireturn, 83, 0, 0, [], 0, 0)]
/-- yX4_append -/
def P35 : List En := [(0, .aload_n 0, 1, 0, 0, [], 0, 0),
  (1, .getfield 18, 4, 4, 2, [], 0, 0),
  (4, .bipush 64, 6, 0, 0, [], 64, 0),
  (6, .if_icmp .lt 5, 9, 11, 0, [], 0, 0),
  (9, .iconst 0, 10, 0, 0, [], 0, 0),
  (10, .ireturn, 11, 0, 0, [], 0, 0),
  (11, .aload_n 0, 12, 0, 0, [], 0, 0),
  (12, .getfield 11, 15, 4, 0, [], 0, 0),
  (15, .aload_n 0, 16, 0, 0, [], 0, 0),
  (16, .getfield 18, 19, 4, 2, [], 0, 0),
  (19, .iload_n 1, 20, 1, 0, [], 0, 0),
  (20, .iastore, 21, 0, 0, [], 0, 0),
  (21, .aload_n 0, 22, 0, 0, [], 0, 0),
  (22, .dup, 23, 0, 0, [], 0, 0),
  (23, .getfield 18, 26, 4, 2, [], 0, 0),
  (26, .iconst 1, 27, 0, 0, [], 1, 0),
  (27, .iadd, 28, 0, 0, [], 0, 0),
  (28, .putfield 18, 31, 4, 2, [], 0, 0),
  (31, .iconst 1, 32, 0, 0, [], 1, 0),
  (32, .ireturn, 33, 0, 0, [], 0, 0)]
/-- yX4_firstFault -/
def P36 : List En := [(0, .aload_n 0, 1, 0, 0, [], 0, 0),
  (1, .getfield 18, 4, 4, 2, [], 0, 0),
  (4, .ifCond .eq 14, 7, 18, 0, [], 0, 0),
  (7, .aload_n 0, 8, 0, 0, [], 0, 0),
  (8, .getfield 11, 11, 4, 0, [], 0, 0),
  (11, .iconst 0, 12, 0, 0, [], 0, 0),
  (12, .iaload, 13, 0, 0, [], 0, 0),
  (13, .bipush 76, 15, 0, 0, [], 76, 0),
  (15, .if_icmp .eq 5, 18, 20, 0, [], 0, 0),
  (18, .iconst 0, 19, 0, 0, [], 0, 0),
  (19, .ireturn, 20, 0, 0, [], 0, 0),
  (20, .iconst 0, 21, 0, 0, [], 0, 0),
  (21, .istore_n 1, 22, 1, 0, [], 0, 0),
  (22, .iload_n 1, 23, 1, 0, [], 0, 0),
  (23, .iconst 5, 24, 0, 0, [], 5, 0),
  (24, .if_icmp .gt 16, 27, 40, 0, [], 0, 0),
  (27, .aload_n 0, 28, 0, 0, [], 0, 0),
  (28, .getfield 15, 31, 4, 1, [], 0, 0),
  (31, .iload_n 1, 32, 1, 0, [], 0, 0),
  (32, .iconst 0, 33, 0, 0, [], 0, 0),
  (33, .iastore, 34, 0, 0, [], 0, 0),
  (34, .iinc 1 1, 37, 1, 0, [], 1, 0),
  (37, .goto (-15), 40, 22, 0, [], 0, 0),
  (40, .iconst 1, 41, 0, 0, [], 1, 0),
  (41, .istore_n 1, 42, 1, 0, [], 0, 0),
  (42, .iload_n 1, 43, 1, 0, [], 0, 0),
  (43, .aload_n 0, 44, 0, 0, [], 0, 0),
  (44, .getfield 18, 47, 4, 2, [], 0, 0),
  (47, .if_icmp .ge 19, 50, 66, 0, [], 0, 0),
  (50, .aload_n 0, 51, 0, 0, [], 0, 0),
  (51, .iload_n 1, 52, 1, 0, [], 0, 0),
  (52, .invokevirtual 22, 55, 37, 0, [], 0, 0),
  (55, .ifCond .ne 5, 58, 60, 0, [], 0, 0),
  (58, .iload_n 1, 59, 1, 0, [], 0, 0),
  (59, .ireturn, 60, 0, 0, [], 0, 0),
  (60, .iinc 1 1, 63, 1, 0, [], 1, 0),
  (63, .goto (-21), 66, 42, 0, [], 0, 0),
  (66, .aload_n 0, 67, 0, 0, [], 0, 0),
  (67, .getfield 18, 70, 4, 2, [], 0, 0),
  (70, .iconst 3, 71, 0, 0, [], 3, 0),
  (71, .irem, 72, 0, 0, [], 0, 0),
  (72, .iconst 1, 73, 0, 0, [], 1, 0),
  (73, .if_icmp .ne 15, 76, 88, 0, [], 0, 0),
  (76, .aload_n 0, 77, 0, 0, [], 0, 0),
  (77, .invokevirtual 26, 80, 40, 0, [], 0, 0),
  (80, .ifCond .eq 8, 83, 88, 0, [], 0, 0),
  (83, .bipush (-9), 85, 0, 0, [], (-9), 0),
  (85, .goto 7, 88, 92, 0, [], 0, 0),
  (88, .aload_n 0, 89, 0, 0, [], 0, 0),
  (89, .getfield 18, 92, 4, 2, [], 0, 0),
  (92, .ireturn, 93, 0, 0, [], 0, 0)]
/-- yX4_fits -/
def P37 : List En := [(0, .aload_n 0, 1, 0, 0, [], 0, 0),
  (1, .iload_n 1, 2, 1, 0, [], 0, 0),
  (2, .invokevirtual 35, 5, 38, 0, [], 0, 0),
  (5, .istore_n 2, 6, 2, 0, [], 0, 0),
  (6, .iload_n 1, 7, 1, 0, [], 0, 0),
  (7, .iconst 3, 8, 0, 0, [], 3, 0),
  (8, .irem, 9, 0, 0, [], 0, 0),
  (9, .lookupswitch 49 #[(1, 27), (2, 33)], 36, 58, 0, [36, 42], 0, 0),
  (36, .aload_n 0, 37, 0, 0, [], 0, 0),
  (37, .iload_n 2, 38, 2, 0, [], 0, 0),
  (38, .invokevirtual 43, 41, 39, 0, [], 0, 0),
  (41, .ireturn, 42, 0, 0, [], 0, 0),
  (42, .iload_n 2, 43, 2, 0, [], 0, 0),
  (43, .iconst 1, 44, 0, 0, [], 1, 0),
  (44, .if_icmp .lt 12, 47, 56, 0, [], 0, 0),
  (47, .iload_n 2, 48, 2, 0, [], 0, 0),
  (48, .iconst 4, 49, 0, 0, [], 4, 0),
  (49, .if_icmp .gt 7, 52, 56, 0, [], 0, 0),
  (52, .iconst 1, 53, 0, 0, [], 1, 0),
  (53, .goto 4, 56, 57, 0, [], 0, 0),
  (56, .iconst 0, 57, 0, 0, [], 0, 0),
  (57, .ireturn, 58, 0, 0, [], 0, 0),
  (58, .iload_n 2, 59, 2, 0, [], 0, 0),
  (59, .ifCond .lt 13, 62, 72, 0, [], 0, 0),
  (62, .iload_n 2, 63, 2, 0, [], 0, 0),
  (63, .bipush 9, 65, 0, 0, [], 9, 0),
  (65, .if_icmp .gt 7, 68, 72, 0, [], 0, 0),
  (68, .iconst 1, 69, 0, 0, [], 1, 0),
  (69, .goto 4, 72, 73, 0, [], 0, 0),
  (72, .iconst 0, 73, 0, 0, [], 0, 0),
  (73, .ireturn, 74, 0, 0, [], 0, 0)]
/-- yX4_figure -/
def P38 : List En := [(0, .aload_n 0, 1, 0, 0, [], 0, 0),
  (1, .getfield 11, 4, 4, 0, [], 0, 0),
  (4, .iload_n 1, 5, 1, 0, [], 0, 0),
  (5, .iaload, 6, 0, 0, [], 0, 0),
  (6, .bipush 48, 8, 0, 0, [], 48, 0),
  (8, .isub, 9, 0, 0, [], 0, 0),
  (9, .ireturn, 10, 0, 0, [], 0, 0)]
/-- yX4_takesHeight -/
def P39 : List En := [(0, .iload_n 1, 1, 1, 0, [], 0, 0),
  (1, .ifCond .lt 18, 4, 19, 0, [], 0, 0),
  (4, .iload_n 1, 5, 1, 0, [], 0, 0),
  (5, .iconst 5, 6, 0, 0, [], 5, 0),
  (6, .if_icmp .gt 13, 9, 19, 0, [], 0, 0),
  (9, .aload_n 0, 10, 0, 0, [], 0, 0),
  (10, .getfield 15, 13, 4, 1, [], 0, 0),
  (13, .iload_n 1, 14, 1, 0, [], 0, 0),
  (14, .iaload, 15, 0, 0, [], 0, 0),
  (15, .iconst 3, 16, 0, 0, [], 3, 0),
  (16, .if_icmp .ne 5, 19, 21, 0, [], 0, 0),
  (19, .iconst 0, 20, 0, 0, [], 0, 0),
  (20, .ireturn, 21, 0, 0, [], 0, 0),
  (21, .iconst 0, 22, 0, 0, [], 0, 0),
  (22, .istore_n 2, 23, 2, 0, [], 0, 0),
  (23, .iload_n 2, 24, 2, 0, [], 0, 0),
  (24, .iload_n 1, 25, 1, 0, [], 0, 0),
  (25, .if_icmp .ge 20, 28, 45, 0, [], 0, 0),
  (28, .aload_n 0, 29, 0, 0, [], 0, 0),
  (29, .getfield 15, 32, 4, 1, [], 0, 0),
  (32, .iload_n 2, 33, 2, 0, [], 0, 0),
  (33, .iaload, 34, 0, 0, [], 0, 0),
  (34, .ifCond .ne 5, 37, 39, 0, [], 0, 0),
  (37, .iconst 0, 38, 0, 0, [], 0, 0),
  (38, .ireturn, 39, 0, 0, [], 0, 0),
  (39, .iinc 2 1, 42, 2, 0, [], 1, 0),
  (42, .goto (-19), 45, 23, 0, [], 0, 0),
  (45, .iconst 0, 46, 0, 0, [], 0, 0),
  (46, .istore_n 2, 47, 2, 0, [], 0, 0),
  (47, .iload_n 2, 48, 2, 0, [], 0, 0),
  (48, .iload_n 1, 49, 1, 0, [], 0, 0),
  (49, .if_icmp .ge 16, 52, 65, 0, [], 0, 0),
  (52, .aload_n 0, 53, 0, 0, [], 0, 0),
  (53, .getfield 15, 56, 4, 1, [], 0, 0),
  (56, .iload_n 2, 57, 2, 0, [], 0, 0),
  (57, .iconst 0, 58, 0, 0, [], 0, 0),
  (58, .iastore, 59, 0, 0, [], 0, 0),
  (59, .iinc 2 1, 62, 2, 0, [], 1, 0),
  (62, .goto (-15), 65, 47, 0, [], 0, 0),
  (65, .aload_n 0, 66, 0, 0, [], 0, 0),
  (66, .getfield 15, 69, 4, 1, [], 0, 0),
  (69, .iload_n 1, 70, 1, 0, [], 0, 0),
  (70, .dup2, 71, 0, 0, [], 0, 0),
  (71, .iaload, 72, 0, 0, [], 0, 0),
  (72, .iconst 1, 73, 0, 0, [], 1, 0),
  (73, .iadd, 74, 0, 0, [], 0, 0),
  (74, .iastore, 75, 0, 0, [], 0, 0),
  (75, .iconst 1, 76, 0, 0, [], 1, 0),
  (76, .ireturn, 77, 0, 0, [], 0, 0)]
/-- yX4_isClosed -/
def P40 : List En := [(0, .iconst 1, 1, 0, 0, [], 1, 0),
  (1, .istore_n 1, 2, 1, 0, [], 0, 0),
  (2, .iload_n 1, 3, 1, 0, [], 0, 0),
  (3, .iconst 5, 4, 0, 0, [], 5, 0),
  (4, .if_icmp .gt 31, 7, 35, 0, [], 0, 0),
  (7, .aload_n 0, 8, 0, 0, [], 0, 0),
  (8, .getfield 15, 11, 4, 1, [], 0, 0),
  (11, .iload_n 1, 12, 1, 0, [], 0, 0),
  (12, .iaload, 13, 0, 0, [], 0, 0),
  (13, .ifCond .le 16, 16, 29, 0, [], 0, 0),
  (16, .aload_n 0, 17, 0, 0, [], 0, 0),
  (17, .getfield 15, 20, 4, 1, [], 0, 0),
  (20, .iload_n 1, 21, 1, 0, [], 0, 0),
  (21, .iconst 1, 22, 0, 0, [], 1, 0),
  (22, .isub, 23, 0, 0, [], 0, 0),
  (23, .iaload, 24, 0, 0, [], 0, 0),
  (24, .ifCond .ne 5, 27, 29, 0, [], 0, 0),
  (27, .iconst 0, 28, 0, 0, [], 0, 0),
  (28, .ireturn, 29, 0, 0, [], 0, 0),
  (29, .iinc 1 1, 32, 1, 0, [], 1, 0),
  (32, .goto (-30), 35, 2, 0, [], 0, 0),
  (35, .iconst 1, 36, 0, 0, [], 1, 0),
  (36, .ireturn, 37, 0, 0, [], 0, 0)]
/-- yX4_tellTo -/
def P41 : List En := [(0, .aload_n 1, 1, 1, 0, [], 0, 0),
  (1, .iconst 0, 2, 0, 0, [], 0, 0),
  (2, .putfield 30, 5, 2, 3, [], 0, 0),
  (5, .iconst 0, 6, 0, 0, [], 0, 0),
  (6, .istore_n 2, 7, 2, 0, [], 0, 0),
  (7, .iconst 1, 8, 0, 0, [], 1, 0),
  (8, .istore_n 3, 9, 3, 0, [], 0, 0),
  (9, .iload_n 3, 10, 3, 0, [], 0, 0),
  (10, .iconst 2, 11, 0, 0, [], 2, 0),
  (11, .iadd, 12, 0, 0, [], 0, 0),
  (12, .aload_n 0, 13, 0, 0, [], 0, 0),
  (13, .getfield 18, 16, 4, 2, [], 0, 0),
  (16, .if_icmp .ge 36, 19, 52, 0, [], 0, 0),
  (19, .iload_n 2, 20, 2, 0, [], 0, 0),
  (20, .aload_n 0, 21, 0, 0, [], 0, 0),
  (21, .iload_n 3, 22, 3, 0, [], 0, 0),
  (22, .iconst 1, 23, 0, 0, [], 1, 0),
  (23, .iadd, 24, 0, 0, [], 0, 0),
  (24, .invokevirtual 35, 27, 38, 0, [], 0, 0),
  (27, .iadd, 28, 0, 0, [], 0, 0),
  (28, .istore_n 2, 29, 2, 0, [], 0, 0),
  (29, .aload_n 1, 30, 1, 0, [], 0, 0),
  (30, .iload_n 2, 31, 2, 0, [], 0, 0),
  (31, .aload_n 0, 32, 0, 0, [], 0, 0),
  (32, .iload_n 3, 33, 3, 0, [], 0, 0),
  (33, .iconst 2, 34, 0, 0, [], 2, 0),
  (34, .iadd, 35, 0, 0, [], 0, 0),
  (35, .invokevirtual 35, 38, 38, 0, [], 0, 0),
  (38, .aload_n 0, 39, 0, 0, [], 0, 0),
  (39, .iload_n 3, 40, 3, 0, [], 0, 0),
  (40, .invokevirtual 35, 43, 38, 0, [], 0, 0),
  (43, .invokevirtual 39, 46, 6, 0, [], 0, 0),
  (46, .iinc 3 3, 49, 3, 0, [], 3, 0),
  (49, .goto (-40), 52, 9, 0, [], 0, 0),
  (52, .return_, 53, 0, 0, [], 0, 0)]
/-- yX5_write -/
def P42 : List En := [(0, .iload_n 1, 1, 1, 0, [], 0, 0),
  (1, .ifCond .lt 10, 4, 11, 0, [], 0, 0),
  (4, .iload_n 1, 5, 1, 0, [], 0, 0),
  (5, .sipush 255, 8, 0, 0, [], 255, 0),
  (8, .if_icmp .le 6, 11, 14, 0, [], 0, 0),
  (11, .bipush (-2), 13, 0, 0, [], (-2), 0),
  (13, .ireturn, 14, 0, 0, [], 0, 0),
  (14, .aload_n 0, 15, 0, 0, [], 0, 0),
  (15, .getfield 29, 18, 5, 3, [], 0, 0),
  (18, .iload_n 1, 19, 1, 0, [], 0, 0),
  (19, .invokevirtual 52, 22, 35, 0, [], 0, 0),
  (22, .ifCond .eq 13, 25, 35, 0, [], 0, 0),
  (25, .aload_n 0, 26, 0, 0, [], 0, 0),
  (26, .getfield 29, 29, 5, 3, [], 0, 0),
  (29, .getfield 56, 32, 4, 2, [], 0, 0),
  (32, .goto 5, 35, 37, 0, [], 0, 0),
  (35, .bipush (-4), 37, 0, 0, [], (-4), 0),
  (37, .ireturn, 38, 0, 0, [], 0, 0)]
/-- yX5_wipe -/
def P43 : List En := [(0, .aload_n 0, 1, 0, 0, [], 0, 0),
  (1, .getfield 29, 4, 5, 3, [], 0, 0),
  (4, .getfield 56, 7, 4, 2, [], 0, 0),
  (7, .istore_n 1, 8, 1, 0, [], 0, 0),
  (8, .aload_n 0, 9, 0, 0, [], 0, 0),
  (9, .getfield 29, 12, 5, 3, [], 0, 0),
  (12, .iconst 0, 13, 0, 0, [], 0, 0),
  (13, .putfield 56, 16, 4, 2, [], 0, 0),
  (16, .iload_n 1, 17, 1, 0, [], 0, 0),
  (17, .ireturn, 18, 0, 0, [], 0, 0)]
/-- yX5_fault -/
def P44 : List En := [(0, .aload_n 0, 1, 0, 0, [], 0, 0),
  (1, .getfield 29, 4, 5, 3, [], 0, 0),
  (4, .invokevirtual 60, 7, 36, 0, [], 0, 0),
  (7, .ireturn, 8, 0, 0, [], 0, 0)]
/-- yX5_shape -/
def P45 : List En := [(0, .iload_n 1, 1, 1, 0, [], 0, 0),
  (1, .invokestatic 64, 4, 46, 0, [], 0, 0),
  (4, .ifCond .ne 5, 7, 9, 0, [], 0, 0),
  (7, .iconst (-1), 8, 0, 0, [], (-1), 0),
  (8, .ireturn, 9, 0, 0, [], 0, 0),
  (9, .aload_n 0, 10, 0, 0, [], 0, 0),
  (10, .getfield 29, 13, 5, 3, [], 0, 0),
  (13, .invokevirtual 60, 16, 36, 0, [], 0, 0),
  (16, .bipush (-9), 18, 0, 0, [], (-9), 0),
  (18, .if_icmp .eq 6, 21, 24, 0, [], 0, 0),
  (21, .bipush (-3), 23, 0, 0, [], (-3), 0),
  (23, .ireturn, 24, 0, 0, [], 0, 0),
  (24, .aload_n 0, 25, 0, 0, [], 0, 0),
  (25, .getfield 22, 28, 5, 2, [], 0, 0),
  (28, .aload_n 0, 29, 0, 0, [], 0, 0),
  (29, .getfield 10, 32, 5, 0, [], 0, 0),
  (32, .invokevirtual 67, 35, 0, 0, [], 0, 0),
  (35, .aload_n 0, 36, 0, 0, [], 0, 0),
  (36, .getfield 10, 39, 5, 0, [], 0, 0),
  (39, .iload_n 1, 40, 1, 0, [], 0, 0),
  (40, .invokevirtual 71, 43, 3, 0, [], 0, 0),
  (43, .astore_n 2, 44, 2, 0, [], 0, 0),
  (44, .aload_n 0, 45, 0, 0, [], 0, 0),
  (45, .getfield 29, 48, 5, 3, [], 0, 0),
  (48, .aload_n 2, 49, 2, 0, [], 0, 0),
  (49, .invokevirtual 75, 52, 41, 0, [], 0, 0),
  (52, .aload_n 2, 53, 2, 0, [], 0, 0),
  (53, .getfield 79, 56, 2, 3, [], 0, 0),
  (56, .ireturn, 57, 0, 0, [], 0, 0)]
/-- yX5_isMap -/
def P46 : List En := [(0, .iload_n 0, 1, 0, 0, [], 0, 0),
  (1, .ifCond .lt 12, 4, 13, 0, [], 0, 0),
  (4, .iload_n 0, 5, 0, 0, [], 0, 0),
  (5, .iconst 2, 6, 0, 0, [], 2, 0),
  (6, .if_icmp .ge 7, 9, 13, 0, [], 0, 0),
  (9, .iconst 1, 10, 0, 0, [], 1, 0),
  (10, .goto 4, 13, 14, 0, [], 0, 0),
  (13, .iconst 0, 14, 0, 0, [], 0, 0),
  (14, .ireturn, 15, 0, 0, [], 0, 0)]
/-- yX5_put -/
def P47 : List En := [(0, .iload_n 1, 1, 1, 0, [], 0, 0),
  (1, .invokestatic 64, 4, 46, 0, [], 0, 0),
  (4, .ifCond .eq 10, 7, 14, 0, [], 0, 0),
  (7, .iload_n 2, 8, 2, 0, [], 0, 0),
  (8, .invokestatic 84, 11, 48, 0, [], 0, 0),
  (11, .ifCond .ne 5, 14, 16, 0, [], 0, 0),
  (14, .iconst (-1), 15, 0, 0, [], (-1), 0),
  (15, .ireturn, 16, 0, 0, [], 0, 0),
  (16, .iload_n 3, 17, 3, 0, [], 0, 0),
  (17, .ifCond .lt 9, 20, 26, 0, [], 0, 0),
  (20, .iload_n 3, 21, 3, 0, [], 0, 0),
  (21, .ldc 87, 23, 0, 0, [], 999999, 0),
  (23, .if_icmp .le 6, 26, 29, 0, [], 0, 0),
  (26, .bipush (-2), 28, 0, 0, [], (-2), 0),
  (28, .ireturn, 29, 0, 0, [], 0, 0),
  (29, .aload_n 0, 30, 0, 0, [], 0, 0),
  (30, .getfield 10, 33, 5, 0, [], 0, 0),
  (33, .iload_n 1, 34, 1, 0, [], 0, 0),
  (34, .invokevirtual 71, 37, 3, 0, [], 0, 0),
  (37, .astore 4, 39, 4, 0, [], 0, 0),
  (39, .aload 4, 41, 4, 0, [], 0, 0),
  (41, .iload_n 2, 42, 2, 0, [], 0, 0),
  (42, .invokevirtual 88, 45, 8, 0, [], 0, 0),
  (45, .ifCond .ne 6, 48, 51, 0, [], 0, 0),
  (48, .bipush (-4), 50, 0, 0, [], (-4), 0),
  (50, .ireturn, 51, 0, 0, [], 0, 0),
  (51, .aload_n 0, 52, 0, 0, [], 0, 0),
  (52, .getfield 22, 55, 5, 2, [], 0, 0),
  (55, .aload_n 0, 56, 0, 0, [], 0, 0),
  (56, .getfield 10, 59, 5, 0, [], 0, 0),
  (59, .invokevirtual 67, 62, 0, 0, [], 0, 0),
  (62, .aload 4, 64, 4, 0, [], 0, 0),
  (64, .iload_n 2, 65, 2, 0, [], 0, 0),
  (65, .iload_n 3, 66, 3, 0, [], 0, 0),
  (66, .invokevirtual 91, 69, 11, 0, [], 0, 0),
  (69, .pop, 70, 0, 0, [], 0, 0),
  (70, .aload 4, 72, 4, 0, [], 0, 0),
  (72, .getfield 79, 75, 2, 3, [], 0, 0),
  (75, .ireturn, 76, 0, 0, [], 0, 0)]
/-- yX5_isKey -/
def P48 : List En := [(0, .iload_n 0, 1, 0, 0, [], 0, 0),
  (1, .ifCond .lt 13, 4, 14, 0, [], 0, 0),
  (4, .iload_n 0, 5, 0, 0, [], 0, 0),
  (5, .bipush 100, 7, 0, 0, [], 100, 0),
  (7, .if_icmp .ge 7, 10, 14, 0, [], 0, 0),
  (10, .iconst 1, 11, 0, 0, [], 1, 0),
  (11, .goto 4, 14, 15, 0, [], 0, 0),
  (14, .iconst 0, 15, 0, 0, [], 0, 0),
  (15, .ireturn, 16, 0, 0, [], 0, 0)]
/-- yX5_remove -/
def P49 : List En := [(0, .iload_n 1, 1, 1, 0, [], 0, 0),
  (1, .invokestatic 64, 4, 46, 0, [], 0, 0),
  (4, .ifCond .eq 10, 7, 14, 0, [], 0, 0),
  (7, .iload_n 2, 8, 2, 0, [], 0, 0),
  (8, .invokestatic 84, 11, 48, 0, [], 0, 0),
  (11, .ifCond .ne 5, 14, 16, 0, [], 0, 0),
  (14, .iconst (-1), 15, 0, 0, [], (-1), 0),
  (15, .ireturn, 16, 0, 0, [], 0, 0),
  (16, .aload_n 0, 17, 0, 0, [], 0, 0),
  (17, .getfield 10, 20, 5, 0, [], 0, 0),
  (20, .iload_n 1, 21, 1, 0, [], 0, 0),
  (21, .invokevirtual 71, 24, 3, 0, [], 0, 0),
  (24, .astore_n 3, 25, 3, 0, [], 0, 0),
  (25, .aload_n 3, 26, 3, 0, [], 0, 0),
  (26, .iload_n 2, 27, 2, 0, [], 0, 0),
  (27, .invokevirtual 95, 30, 9, 0, [], 0, 0),
  (30, .istore 4, 32, 4, 0, [], 0, 0),
  (32, .iload 4, 34, 4, 0, [], 0, 0),
  (34, .ifCond .ge 6, 37, 40, 0, [], 0, 0),
  (37, .bipush (-3), 39, 0, 0, [], (-3), 0),
  (39, .ireturn, 40, 0, 0, [], 0, 0),
  (40, .aload_n 3, 41, 3, 0, [], 0, 0),
  (41, .getfield 99, 44, 2, 1, [], 0, 0),
  (44, .iload 4, 46, 4, 0, [], 0, 0),
  (46, .iaload, 47, 0, 0, [], 0, 0),
  (47, .istore 5, 49, 5, 0, [], 0, 0),
  (49, .aload_n 0, 50, 0, 0, [], 0, 0),
  (50, .getfield 22, 53, 5, 2, [], 0, 0),
  (53, .aload_n 0, 54, 0, 0, [], 0, 0),
  (54, .getfield 10, 57, 5, 0, [], 0, 0),
  (57, .invokevirtual 67, 60, 0, 0, [], 0, 0),
  (60, .aload_n 3, 61, 3, 0, [], 0, 0),
  (61, .iload_n 2, 62, 2, 0, [], 0, 0),
  (62, .invokevirtual 103, 65, 19, 0, [], 0, 0),
  (65, .pop, 66, 0, 0, [], 0, 0),
  (66, .iload 5, 68, 5, 0, [], 0, 0),
  (68, .ireturn, 69, 0, 0, [], 0, 0)]
/-- yX5_cut -/
def P50 : List En := [(0, .iload_n 1, 1, 1, 0, [], 0, 0),
  (1, .invokestatic 64, 4, 46, 0, [], 0, 0),
  (4, .ifCond .eq 17, 7, 21, 0, [], 0, 0),
  (7, .iload_n 2, 8, 2, 0, [], 0, 0),
  (8, .invokestatic 84, 11, 48, 0, [], 0, 0),
  (11, .ifCond .eq 10, 14, 21, 0, [], 0, 0),
  (14, .iload_n 3, 15, 3, 0, [], 0, 0),
  (15, .invokestatic 84, 18, 48, 0, [], 0, 0),
  (18, .ifCond .ne 5, 21, 23, 0, [], 0, 0),
  (21, .iconst (-1), 22, 0, 0, [], (-1), 0),
  (22, .ireturn, 23, 0, 0, [], 0, 0),
  (23, .iload_n 2, 24, 2, 0, [], 0, 0),
  (24, .iload_n 3, 25, 3, 0, [], 0, 0),
  (25, .if_icmp .le 6, 28, 31, 0, [], 0, 0),
  (28, .bipush (-2), 30, 0, 0, [], (-2), 0),
  (30, .ireturn, 31, 0, 0, [], 0, 0),
  (31, .aload_n 0, 32, 0, 0, [], 0, 0),
  (32, .getfield 10, 35, 5, 0, [], 0, 0),
  (35, .iload_n 1, 36, 1, 0, [], 0, 0),
  (36, .invokevirtual 71, 39, 3, 0, [], 0, 0),
  (39, .astore 4, 41, 4, 0, [], 0, 0),
  (41, .aload_n 0, 42, 0, 0, [], 0, 0),
  (42, .getfield 10, 45, 5, 0, [], 0, 0),
  (45, .iconst 1, 46, 0, 0, [], 1, 0),
  (46, .iload_n 1, 47, 1, 0, [], 0, 0),
  (47, .isub, 48, 0, 0, [], 0, 0),
  (48, .invokevirtual 71, 51, 3, 0, [], 0, 0),
  (51, .astore 5, 53, 5, 0, [], 0, 0),
  (53, .aload 5, 55, 5, 0, [], 0, 0),
  (55, .getfield 79, 58, 2, 3, [], 0, 0),
  (58, .aload 4, 60, 4, 0, [], 0, 0),
  (60, .aload 5, 62, 5, 0, [], 0, 0),
  (62, .iload_n 2, 63, 2, 0, [], 0, 0),
  (63, .iload_n 3, 64, 3, 0, [], 0, 0),
  (64, .invokevirtual 106, 67, 25, 0, [], 0, 0),
  (67, .iadd, 68, 0, 0, [], 0, 0),
  (68, .bipush 40, 70, 0, 0, [], 40, 0),
  (70, .if_icmp .le 6, 73, 76, 0, [], 0, 0),
  (73, .bipush (-4), 75, 0, 0, [], (-4), 0),
  (75, .ireturn, 76, 0, 0, [], 0, 0),
  (76, .aload_n 0, 77, 0, 0, [], 0, 0),
  (77, .getfield 22, 80, 5, 2, [], 0, 0),
  (80, .aload_n 0, 81, 0, 0, [], 0, 0),
  (81, .getfield 10, 84, 5, 0, [], 0, 0),
  (84, .invokevirtual 67, 87, 0, 0, [], 0, 0),
  (87, .aload 4, 89, 4, 0, [], 0, 0),
  (89, .aload 5, 91, 5, 0, [], 0, 0),
  (91, .iload_n 2, 92, 2, 0, [], 0, 0),
  (92, .iload_n 3, 93, 3, 0, [], 0, 0),
  (93, .invokevirtual 110, 96, 26, 0, [], 0, 0),
  (96, .ireturn, 97, 0, 0, [], 0, 0)]
/-- yX5_undo -/
def P51 : List En := [(0, .aload_n 0, 1, 0, 0, [], 0, 0),
  (1, .getfield 22, 4, 5, 2, [], 0, 0),
  (4, .aload_n 0, 5, 0, 0, [], 0, 0),
  (5, .getfield 10, 8, 5, 0, [], 0, 0),
  (8, .invokevirtual 113, 11, 1, 0, [], 0, 0),
  (11, .ifCond .eq 13, 14, 24, 0, [], 0, 0),
  (14, .aload_n 0, 15, 0, 0, [], 0, 0),
  (15, .getfield 22, 18, 5, 2, [], 0, 0),
  (18, .getfield 117, 21, 0, 2, [], 0, 0),
  (21, .goto 5, 24, 26, 0, [], 0, 0),
  (24, .bipush (-3), 26, 0, 0, [], (-3), 0),
  (26, .ireturn, 27, 0, 0, [], 0, 0)]
/-- yX5_about -/
def P52 : List En := [(0, .iload_n 1, 1, 1, 0, [], 0, 0),
  (1, .invokestatic 64, 4, 46, 0, [], 0, 0),
  (4, .ifCond .ne 5, 7, 9, 0, [], 0, 0),
  (7, .iconst (-1), 8, 0, 0, [], (-1), 0),
  (8, .ireturn, 9, 0, 0, [], 0, 0),
  (9, .aload_n 0, 10, 0, 0, [], 0, 0),
  (10, .getfield 10, 13, 5, 0, [], 0, 0),
  (13, .iload_n 1, 14, 1, 0, [], 0, 0),
  (14, .invokevirtual 71, 17, 3, 0, [], 0, 0),
  (17, .astore_n 3, 18, 3, 0, [], 0, 0),
  (18, .iload_n 2, 19, 2, 0, [], 0, 0),
  (19, .tableswitch 74 0 5 #[37, 42, 47, 52, 58, 69], 56, 93, 0, [56, 61, 66, 71, 77, 88], 0, 0),
  (56, .aload_n 3, 57, 3, 0, [], 0, 0),
  (57, .getfield 79, 60, 2, 3, [], 0, 0),
  (60, .ireturn, 61, 0, 0, [], 0, 0),
  (61, .aload_n 3, 62, 3, 0, [], 0, 0),
  (62, .invokevirtual 120, 65, 12, 0, [], 0, 0),
  (65, .ireturn, 66, 0, 0, [], 0, 0),
  (66, .aload_n 3, 67, 3, 0, [], 0, 0),
  (67, .invokevirtual 123, 70, 27, 0, [], 0, 0),
  (70, .ireturn, 71, 0, 0, [], 0, 0),
  (71, .aload_n 3, 72, 3, 0, [], 0, 0),
  (72, .iconst 0, 73, 0, 0, [], 0, 0),
  (73, .invokevirtual 126, 76, 28, 0, [], 0, 0),
  (76, .ireturn, 77, 0, 0, [], 0, 0),
  (77, .aload_n 3, 78, 3, 0, [], 0, 0),
  (78, .aload_n 3, 79, 3, 0, [], 0, 0),
  (79, .getfield 79, 82, 2, 3, [], 0, 0),
  (82, .iconst 1, 83, 0, 0, [], 1, 0),
  (83, .isub, 84, 0, 0, [], 0, 0),
  (84, .invokevirtual 126, 87, 28, 0, [], 0, 0),
  (87, .ireturn, 88, 0, 0, [], 0, 0),
  (88, .aload_n 3, 89, 3, 0, [], 0, 0),
  (89, .invokevirtual 129, 92, 29, 0, [], 0, 0),
  (92, .ireturn, 93, 0, 0, [], 0, 0),
  (93, .bipush (-2), 95, 0, 0, [], (-2), 0),
  (95, .ireturn, 96, 0, 0, [], 0, 0)]
/-- yX5_item -/
def P53 : List En := [(0, .iload_n 1, 1, 1, 0, [], 0, 0),
  (1, .invokestatic 64, 4, 46, 0, [], 0, 0),
  (4, .ifCond .ne 5, 7, 9, 0, [], 0, 0),
  (7, .iconst (-1), 8, 0, 0, [], (-1), 0),
  (8, .ireturn, 9, 0, 0, [], 0, 0),
  (9, .aload_n 0, 10, 0, 0, [], 0, 0),
  (10, .getfield 10, 13, 5, 0, [], 0, 0),
  (13, .iload_n 1, 14, 1, 0, [], 0, 0),
  (14, .invokevirtual 71, 17, 3, 0, [], 0, 0),
  (17, .astore 4, 19, 4, 0, [], 0, 0),
  (19, .iload_n 2, 20, 2, 0, [], 0, 0),
  (20, .ifCond .lt 12, 23, 32, 0, [], 0, 0),
  (23, .iload_n 2, 24, 2, 0, [], 0, 0),
  (24, .aload 4, 26, 4, 0, [], 0, 0),
  (26, .getfield 79, 29, 2, 3, [], 0, 0),
  (29, .if_icmp .lt 5, 32, 34, 0, [], 0, 0),
  (32, .iconst (-1), 33, 0, 0, [], (-1), 0),
  (33, .ireturn, 34, 0, 0, [], 0, 0),
  (34, .iload_n 3, 35, 3, 0, [], 0, 0),
  (35, .tableswitch 49 0 2 #[25, 33, 41], 60, 84, 0, [60, 68, 76], 0, 0),
  (60, .aload 4, 62, 4, 0, [], 0, 0),
  (62, .getfield 132, 65, 2, 0, [], 0, 0),
  (65, .iload_n 2, 66, 2, 0, [], 0, 0),
  (66, .iaload, 67, 0, 0, [], 0, 0),
  (67, .ireturn, 68, 0, 0, [], 0, 0),
  (68, .aload 4, 70, 4, 0, [], 0, 0),
  (70, .getfield 99, 73, 2, 1, [], 0, 0),
  (73, .iload_n 2, 74, 2, 0, [], 0, 0),
  (74, .iaload, 75, 0, 0, [], 0, 0),
  (75, .ireturn, 76, 0, 0, [], 0, 0),
  (76, .aload 4, 78, 4, 0, [], 0, 0),
  (78, .getfield 135, 81, 2, 2, [], 0, 0),
  (81, .iload_n 2, 82, 2, 0, [], 0, 0),
  (82, .iaload, 83, 0, 0, [], 0, 0),
  (83, .ireturn, 84, 0, 0, [], 0, 0),
  (84, .bipush (-2), 86, 0, 0, [], (-2), 0),
  (86, .ireturn, 87, 0, 0, [], 0, 0)]
/-- yX5_get -/
def P54 : List En := [(0, .iload_n 1, 1, 1, 0, [], 0, 0),
  (1, .invokestatic 64, 4, 46, 0, [], 0, 0),
  (4, .ifCond .eq 10, 7, 14, 0, [], 0, 0),
  (7, .iload_n 2, 8, 2, 0, [], 0, 0),
  (8, .invokestatic 84, 11, 48, 0, [], 0, 0),
  (11, .ifCond .ne 5, 14, 16, 0, [], 0, 0),
  (14, .iconst (-1), 15, 0, 0, [], (-1), 0),
  (15, .ireturn, 16, 0, 0, [], 0, 0),
  (16, .aload_n 0, 17, 0, 0, [], 0, 0),
  (17, .getfield 10, 20, 5, 0, [], 0, 0),
  (20, .iload_n 1, 21, 1, 0, [], 0, 0),
  (21, .invokevirtual 71, 24, 3, 0, [], 0, 0),
  (24, .astore_n 3, 25, 3, 0, [], 0, 0),
  (25, .aload_n 3, 26, 3, 0, [], 0, 0),
  (26, .iload_n 2, 27, 2, 0, [], 0, 0),
  (27, .invokevirtual 95, 30, 9, 0, [], 0, 0),
  (30, .istore 4, 32, 4, 0, [], 0, 0),
  (32, .iload 4, 34, 4, 0, [], 0, 0),
  (34, .ifCond .ge 8, 37, 42, 0, [], 0, 0),
  (37, .bipush (-9), 39, 0, 0, [], (-9), 0),
  (39, .goto 10, 42, 49, 0, [], 0, 0),
  (42, .aload_n 3, 43, 3, 0, [], 0, 0),
  (43, .getfield 99, 46, 2, 1, [], 0, 0),
  (46, .iload 4, 48, 4, 0, [], 0, 0),
  (48, .iaload, 49, 0, 0, [], 0, 0),
  (49, .ireturn, 50, 0, 0, [], 0, 0)]
/-- yX5_span -/
def P55 : List En := [(0, .iload_n 1, 1, 1, 0, [], 0, 0),
  (1, .invokestatic 64, 4, 46, 0, [], 0, 0),
  (4, .ifCond .eq 10, 7, 14, 0, [], 0, 0),
  (7, .iload_n 2, 8, 2, 0, [], 0, 0),
  (8, .invokestatic 84, 11, 48, 0, [], 0, 0),
  (11, .ifCond .ne 5, 14, 16, 0, [], 0, 0),
  (14, .iconst (-1), 15, 0, 0, [], (-1), 0),
  (15, .ireturn, 16, 0, 0, [], 0, 0),
  (16, .aload_n 0, 17, 0, 0, [], 0, 0),
  (17, .getfield 10, 20, 5, 0, [], 0, 0),
  (20, .iload_n 1, 21, 1, 0, [], 0, 0),
  (21, .invokevirtual 71, 24, 3, 0, [], 0, 0),
  (24, .astore 4, 26, 4, 0, [], 0, 0),
  (26, .aload 4, 28, 4, 0, [], 0, 0),
  (28, .iload_n 2, 29, 2, 0, [], 0, 0),
  (29, .invokevirtual 95, 32, 9, 0, [], 0, 0),
  (32, .istore 5, 34, 5, 0, [], 0, 0),
  (34, .iload 5, 36, 5, 0, [], 0, 0),
  (36, .ifCond .ge 6, 39, 42, 0, [], 0, 0),
  (39, .bipush (-3), 41, 0, 0, [], (-3), 0),
  (41, .ireturn, 42, 0, 0, [], 0, 0),
  (42, .iload_n 3, 43, 3, 0, [], 0, 0),
  (43, .ifCond .lt 15, 46, 58, 0, [], 0, 0),
  (46, .iload_n 3, 47, 3, 0, [], 0, 0),
  (47, .aload 4, 49, 4, 0, [], 0, 0),
  (49, .getfield 135, 52, 2, 2, [], 0, 0),
  (52, .iload 5, 54, 5, 0, [], 0, 0),
  (54, .iaload, 55, 0, 0, [], 0, 0),
  (55, .if_icmp .le 6, 58, 61, 0, [], 0, 0),
  (58, .bipush (-2), 60, 0, 0, [], (-2), 0),
  (60, .ireturn, 61, 0, 0, [], 0, 0),
  (61, .aload 4, 63, 4, 0, [], 0, 0),
  (63, .iload 5, 65, 5, 0, [], 0, 0),
  (65, .iconst 1, 66, 0, 0, [], 1, 0),
  (66, .iadd, 67, 0, 0, [], 0, 0),
  (67, .iload_n 3, 68, 3, 0, [], 0, 0),
  (68, .invokevirtual 138, 71, 15, 0, [], 0, 0),
  (71, .iload 5, 73, 5, 0, [], 0, 0),
  (73, .isub, 74, 0, 0, [], 0, 0),
  (74, .ireturn, 75, 0, 0, [], 0, 0)]
/-- yX5_rank -/
def P56 : List En := [(0, .iload_n 1, 1, 1, 0, [], 0, 0),
  (1, .invokestatic 64, 4, 46, 0, [], 0, 0),
  (4, .ifCond .eq 10, 7, 14, 0, [], 0, 0),
  (7, .iload_n 2, 8, 2, 0, [], 0, 0),
  (8, .invokestatic 84, 11, 48, 0, [], 0, 0),
  (11, .ifCond .ne 5, 14, 16, 0, [], 0, 0),
  (14, .iconst (-1), 15, 0, 0, [], (-1), 0),
  (15, .ireturn, 16, 0, 0, [], 0, 0),
  (16, .aload_n 0, 17, 0, 0, [], 0, 0),
  (17, .getfield 10, 20, 5, 0, [], 0, 0),
  (20, .iload_n 1, 21, 1, 0, [], 0, 0),
  (21, .invokevirtual 71, 24, 3, 0, [], 0, 0),
  (24, .iload_n 2, 25, 2, 0, [], 0, 0),
  (25, .invokevirtual 142, 28, 10, 0, [], 0, 0),
  (28, .ireturn, 29, 0, 0, [], 0, 0)]
/-- yX5_near -/
def P57 : List En := [(0, .iload_n 1, 1, 1, 0, [], 0, 0),
  (1, .invokestatic 64, 4, 46, 0, [], 0, 0),
  (4, .ifCond .eq 10, 7, 14, 0, [], 0, 0),
  (7, .iload_n 2, 8, 2, 0, [], 0, 0),
  (8, .invokestatic 84, 11, 48, 0, [], 0, 0),
  (11, .ifCond .ne 5, 14, 16, 0, [], 0, 0),
  (14, .iconst (-1), 15, 0, 0, [], (-1), 0),
  (15, .ireturn, 16, 0, 0, [], 0, 0),
  (16, .iload_n 3, 17, 3, 0, [], 0, 0),
  (17, .ifCond .eq 11, 20, 28, 0, [], 0, 0),
  (20, .iload_n 3, 21, 3, 0, [], 0, 0),
  (21, .iconst 1, 22, 0, 0, [], 1, 0),
  (22, .if_icmp .eq 6, 25, 28, 0, [], 0, 0),
  (25, .bipush (-2), 27, 0, 0, [], (-2), 0),
  (27, .ireturn, 28, 0, 0, [], 0, 0),
  (28, .aload_n 0, 29, 0, 0, [], 0, 0),
  (29, .getfield 10, 32, 5, 0, [], 0, 0),
  (32, .iload_n 1, 33, 1, 0, [], 0, 0),
  (33, .invokevirtual 71, 36, 3, 0, [], 0, 0),
  (36, .astore 4, 38, 4, 0, [], 0, 0),
  (38, .aload 4, 40, 4, 0, [], 0, 0),
  (40, .iload_n 2, 41, 2, 0, [], 0, 0),
  (41, .invokevirtual 142, 44, 10, 0, [], 0, 0),
  (44, .istore 5, 46, 5, 0, [], 0, 0),
  (46, .iload_n 3, 47, 3, 0, [], 0, 0),
  (47, .iconst 1, 48, 0, 0, [], 1, 0),
  (48, .if_icmp .eq 12, 51, 60, 0, [], 0, 0),
  (51, .aload 4, 53, 4, 0, [], 0, 0),
  (53, .iload_n 2, 54, 2, 0, [], 0, 0),
  (54, .invokevirtual 95, 57, 9, 0, [], 0, 0),
  (57, .ifCond .lt 13, 60, 70, 0, [], 0, 0),
  (60, .aload 4, 62, 4, 0, [], 0, 0),
  (62, .iload 5, 64, 5, 0, [], 0, 0),
  (64, .invokevirtual 126, 67, 28, 0, [], 0, 0),
  (67, .goto 12, 70, 79, 0, [], 0, 0),
  (70, .aload 4, 72, 4, 0, [], 0, 0),
  (72, .iload 5, 74, 5, 0, [], 0, 0),
  (74, .iconst 1, 75, 0, 0, [], 1, 0),
  (75, .isub, 76, 0, 0, [], 0, 0),
  (76, .invokevirtual 126, 79, 28, 0, [], 0, 0),
  (79, .ireturn, 80, 0, 0, [], 0, 0)]
/-- yX5_looks -/
def P58 : List En := [(0, .iload_n 1, 1, 1, 0, [], 0, 0),
  (1, .invokestatic 64, 4, 46, 0, [], 0, 0),
  (4, .ifCond .eq 10, 7, 14, 0, [], 0, 0),
  (7, .iload_n 2, 8, 2, 0, [], 0, 0),
  (8, .invokestatic 84, 11, 48, 0, [], 0, 0),
  (11, .ifCond .ne 5, 14, 16, 0, [], 0, 0),
  (14, .iconst (-1), 15, 0, 0, [], (-1), 0),
  (15, .ireturn, 16, 0, 0, [], 0, 0),
  (16, .aload_n 0, 17, 0, 0, [], 0, 0),
  (17, .getfield 10, 20, 5, 0, [], 0, 0),
  (20, .iload_n 1, 21, 1, 0, [], 0, 0),
  (21, .invokevirtual 71, 24, 3, 0, [], 0, 0),
  (24, .iload_n 2, 25, 2, 0, [], 0, 0),
  (25, .invokevirtual 145, 28, 30, 0, [], 0, 0),
  (28, .ireturn, 29, 0, 0, [], 0, 0)]
/-- yX5_sum -/
def P59 : List En := [(0, .iload_n 1, 1, 1, 0, [], 0, 0),
  (1, .invokestatic 64, 4, 46, 0, [], 0, 0),
  (4, .ifCond .eq 17, 7, 21, 0, [], 0, 0),
  (7, .iload_n 2, 8, 2, 0, [], 0, 0),
  (8, .invokestatic 84, 11, 48, 0, [], 0, 0),
  (11, .ifCond .eq 10, 14, 21, 0, [], 0, 0),
  (14, .iload_n 3, 15, 3, 0, [], 0, 0),
  (15, .invokestatic 84, 18, 48, 0, [], 0, 0),
  (18, .ifCond .ne 5, 21, 23, 0, [], 0, 0),
  (21, .iconst (-1), 22, 0, 0, [], (-1), 0),
  (22, .ireturn, 23, 0, 0, [], 0, 0),
  (23, .iload_n 2, 24, 2, 0, [], 0, 0),
  (24, .iload_n 3, 25, 3, 0, [], 0, 0),
  (25, .if_icmp .le 8, 28, 33, 0, [], 0, 0),
  (28, .bipush (-2), 30, 0, 0, [], (-2), 0),
  (30, .goto 16, 33, 46, 0, [], 0, 0),
  (33, .aload_n 0, 34, 0, 0, [], 0, 0),
  (34, .getfield 10, 37, 5, 0, [], 0, 0),
  (37, .iload_n 1, 38, 1, 0, [], 0, 0),
  (38, .invokevirtual 71, 41, 3, 0, [], 0, 0),
  (41, .iload_n 2, 42, 2, 0, [], 0, 0),
  (42, .iload_n 3, 43, 3, 0, [], 0, 0),
  (43, .invokevirtual 148, 46, 31, 0, [], 0, 0),
  (46, .ireturn, 47, 0, 0, [], 0, 0)]
/-- yX5_would -/
def P60 : List En := [(0, .iload_n 1, 1, 1, 0, [], 0, 0),
  (1, .invokestatic 64, 4, 46, 0, [], 0, 0),
  (4, .ifCond .eq 10, 7, 14, 0, [], 0, 0),
  (7, .iload_n 2, 8, 2, 0, [], 0, 0),
  (8, .invokestatic 84, 11, 48, 0, [], 0, 0),
  (11, .ifCond .ne 5, 14, 16, 0, [], 0, 0),
  (14, .iconst (-1), 15, 0, 0, [], (-1), 0),
  (15, .ireturn, 16, 0, 0, [], 0, 0),
  (16, .iload_n 3, 17, 3, 0, [], 0, 0),
  (17, .ifCond .lt 8, 20, 25, 0, [], 0, 0),
  (20, .iload_n 3, 21, 3, 0, [], 0, 0),
  (21, .iconst 2, 22, 0, 0, [], 2, 0),
  (22, .if_icmp .le 6, 25, 28, 0, [], 0, 0),
  (25, .bipush (-2), 27, 0, 0, [], (-2), 0),
  (27, .ireturn, 28, 0, 0, [], 0, 0),
  (28, .aload_n 0, 29, 0, 0, [], 0, 0),
  (29, .getfield 10, 32, 5, 0, [], 0, 0),
  (32, .iload_n 1, 33, 1, 0, [], 0, 0),
  (33, .invokevirtual 71, 36, 3, 0, [], 0, 0),
  (36, .astore 4, 38, 4, 0, [], 0, 0),
  (38, .aload 4, 40, 4, 0, [], 0, 0),
  (40, .iload_n 2, 41, 2, 0, [], 0, 0),
  (41, .invokevirtual 88, 44, 8, 0, [], 0, 0),
  (44, .ifCond .ne 6, 47, 50, 0, [], 0, 0),
  (47, .bipush (-4), 49, 0, 0, [], (-4), 0),
  (49, .ireturn, 50, 0, 0, [], 0, 0),
  (50, .aload_n 0, 51, 0, 0, [], 0, 0),
  (51, .iload_n 1, 52, 1, 0, [], 0, 0),
  (52, .invokevirtual 151, 55, 61, 0, [], 0, 0),
  (55, .astore 5, 57, 5, 0, [], 0, 0),
  (57, .aload 5, 59, 5, 0, [], 0, 0),
  (59, .iload_n 2, 60, 2, 0, [], 0, 0),
  (60, .invokevirtual 103, 63, 19, 0, [], 0, 0),
  (63, .ifCond .ne 11, 66, 74, 0, [], 0, 0),
  (66, .aload 5, 68, 5, 0, [], 0, 0),
  (68, .iload_n 2, 69, 2, 0, [], 0, 0),
  (69, .iconst 0, 70, 0, 0, [], 0, 0),
  (70, .invokevirtual 91, 73, 11, 0, [], 0, 0),
  (73, .pop, 74, 0, 0, [], 0, 0),
  (74, .iload_n 3, 75, 3, 0, [], 0, 0),
  (75, .lookupswitch 40 #[(0, 25), (1, 34)], 100, 115, 0, [100, 109], 0, 0),
  (100, .aload 4, 102, 4, 0, [], 0, 0),
  (102, .aload 5, 104, 5, 0, [], 0, 0),
  (104, .iload_n 2, 105, 2, 0, [], 0, 0),
  (105, .invokevirtual 154, 108, 32, 0, [], 0, 0),
  (108, .ireturn, 109, 0, 0, [], 0, 0),
  (109, .aload 5, 111, 5, 0, [], 0, 0),
  (111, .invokevirtual 120, 114, 12, 0, [], 0, 0),
  (114, .ireturn, 115, 0, 0, [], 0, 0),
  (115, .aload 5, 117, 5, 0, [], 0, 0),
  (117, .invokevirtual 129, 120, 29, 0, [], 0, 0),
  (120, .ireturn, 121, 0, 0, [], 0, 0)]
/-- yX5_tryOn -/
def P61 : List En := [(0, .aload_n 0, 1, 0, 0, [], 0, 0),
  (1, .getfield 16, 4, 5, 1, [], 0, 0),
  (4, .iload_n 1, 5, 1, 0, [], 0, 0),
  (5, .invokevirtual 71, 8, 3, 0, [], 0, 0),
  (8, .astore_n 2, 9, 2, 0, [], 0, 0),
  (9, .aload_n 2, 10, 2, 0, [], 0, 0),
  (10, .aload_n 0, 11, 0, 0, [], 0, 0),
  (11, .getfield 10, 14, 5, 0, [], 0, 0),
  (14, .iload_n 1, 15, 1, 0, [], 0, 0),
  (15, .invokevirtual 71, 18, 3, 0, [], 0, 0),
  (18, .invokevirtual 223, 21, 5, 0, [], 0, 0),
  (21, .aload_n 2, 22, 2, 0, [], 0, 0),
  (22, .areturn, 23, 0, 0, [], 0, 0)]
/-- yX5_best -/
def P62 : List En := [(0, .iload_n 1, 1, 1, 0, [], 0, 0),
  (1, .invokestatic 64, 4, 46, 0, [], 0, 0),
  (4, .ifCond .ne 5, 7, 9, 0, [], 0, 0),
  (7, .iconst (-1), 8, 0, 0, [], (-1), 0),
  (8, .ireturn, 9, 0, 0, [], 0, 0),
  (9, .iload_n 2, 10, 2, 0, [], 0, 0),
  (10, .ifCond .eq 11, 13, 21, 0, [], 0, 0),
  (13, .iload_n 2, 14, 2, 0, [], 0, 0),
  (14, .iconst 1, 15, 0, 0, [], 1, 0),
  (15, .if_icmp .eq 6, 18, 21, 0, [], 0, 0),
  (18, .bipush (-2), 20, 0, 0, [], (-2), 0),
  (20, .ireturn, 21, 0, 0, [], 0, 0),
  (21, .bipush (-9), 23, 0, 0, [], (-9), 0),
  (23, .istore_n 3, 24, 3, 0, [], 0, 0),
  (24, .bipush (-9), 26, 0, 0, [], (-9), 0),
  (26, .istore 4, 28, 4, 0, [], 0, 0),
  (28, .iconst 0, 29, 0, 0, [], 0, 0),
  (29, .istore 5, 31, 5, 0, [], 0, 0),
  (31, .iload 5, 33, 5, 0, [], 0, 0),
  (33, .bipush 100, 35, 0, 0, [], 100, 0),
  (35, .if_icmp .ge 51, 38, 86, 0, [], 0, 0),
  (38, .aload_n 0, 39, 0, 0, [], 0, 0),
  (39, .iload_n 1, 40, 1, 0, [], 0, 0),
  (40, .iload 5, 42, 5, 0, [], 0, 0),
  (42, .invokevirtual 158, 45, 63, 0, [], 0, 0),
  (45, .ifCond .ne 6, 48, 51, 0, [], 0, 0),
  (48, .goto 32, 51, 80, 0, [], 0, 0),
  (51, .aload_n 0, 52, 0, 0, [], 0, 0),
  (52, .iload_n 1, 53, 1, 0, [], 0, 0),
  (53, .iload 5, 55, 5, 0, [], 0, 0),
  (55, .invokevirtual 161, 58, 64, 0, [], 0, 0),
  (58, .istore 6, 60, 6, 0, [], 0, 0),
  (60, .iload_n 3, 61, 3, 0, [], 0, 0),
  (61, .bipush (-9), 63, 0, 0, [], (-9), 0),
  (63, .if_icmp .eq 10, 66, 73, 0, [], 0, 0),
  (66, .iload 6, 68, 6, 0, [], 0, 0),
  (68, .iload 4, 70, 4, 0, [], 0, 0),
  (70, .if_icmp .ge 10, 73, 80, 0, [], 0, 0),
  (73, .iload 5, 75, 5, 0, [], 0, 0),
  (75, .istore_n 3, 76, 3, 0, [], 0, 0),
  (76, .iload 6, 78, 6, 0, [], 0, 0),
  (78, .istore 4, 80, 4, 0, [], 0, 0),
  (80, .iinc 5 1, 83, 5, 0, [], 1, 0),
  (83, .goto (-52), 86, 31, 0, [], 0, 0),
  (86, .iload_n 2, 87, 2, 0, [], 0, 0),
  (87, .ifCond .ne 7, 90, 94, 0, [], 0, 0),
  (90, .iload_n 3, 91, 3, 0, [], 0, 0),
  (91, .goto 5, 94, 96, 0, [], 0, 0),
  (94, .iload 4, 96, 4, 0, [], 0, 0),
  (96, .ireturn, 97, 0, 0, [], 0, 0)]
/-- yX5_isWorthTrying -/
def P63 : List En := [(0, .aload_n 0, 1, 0, 0, [], 0, 0),
  (1, .getfield 10, 4, 5, 0, [], 0, 0),
  (4, .iload_n 1, 5, 1, 0, [], 0, 0),
  (5, .invokevirtual 71, 8, 3, 0, [], 0, 0),
  (8, .astore_n 3, 9, 3, 0, [], 0, 0),
  (9, .aload_n 3, 10, 3, 0, [], 0, 0),
  (10, .iload_n 2, 11, 2, 0, [], 0, 0),
  (11, .invokevirtual 95, 14, 9, 0, [], 0, 0),
  (14, .ifCond .ge 11, 17, 25, 0, [], 0, 0),
  (17, .aload_n 3, 18, 3, 0, [], 0, 0),
  (18, .iload_n 2, 19, 2, 0, [], 0, 0),
  (19, .invokevirtual 88, 22, 8, 0, [], 0, 0),
  (22, .ifCond .ne 5, 25, 27, 0, [], 0, 0),
  (25, .iconst 0, 26, 0, 0, [], 0, 0),
  (26, .ireturn, 27, 0, 0, [], 0, 0),
  (27, .iload_n 2, 28, 2, 0, [], 0, 0),
  (28, .ifCond .eq 13, 31, 41, 0, [], 0, 0),
  (31, .aload_n 3, 32, 3, 0, [], 0, 0),
  (32, .iload_n 2, 33, 2, 0, [], 0, 0),
  (33, .iconst 1, 34, 0, 0, [], 1, 0),
  (34, .isub, 35, 0, 0, [], 0, 0),
  (35, .invokevirtual 95, 38, 9, 0, [], 0, 0),
  (38, .ifCond .lt 7, 41, 45, 0, [], 0, 0),
  (41, .iconst 1, 42, 0, 0, [], 1, 0),
  (42, .goto 4, 45, 46, 0, [], 0, 0),
  (45, .iconst 0, 46, 0, 0, [], 0, 0),
  (46, .ireturn, 47, 0, 0, [], 0, 0)]
/-- yX5_looksWith -/
def P64 : List En := [(0, .aload_n 0, 1, 0, 0, [], 0, 0),
  (1, .iload_n 1, 2, 1, 0, [], 0, 0),
  (2, .invokevirtual 151, 5, 61, 0, [], 0, 0),
  (5, .astore_n 3, 6, 3, 0, [], 0, 0),
  (6, .aload_n 3, 7, 3, 0, [], 0, 0),
  (7, .iload_n 2, 8, 2, 0, [], 0, 0),
  (8, .iconst 0, 9, 0, 0, [], 0, 0),
  (9, .invokevirtual 91, 12, 11, 0, [], 0, 0),
  (12, .pop, 13, 0, 0, [], 0, 0),
  (13, .aload_n 3, 14, 3, 0, [], 0, 0),
  (14, .invokevirtual 129, 17, 29, 0, [], 0, 0),
  (17, .ireturn, 18, 0, 0, [], 0, 0)]
/-- yX5_judge -/
def P65 : List En := [(0, .iload_n 1, 1, 1, 0, [], 0, 0),
  (1, .iconst 1, 2, 0, 0, [], 1, 0),
  (2, .if_icmp .lt 14, 5, 16, 0, [], 0, 0),
  (5, .iload_n 1, 6, 1, 0, [], 0, 0),
  (6, .iconst 4, 7, 0, 0, [], 4, 0),
  (7, .if_icmp .gt 9, 10, 16, 0, [], 0, 0),
  (10, .lload_n 2, 11, 2, 0, [], 0, 0),
  (11, .lconst 0, 12, 0, 0, [], 0, 0),
  (12, .lcmp, 13, 0, 0, [], 0, 0),
  (13, .ifCond .ge 6, 16, 19, 0, [], 0, 0),
  (16, .bipush (-2), 18, 0, 0, [], (-2), 0),
  (18, .ireturn, 19, 0, 0, [], 0, 0),
  (19, .lconst 1, 20, 0, 0, [], 0, 1),
  (20, .lstore 4, 22, 4, 0, [], 0, 0),
  (22, .iconst 1, 23, 0, 0, [], 1, 0),
  (23, .istore 6, 25, 6, 0, [], 0, 0),
  (25, .iload 6, 27, 6, 0, [], 0, 0),
  (27, .iload_n 1, 28, 1, 0, [], 0, 0),
  (28, .if_icmp .ge 17, 31, 45, 0, [], 0, 0),
  (31, .lload 4, 33, 4, 0, [], 0, 0),
  (33, .ldc2_w 164, 36, 0, 0, [], 0, 10000),
  (36, .lmul, 37, 0, 0, [], 0, 0),
  (37, .lstore 4, 39, 4, 0, [], 0, 0),
  (39, .iinc 6 1, 42, 6, 0, [], 1, 0),
  (42, .goto (-17), 45, 25, 0, [], 0, 0),
  (45, .lload_n 2, 46, 2, 0, [], 0, 0),
  (46, .lload 4, 48, 4, 0, [], 0, 0),
  (48, .ldiv, 49, 0, 0, [], 0, 0),
  (49, .ldc2_w 164, 52, 0, 0, [], 0, 10000),
  (52, .lcmp, 53, 0, 0, [], 0, 0),
  (53, .ifCond .lt 6, 56, 59, 0, [], 0, 0),
  (56, .bipush (-2), 58, 0, 0, [], (-2), 0),
  (58, .ireturn, 59, 0, 0, [], 0, 0),
  (59, .aload_n 0, 60, 0, 0, [], 0, 0),
  (60, .getfield 16, 63, 5, 1, [], 0, 0),
  (63, .aload_n 0, 64, 0, 0, [], 0, 0),
  (64, .getfield 10, 67, 5, 0, [], 0, 0),
  (67, .invokevirtual 166, 70, 2, 0, [], 0, 0),
  (70, .iconst 0, 71, 0, 0, [], 0, 0),
  (71, .istore 6, 73, 6, 0, [], 0, 0),
  (73, .iload 6, 75, 6, 0, [], 0, 0),
  (75, .iload_n 1, 76, 1, 0, [], 0, 0),
  (76, .if_icmp .ge 43, 79, 119, 0, [], 0, 0),
  (79, .lload 4, 81, 4, 0, [], 0, 0),
  (81, .lconst 0, 82, 0, 0, [], 0, 0),
  (82, .lcmp, 83, 0, 0, [], 0, 0),
  (83, .ifCond .le 36, 86, 119, 0, [], 0, 0),
  (86, .aload_n 0, 87, 0, 0, [], 0, 0),
  (87, .lload_n 2, 88, 2, 0, [], 0, 0),
  (88, .lload 4, 90, 4, 0, [], 0, 0),
  (90, .ldiv, 91, 0, 0, [], 0, 0),
  (91, .ldc2_w 164, 94, 0, 0, [], 0, 10000),
  (94, .lrem, 95, 0, 0, [], 0, 0),
  (95, .l2i, 96, 0, 0, [], 0, 0),
  (96, .invokevirtual 169, 99, 66, 0, [], 0, 0),
  (99, .ifCond .ne 6, 102, 105, 0, [], 0, 0),
  (102, .iload 6, 104, 6, 0, [], 0, 0),
  (104, .ireturn, 105, 0, 0, [], 0, 0),
  (105, .lload 4, 107, 4, 0, [], 0, 0),
  (107, .ldc2_w 164, 110, 0, 0, [], 0, 10000),
  (110, .ldiv, 111, 0, 0, [], 0, 0),
  (111, .lstore 4, 113, 4, 0, [], 0, 0),
  (113, .iinc 6 1, 116, 6, 0, [], 1, 0),
  (116, .goto (-43), 119, 73, 0, [], 0, 0),
  (119, .bipush (-9), 121, 0, 0, [], (-9), 0),
  (121, .ireturn, 122, 0, 0, [], 0, 0)]
/-- yX5_canBe -/
def P66 : List En := [(0, .iload_n 1, 1, 1, 0, [], 0, 0),
  (1, .bipush 100, 3, 0, 0, [], 100, 0),
  (3, .idiv, 4, 0, 0, [], 0, 0),
  (4, .bipush 10, 6, 0, 0, [], 10, 0),
  (6, .irem, 7, 0, 0, [], 0, 0),
  (7, .istore_n 2, 8, 2, 0, [], 0, 0),
  (8, .iload_n 1, 9, 1, 0, [], 0, 0),
  (9, .bipush 100, 11, 0, 0, [], 100, 0),
  (11, .irem, 12, 0, 0, [], 0, 0),
  (12, .istore_n 3, 13, 3, 0, [], 0, 0),
  (13, .iload_n 2, 14, 2, 0, [], 0, 0),
  (14, .invokestatic 64, 17, 46, 0, [], 0, 0),
  (17, .ifCond .ne 5, 20, 22, 0, [], 0, 0),
  (20, .iconst 0, 21, 0, 0, [], 0, 0),
  (21, .ireturn, 22, 0, 0, [], 0, 0),
  (22, .aload_n 0, 23, 0, 0, [], 0, 0),
  (23, .getfield 16, 26, 5, 1, [], 0, 0),
  (26, .iload_n 2, 27, 2, 0, [], 0, 0),
  (27, .invokevirtual 71, 30, 3, 0, [], 0, 0),
  (30, .astore 4, 32, 4, 0, [], 0, 0),
  (32, .iload_n 1, 33, 1, 0, [], 0, 0),
  (33, .sipush 1000, 36, 0, 0, [], 1000, 0),
  (36, .idiv, 37, 0, 0, [], 0, 0),
  (37, .tableswitch 95 1 5 #[35, 43, 50, 65, 80], 72, 132, 0, [72, 80, 87, 102, 117], 0, 0),
  (72, .aload 4, 74, 4, 0, [], 0, 0),
  (74, .iload_n 3, 75, 3, 0, [], 0, 0),
  (75, .iconst 0, 76, 0, 0, [], 0, 0),
  (76, .invokevirtual 91, 79, 11, 0, [], 0, 0),
  (79, .ireturn, 80, 0, 0, [], 0, 0),
  (80, .aload 4, 82, 4, 0, [], 0, 0),
  (82, .iload_n 3, 83, 3, 0, [], 0, 0),
  (83, .invokevirtual 103, 86, 19, 0, [], 0, 0),
  (86, .ireturn, 87, 0, 0, [], 0, 0),
  (87, .aload 4, 89, 4, 0, [], 0, 0),
  (89, .iload_n 3, 90, 3, 0, [], 0, 0),
  (90, .invokevirtual 95, 93, 9, 0, [], 0, 0),
  (93, .ifCond .lt 7, 96, 100, 0, [], 0, 0),
  (96, .iconst 1, 97, 0, 0, [], 1, 0),
  (97, .goto 4, 100, 101, 0, [], 0, 0),
  (100, .iconst 0, 101, 0, 0, [], 0, 0),
  (101, .ireturn, 102, 0, 0, [], 0, 0),
  (102, .aload 4, 104, 4, 0, [], 0, 0),
  (104, .invokevirtual 120, 107, 12, 0, [], 0, 0),
  (107, .iload_n 3, 108, 3, 0, [], 0, 0),
  (108, .if_icmp .ne 7, 111, 115, 0, [], 0, 0),
  (111, .iconst 1, 112, 0, 0, [], 1, 0),
  (112, .goto 4, 115, 116, 0, [], 0, 0),
  (115, .iconst 0, 116, 0, 0, [], 0, 0),
  (116, .ireturn, 117, 0, 0, [], 0, 0),
  (117, .aload 4, 119, 4, 0, [], 0, 0),
  (119, .invokevirtual 129, 122, 29, 0, [], 0, 0),
  (122, .iload_n 3, 123, 3, 0, [], 0, 0),
  (123, .if_icmp .gt 7, 126, 130, 0, [], 0, 0),
  (126, .iconst 1, 127, 0, 0, [], 1, 0),
  (127, .goto 4, 130, 131, 0, [], 0, 0),
  (130, .iconst 0, 131, 0, 0, [], 0, 0),
  (131, .ireturn, 132, 0, 0, [], 0, 0),
  (132, .iconst 0, 133, 0, 0, [], 0, 0),
  (133, .ireturn, 134, 0, 0, [], 0, 0)]
/-- yX5_share -/
def P67 : List En := [(0, .iload_n 1, 1, 1, 0, [], 0, 0),
  (1, .invokestatic 64, 4, 46, 0, [], 0, 0),
  (4, .ifCond .ne 5, 7, 9, 0, [], 0, 0),
  (7, .iconst (-1), 8, 0, 0, [], (-1), 0),
  (8, .ireturn, 9, 0, 0, [], 0, 0),
  (9, .aload_n 0, 10, 0, 0, [], 0, 0),
  (10, .iload_n 1, 11, 1, 0, [], 0, 0),
  (11, .invokevirtual 172, 14, 68, 0, [], 0, 0),
  (14, .istore 4, 16, 4, 0, [], 0, 0),
  (16, .iload_n 2, 17, 2, 0, [], 0, 0),
  (17, .ifCond .lt 9, 20, 26, 0, [], 0, 0),
  (20, .iload_n 2, 21, 2, 0, [], 0, 0),
  (21, .iload 4, 23, 4, 0, [], 0, 0),
  (23, .if_icmp .lt 5, 26, 28, 0, [], 0, 0),
  (26, .iconst (-1), 27, 0, 0, [], (-1), 0),
  (27, .ireturn, 28, 0, 0, [], 0, 0),
  (28, .iconst 1, 29, 0, 0, [], 1, 0),
  (29, .iload_n 2, 30, 2, 0, [], 0, 0),
  (30, .ishl, 31, 0, 0, [], 0, 0),
  (31, .istore 5, 33, 5, 0, [], 0, 0),
  (33, .iconst 0, 34, 0, 0, [], 0, 0),
  (34, .istore 6, 36, 6, 0, [], 0, 0),
  (36, .iconst 0, 37, 0, 0, [], 0, 0),
  (37, .istore 7, 39, 7, 0, [], 0, 0),
  (39, .iload 7, 41, 7, 0, [], 0, 0),
  (41, .iconst 1, 42, 0, 0, [], 1, 0),
  (42, .iload 4, 44, 4, 0, [], 0, 0),
  (44, .ishl, 45, 0, 0, [], 0, 0),
  (45, .if_icmp .ge 61, 48, 106, 0, [], 0, 0),
  (48, .iload 7, 50, 7, 0, [], 0, 0),
  (50, .iload 5, 52, 5, 0, [], 0, 0),
  (52, .iand, 53, 0, 0, [], 0, 0),
  (53, .ifCond .ne 47, 56, 100, 0, [], 0, 0),
  (56, .aload_n 0, 57, 0, 0, [], 0, 0),
  (57, .iload_n 1, 58, 1, 0, [], 0, 0),
  (58, .iload 7, 60, 7, 0, [], 0, 0),
  (60, .invokevirtual 175, 63, 69, 0, [], 0, 0),
  (63, .invokevirtual 129, 66, 29, 0, [], 0, 0),
  (66, .aload_n 0, 67, 0, 0, [], 0, 0),
  (67, .iload_n 1, 68, 1, 0, [], 0, 0),
  (68, .iload 7, 70, 7, 0, [], 0, 0),
  (70, .iload 5, 72, 5, 0, [], 0, 0),
  (72, .ior, 73, 0, 0, [], 0, 0),
  (73, .invokevirtual 175, 76, 69, 0, [], 0, 0),
  (76, .invokevirtual 129, 79, 29, 0, [], 0, 0),
  (79, .isub, 80, 0, 0, [], 0, 0),
  (80, .istore 8, 82, 8, 0, [], 0, 0),
  (82, .iload 6, 84, 6, 0, [], 0, 0),
  (84, .iload 8, 86, 8, 0, [], 0, 0),
  (86, .iload 7, 88, 7, 0, [], 0, 0),
  (88, .invokestatic 179, 91, 158, 0, [], 0, 0),
  (91, .iload 4, 93, 4, 0, [], 0, 0),
  (93, .invokestatic 184, 96, 70, 0, [], 0, 0),
  (96, .imul, 97, 0, 0, [], 0, 0),
  (97, .iadd, 98, 0, 0, [], 0, 0),
  (98, .istore 6, 100, 6, 0, [], 0, 0),
  (100, .iinc 7 1, 103, 7, 0, [], 1, 0),
  (103, .goto (-64), 106, 39, 0, [], 0, 0),
  (106, .iload 6, 108, 6, 0, [], 0, 0),
  (108, .iload 4, 110, 4, 0, [], 0, 0),
  (110, .invokestatic 187, 113, 71, 0, [], 0, 0),
  (113, .iload_n 3, 114, 3, 0, [], 0, 0),
  (114, .invokestatic 190, 117, 72, 0, [], 0, 0),
  (117, .ireturn, 118, 0, 0, [], 0, 0)]
/-- yX5_chanced -/
def P68 : List En := [(0, .iconst 4, 1, 0, 0, [], 4, 0),
  (1, .aload_n 0, 2, 0, 0, [], 0, 0),
  (2, .getfield 10, 5, 5, 0, [], 0, 0),
  (5, .iload_n 1, 6, 1, 0, [], 0, 0),
  (6, .invokevirtual 71, 9, 3, 0, [], 0, 0),
  (9, .getfield 79, 12, 2, 3, [], 0, 0),
  (12, .invokestatic 225, 15, 0, 2, [], 0, 0),
  (15, .ireturn, 16, 0, 0, [], 0, 0)]
/-- yX5_without -/
def P69 : List En := [(0, .aload_n 0, 1, 0, 0, [], 0, 0),
  (1, .getfield 10, 4, 5, 0, [], 0, 0),
  (4, .iload_n 1, 5, 1, 0, [], 0, 0),
  (5, .invokevirtual 71, 8, 3, 0, [], 0, 0),
  (8, .astore_n 3, 9, 3, 0, [], 0, 0),
  (9, .aload_n 0, 10, 0, 0, [], 0, 0),
  (10, .iload_n 1, 11, 1, 0, [], 0, 0),
  (11, .invokevirtual 151, 14, 61, 0, [], 0, 0),
  (14, .astore 4, 16, 4, 0, [], 0, 0),
  (16, .iconst 0, 17, 0, 0, [], 0, 0),
  (17, .istore 5, 19, 5, 0, [], 0, 0),
  (19, .iload 5, 21, 5, 0, [], 0, 0),
  (21, .iconst 4, 22, 0, 0, [], 4, 0),
  (22, .if_icmp .ge 41, 25, 63, 0, [], 0, 0),
  (25, .iload 5, 27, 5, 0, [], 0, 0),
  (27, .aload_n 3, 28, 3, 0, [], 0, 0),
  (28, .getfield 79, 31, 2, 3, [], 0, 0),
  (31, .if_icmp .ge 32, 34, 63, 0, [], 0, 0),
  (34, .iload_n 2, 35, 2, 0, [], 0, 0),
  (35, .iload 5, 37, 5, 0, [], 0, 0),
  (37, .ishr, 38, 0, 0, [], 0, 0),
  (38, .iconst 1, 39, 0, 0, [], 1, 0),
  (39, .iand, 40, 0, 0, [], 0, 0),
  (40, .iconst 1, 41, 0, 0, [], 1, 0),
  (41, .if_icmp .ne 16, 44, 57, 0, [], 0, 0),
  (44, .aload 4, 46, 4, 0, [], 0, 0),
  (46, .aload_n 3, 47, 3, 0, [], 0, 0),
  (47, .getfield 132, 50, 2, 0, [], 0, 0),
  (50, .iload 5, 52, 5, 0, [], 0, 0),
  (52, .iaload, 53, 0, 0, [], 0, 0),
  (53, .invokevirtual 103, 56, 19, 0, [], 0, 0),
  (56, .pop, 57, 0, 0, [], 0, 0),
  (57, .iinc 5 1, 60, 5, 0, [], 1, 0),
  (60, .goto (-41), 63, 19, 0, [], 0, 0),
  (63, .aload 4, 65, 4, 0, [], 0, 0),
  (65, .areturn, 66, 0, 0, [], 0, 0)]
/-- yX5_ordersAround -/
def P70 : List En := [(0, .iload_n 0, 1, 0, 0, [], 0, 0),
  (1, .invokestatic 187, 4, 71, 0, [], 0, 0),
  (4, .iload_n 1, 5, 1, 0, [], 0, 0),
  (5, .iconst 1, 6, 0, 0, [], 1, 0),
  (6, .isub, 7, 0, 0, [], 0, 0),
  (7, .iload_n 0, 8, 0, 0, [], 0, 0),
  (8, .isub, 9, 0, 0, [], 0, 0),
  (9, .invokestatic 187, 12, 71, 0, [], 0, 0),
  (12, .imul, 13, 0, 0, [], 0, 0),
  (13, .ireturn, 14, 0, 0, [], 0, 0)]
/-- yX5_factorial -/
def P71 : List En := [(0, .iload_n 0, 1, 0, 0, [], 0, 0),
  (1, .ifCond .lt 19, 4, 20, 0, [], 0, 0),
  (4, .iload_n 0, 5, 0, 0, [], 0, 0),
  (5, .getstatic 230, 8, 0, 0, [], 0, 0),
  (8, .arraylength, 9, 0, 0, [], 0, 0),
  (9, .if_icmp .ge 11, 12, 20, 0, [], 0, 0),
  (12, .getstatic 230, 15, 0, 0, [], 0, 0),
  (15, .iload_n 0, 16, 0, 0, [], 0, 0),
  (16, .iaload, 17, 0, 0, [], 0, 0),
  (17, .goto 4, 20, 21, 0, [], 0, 0),
  (20, .iconst 1, 21, 0, 0, [], 1, 0),
  (21, .ireturn, 22, 0, 0, [], 0, 0)]
/-- yX5_fraction -/
def P72 : List En := [(0, .iload_n 0, 1, 0, 0, [], 0, 0),
  (1, .invokestatic 233, 4, 0, 3, [], 0, 0),
  (4, .iload_n 1, 5, 1, 0, [], 0, 0),
  (5, .invokestatic 236, 8, 73, 0, [], 0, 0),
  (8, .istore_n 3, 9, 3, 0, [], 0, 0),
  (9, .iload_n 3, 10, 3, 0, [], 0, 0),
  (10, .iconst 1, 11, 0, 0, [], 1, 0),
  (11, .if_icmp .ge 6, 14, 17, 0, [], 0, 0),
  (14, .bipush (-9), 16, 0, 0, [], (-9), 0),
  (16, .ireturn, 17, 0, 0, [], 0, 0),
  (17, .iload_n 2, 18, 2, 0, [], 0, 0),
  (18, .ifCond .eq 7, 21, 25, 0, [], 0, 0),
  (21, .iload_n 0, 22, 0, 0, [], 0, 0),
  (22, .goto 4, 25, 26, 0, [], 0, 0),
  (25, .iload_n 1, 26, 1, 0, [], 0, 0),
  (26, .iload_n 3, 27, 3, 0, [], 0, 0),
  (27, .idiv, 28, 0, 0, [], 0, 0),
  (28, .ireturn, 29, 0, 0, [], 0, 0)]
/-- yX5_commonDivisor -/
def P73 : List En := [(0, .iload_n 0, 1, 0, 0, [], 0, 0),
  (1, .istore_n 2, 2, 2, 0, [], 0, 0),
  (2, .iload_n 1, 3, 1, 0, [], 0, 0),
  (3, .istore_n 3, 4, 3, 0, [], 0, 0),
  (4, .iconst 0, 5, 0, 0, [], 0, 0),
  (5, .istore 4, 7, 4, 0, [], 0, 0),
  (7, .iload 4, 9, 4, 0, [], 0, 0),
  (9, .bipush 100, 11, 0, 0, [], 100, 0),
  (11, .if_icmp .ge 23, 14, 34, 0, [], 0, 0),
  (14, .iload_n 3, 15, 3, 0, [], 0, 0),
  (15, .ifCond .eq 19, 18, 34, 0, [], 0, 0),
  (18, .iload_n 2, 19, 2, 0, [], 0, 0),
  (19, .iload_n 3, 20, 3, 0, [], 0, 0),
  (20, .irem, 21, 0, 0, [], 0, 0),
  (21, .istore 5, 23, 5, 0, [], 0, 0),
  (23, .iload_n 3, 24, 3, 0, [], 0, 0),
  (24, .istore_n 2, 25, 2, 0, [], 0, 0),
  (25, .iload 5, 27, 5, 0, [], 0, 0),
  (27, .istore_n 3, 28, 3, 0, [], 0, 0),
  (28, .iinc 4 1, 31, 4, 0, [], 1, 0),
  (31, .goto (-24), 34, 7, 0, [], 0, 0),
  (34, .iload_n 2, 35, 2, 0, [], 0, 0),
  (35, .ireturn, 36, 0, 0, [], 0, 0)]
/-- yX5_seek -/
def P74 : List En := [(0, .iload_n 1, 1, 1, 0, [], 0, 0),
  (1, .invokestatic 64, 4, 46, 0, [], 0, 0),
  (4, .ifCond .ne 5, 7, 9, 0, [], 0, 0),
  (7, .iconst (-1), 8, 0, 0, [], (-1), 0),
  (8, .ireturn, 9, 0, 0, [], 0, 0),
  (9, .iload_n 2, 10, 2, 0, [], 0, 0),
  (10, .ifCond .lt 18, 13, 28, 0, [], 0, 0),
  (13, .iload_n 2, 14, 2, 0, [], 0, 0),
  (14, .bipush 20, 16, 0, 0, [], 20, 0),
  (16, .if_icmp .gt 12, 19, 28, 0, [], 0, 0),
  (19, .iload_n 3, 20, 3, 0, [], 0, 0),
  (20, .ifCond .lt 8, 23, 28, 0, [], 0, 0),
  (23, .iload_n 3, 24, 3, 0, [], 0, 0),
  (24, .iconst 1, 25, 0, 0, [], 1, 0),
  (25, .if_icmp .le 6, 28, 31, 0, [], 0, 0),
  (28, .bipush (-2), 30, 0, 0, [], (-2), 0),
  (30, .ireturn, 31, 0, 0, [], 0, 0),
  (31, .aload_n 0, 32, 0, 0, [], 0, 0),
  (32, .getfield 36, 35, 5, 4, [], 0, 0),
  (35, .iload_n 1, 36, 1, 0, [], 0, 0),
  (36, .iload_n 2, 37, 2, 0, [], 0, 0),
  (37, .iload_n 3, 38, 3, 0, [], 0, 0),
  (38, .invokevirtual 194, 41, 33, 0, [], 0, 0),
  (41, .ifCond .eq 13, 44, 54, 0, [], 0, 0),
  (44, .aload_n 0, 45, 0, 0, [], 0, 0),
  (45, .getfield 36, 48, 5, 4, [], 0, 0),
  (48, .getfield 198, 51, 3, 3, [], 0, 0),
  (51, .goto 5, 54, 56, 0, [], 0, 0),
  (54, .bipush (-4), 56, 0, 0, [], (-4), 0),
  (56, .ireturn, 57, 0, 0, [], 0, 0)]
/-- yX5_unseek -/
def P75 : List En := [(0, .aload_n 0, 1, 0, 0, [], 0, 0),
  (1, .getfield 36, 4, 5, 4, [], 0, 0),
  (4, .getfield 198, 7, 3, 3, [], 0, 0),
  (7, .istore_n 1, 8, 1, 0, [], 0, 0),
  (8, .aload_n 0, 9, 0, 0, [], 0, 0),
  (9, .getfield 36, 12, 5, 4, [], 0, 0),
  (12, .iconst 0, 13, 0, 0, [], 0, 0),
  (13, .putfield 198, 16, 3, 3, [], 0, 0),
  (16, .iload_n 1, 17, 1, 0, [], 0, 0),
  (17, .ireturn, 18, 0, 0, [], 0, 0)]
/-- yX5_keys -/
def P76 : List En := [(0, .iload_n 1, 1, 1, 0, [], 0, 0),
  (1, .ifCond .eq 11, 4, 12, 0, [], 0, 0),
  (4, .iload_n 1, 5, 1, 0, [], 0, 0),
  (5, .iconst 1, 6, 0, 0, [], 1, 0),
  (6, .if_icmp .eq 6, 9, 12, 0, [], 0, 0),
  (9, .bipush (-2), 11, 0, 0, [], (-2), 0),
  (11, .ireturn, 12, 0, 0, [], 0, 0),
  (12, .iconst 0, 13, 0, 0, [], 0, 0),
  (13, .istore_n 2, 14, 2, 0, [], 0, 0),
  (14, .bipush (-9), 16, 0, 0, [], (-9), 0),
  (16, .istore_n 3, 17, 3, 0, [], 0, 0),
  (17, .iconst 0, 18, 0, 0, [], 0, 0),
  (18, .istore 4, 20, 4, 0, [], 0, 0),
  (20, .iload 4, 22, 4, 0, [], 0, 0),
  (22, .bipush 100, 24, 0, 0, [], 100, 0),
  (24, .if_icmp .ge 41, 27, 65, 0, [], 0, 0),
  (27, .aload_n 0, 28, 0, 0, [], 0, 0),
  (28, .getfield 36, 31, 5, 4, [], 0, 0),
  (31, .aload_n 0, 32, 0, 0, [], 0, 0),
  (32, .getfield 10, 35, 5, 0, [], 0, 0),
  (35, .iload 4, 37, 4, 0, [], 0, 0),
  (37, .invokevirtual 199, 40, 34, 0, [], 0, 0),
  (40, .ifCond .eq 19, 43, 59, 0, [], 0, 0),
  (43, .iinc 2 1, 46, 2, 0, [], 1, 0),
  (46, .iload_n 3, 47, 3, 0, [], 0, 0),
  (47, .bipush (-9), 49, 0, 0, [], (-9), 0),
  (49, .if_icmp .ne 8, 52, 57, 0, [], 0, 0),
  (52, .iload 4, 54, 4, 0, [], 0, 0),
  (54, .goto 4, 57, 58, 0, [], 0, 0),
  (57, .iload_n 3, 58, 3, 0, [], 0, 0),
  (58, .istore_n 3, 59, 3, 0, [], 0, 0),
  (59, .iinc 4 1, 62, 4, 0, [], 1, 0),
  (62, .goto (-42), 65, 20, 0, [], 0, 0),
  (65, .iload_n 1, 66, 1, 0, [], 0, 0),
  (66, .ifCond .ne 7, 69, 73, 0, [], 0, 0),
  (69, .iload_n 2, 70, 2, 0, [], 0, 0),
  (70, .goto 4, 73, 74, 0, [], 0, 0),
  (73, .iload_n 3, 74, 3, 0, [], 0, 0),
  (74, .ireturn, 75, 0, 0, [], 0, 0)]
/-- yX5_rests -/
def P77 : List En := [(0, .iload_n 1, 1, 1, 0, [], 0, 0),
  (1, .invokestatic 64, 4, 46, 0, [], 0, 0),
  (4, .ifCond .eq 17, 7, 21, 0, [], 0, 0),
  (7, .iload_n 2, 8, 2, 0, [], 0, 0),
  (8, .invokestatic 84, 11, 48, 0, [], 0, 0),
  (11, .ifCond .eq 10, 14, 21, 0, [], 0, 0),
  (14, .iload_n 3, 15, 3, 0, [], 0, 0),
  (15, .invokestatic 84, 18, 48, 0, [], 0, 0),
  (18, .ifCond .ne 5, 21, 23, 0, [], 0, 0),
  (21, .iconst (-1), 22, 0, 0, [], (-1), 0),
  (22, .ireturn, 23, 0, 0, [], 0, 0),
  (23, .iload_n 2, 24, 2, 0, [], 0, 0),
  (24, .iload_n 3, 25, 3, 0, [], 0, 0),
  (25, .if_icmp .eq 14, 28, 39, 0, [], 0, 0),
  (28, .iload 4, 30, 4, 0, [], 0, 0),
  (30, .ifCond .lt 9, 33, 39, 0, [], 0, 0),
  (33, .iload 4, 35, 4, 0, [], 0, 0),
  (35, .iconst 1, 36, 0, 0, [], 1, 0),
  (36, .if_icmp .le 6, 39, 42, 0, [], 0, 0),
  (39, .bipush (-2), 41, 0, 0, [], (-2), 0),
  (41, .ireturn, 42, 0, 0, [], 0, 0),
  (42, .aload_n 0, 43, 0, 0, [], 0, 0),
  (43, .getfield 10, 46, 5, 0, [], 0, 0),
  (46, .iload_n 1, 47, 1, 0, [], 0, 0),
  (47, .invokevirtual 71, 50, 3, 0, [], 0, 0),
  (50, .astore 5, 52, 5, 0, [], 0, 0),
  (52, .aload 5, 54, 5, 0, [], 0, 0),
  (54, .iload_n 2, 55, 2, 0, [], 0, 0),
  (55, .invokevirtual 95, 58, 9, 0, [], 0, 0),
  (58, .ifCond .ge 12, 61, 70, 0, [], 0, 0),
  (61, .aload 5, 63, 5, 0, [], 0, 0),
  (63, .iload_n 3, 64, 3, 0, [], 0, 0),
  (64, .invokevirtual 95, 67, 9, 0, [], 0, 0),
  (67, .ifCond .lt 6, 70, 73, 0, [], 0, 0),
  (70, .bipush (-3), 72, 0, 0, [], (-3), 0),
  (72, .ireturn, 73, 0, 0, [], 0, 0),
  (73, .aload 5, 75, 5, 0, [], 0, 0),
  (75, .getfield 79, 78, 2, 3, [], 0, 0),
  (78, .bipush 38, 80, 0, 0, [], 38, 0),
  (80, .if_icmp .le 6, 83, 86, 0, [], 0, 0),
  (83, .bipush (-4), 85, 0, 0, [], (-4), 0),
  (85, .ireturn, 86, 0, 0, [], 0, 0),
  (86, .iconst 0, 87, 0, 0, [], 0, 0),
  (87, .istore 6, 89, 6, 0, [], 0, 0),
  (89, .bipush (-9), 91, 0, 0, [], (-9), 0),
  (91, .istore 7, 93, 7, 0, [], 0, 0),
  (93, .iconst 0, 94, 0, 0, [], 0, 0),
  (94, .istore 8, 96, 8, 0, [], 0, 0),
  (96, .iload 8, 98, 8, 0, [], 0, 0),
  (98, .iconst 4, 99, 0, 0, [], 4, 0),
  (99, .if_icmp .ge 50, 102, 149, 0, [], 0, 0),
  (102, .aload_n 0, 103, 0, 0, [], 0, 0),
  (103, .iload_n 1, 104, 1, 0, [], 0, 0),
  (104, .iload_n 2, 105, 2, 0, [], 0, 0),
  (105, .iload_n 3, 106, 3, 0, [], 0, 0),
  (106, .iload 8, 108, 8, 0, [], 0, 0),
  (108, .invokevirtual 203, 111, 78, 0, [], 0, 0),
  (111, .ifCond .eq 32, 114, 143, 0, [], 0, 0),
  (114, .iinc 6 1, 117, 6, 0, [], 1, 0),
  (117, .iload 7, 119, 7, 0, [], 0, 0),
  (119, .bipush (-9), 121, 0, 0, [], (-9), 0),
  (121, .if_icmp .ne 18, 124, 139, 0, [], 0, 0),
  (124, .iload 8, 126, 8, 0, [], 0, 0),
  (126, .iconst 2, 127, 0, 0, [], 2, 0),
  (127, .idiv, 128, 0, 0, [], 0, 0),
  (128, .bipush 10, 130, 0, 0, [], 10, 0),
  (130, .imul, 131, 0, 0, [], 0, 0),
  (131, .iload 8, 133, 8, 0, [], 0, 0),
  (133, .iconst 2, 134, 0, 0, [], 2, 0),
  (134, .irem, 135, 0, 0, [], 0, 0),
  (135, .iadd, 136, 0, 0, [], 0, 0),
  (136, .goto 5, 139, 141, 0, [], 0, 0),
  (139, .iload 7, 141, 7, 0, [], 0, 0),
  (141, .istore 7, 143, 7, 0, [], 0, 0),
  (143, .iinc 8 1, 146, 8, 0, [], 1, 0),
  (146, .goto (-50), 149, 96, 0, [], 0, 0),
  (149, .iload 4, 151, 4, 0, [], 0, 0),
  (151, .ifCond .ne 8, 154, 159, 0, [], 0, 0),
  (154, .iload 6, 156, 6, 0, [], 0, 0),
  (156, .goto 5, 159, 161, 0, [], 0, 0),
  (159, .iload 7, 161, 7, 0, [], 0, 0),
  (161, .ireturn, 162, 0, 0, [], 0, 0)]
/-- yX5_isAtRest -/
def P78 : List En := [(0, .aload_n 0, 1, 0, 0, [], 0, 0),
  (1, .iload_n 1, 2, 1, 0, [], 0, 0),
  (2, .iload_n 2, 3, 2, 0, [], 0, 0),
  (3, .iload_n 3, 4, 3, 0, [], 0, 0),
  (4, .iload 4, 6, 4, 0, [], 0, 0),
  (6, .iconst 2, 7, 0, 0, [], 2, 0),
  (7, .invokevirtual 239, 10, 79, 0, [], 0, 0),
  (10, .aload_n 0, 11, 0, 0, [], 0, 0),
  (11, .iload_n 1, 12, 1, 0, [], 0, 0),
  (12, .iload_n 2, 13, 2, 0, [], 0, 0),
  (13, .iload_n 3, 14, 3, 0, [], 0, 0),
  (14, .iload 4, 16, 4, 0, [], 0, 0),
  (16, .iconst 2, 17, 0, 0, [], 2, 0),
  (17, .ixor, 18, 0, 0, [], 0, 0),
  (18, .iconst 2, 19, 0, 0, [], 2, 0),
  (19, .invokevirtual 239, 22, 79, 0, [], 0, 0),
  (22, .if_icmp .lt 32, 25, 54, 0, [], 0, 0),
  (25, .aload_n 0, 26, 0, 0, [], 0, 0),
  (26, .iload_n 1, 27, 1, 0, [], 0, 0),
  (27, .iload_n 2, 28, 2, 0, [], 0, 0),
  (28, .iload_n 3, 29, 3, 0, [], 0, 0),
  (29, .iload 4, 31, 4, 0, [], 0, 0),
  (31, .iconst 1, 32, 0, 0, [], 1, 0),
  (32, .invokevirtual 239, 35, 79, 0, [], 0, 0),
  (35, .aload_n 0, 36, 0, 0, [], 0, 0),
  (36, .iload_n 1, 37, 1, 0, [], 0, 0),
  (37, .iload_n 2, 38, 2, 0, [], 0, 0),
  (38, .iload_n 3, 39, 3, 0, [], 0, 0),
  (39, .iload 4, 41, 4, 0, [], 0, 0),
  (41, .iconst 1, 42, 0, 0, [], 1, 0),
  (42, .ixor, 43, 0, 0, [], 0, 0),
  (43, .iconst 1, 44, 0, 0, [], 1, 0),
  (44, .invokevirtual 239, 47, 79, 0, [], 0, 0),
  (47, .if_icmp .lt 7, 50, 54, 0, [], 0, 0),
  (50, .iconst 1, 51, 0, 0, [], 1, 0),
  (51, .goto 4, 54, 55, 0, [], 0, 0),
  (54, .iconst 0, 55, 0, 0, [], 0, 0),
  (55, .ireturn, 56, 0, 0, [], 0, 0)]
/-- yX5_gain -/
def P79 : List En := [(0, .iload 4, 2, 4, 0, [], 0, 0),
  (2, .iload 5, 4, 5, 0, [], 0, 0),
  (4, .iand, 5, 0, 0, [], 0, 0),
  (5, .ifCond .ne 5, 8, 10, 0, [], 0, 0),
  (8, .iconst 4, 9, 0, 0, [], 4, 0),
  (9, .ireturn, 10, 0, 0, [], 0, 0),
  (10, .aload_n 0, 11, 0, 0, [], 0, 0),
  (11, .iload_n 1, 12, 1, 0, [], 0, 0),
  (12, .invokevirtual 151, 15, 61, 0, [], 0, 0),
  (15, .astore 6, 17, 6, 0, [], 0, 0),
  (17, .iload 4, 19, 4, 0, [], 0, 0),
  (19, .iconst 2, 20, 0, 0, [], 2, 0),
  (20, .iand, 21, 0, 0, [], 0, 0),
  (21, .ifCond .eq 11, 24, 32, 0, [], 0, 0),
  (24, .aload 6, 26, 6, 0, [], 0, 0),
  (26, .iload_n 2, 27, 2, 0, [], 0, 0),
  (27, .iconst 0, 28, 0, 0, [], 0, 0),
  (28, .invokevirtual 91, 31, 11, 0, [], 0, 0),
  (31, .pop, 32, 0, 0, [], 0, 0),
  (32, .iload 4, 34, 4, 0, [], 0, 0),
  (34, .iconst 1, 35, 0, 0, [], 1, 0),
  (35, .iand, 36, 0, 0, [], 0, 0),
  (36, .ifCond .eq 11, 39, 47, 0, [], 0, 0),
  (39, .aload 6, 41, 6, 0, [], 0, 0),
  (41, .iload_n 3, 42, 3, 0, [], 0, 0),
  (42, .iconst 0, 43, 0, 0, [], 0, 0),
  (43, .invokevirtual 91, 46, 11, 0, [], 0, 0),
  (46, .pop, 47, 0, 0, [], 0, 0),
  (47, .bipush 10, 49, 0, 0, [], 10, 0),
  (49, .aload 6, 51, 6, 0, [], 0, 0),
  (51, .iload 5, 53, 5, 0, [], 0, 0),
  (53, .iconst 2, 54, 0, 0, [], 2, 0),
  (54, .if_icmp .ne 7, 57, 61, 0, [], 0, 0),
  (57, .iload_n 2, 58, 2, 0, [], 0, 0),
  (58, .goto 4, 61, 62, 0, [], 0, 0),
  (61, .iload_n 3, 62, 3, 0, [], 0, 0),
  (62, .invokevirtual 145, 65, 30, 0, [], 0, 0),
  (65, .isub, 66, 0, 0, [], 0, 0),
  (66, .ireturn, 67, 0, 0, [], 0, 0)]
/-- yX5_lost -/
def P80 : List En := [(0, .iload_n 1, 1, 1, 0, [], 0, 0),
  (1, .invokestatic 64, 4, 46, 0, [], 0, 0),
  (4, .ifCond .ne 5, 7, 9, 0, [], 0, 0),
  (7, .iconst (-1), 8, 0, 0, [], (-1), 0),
  (8, .ireturn, 9, 0, 0, [], 0, 0),
  (9, .iload_n 2, 10, 2, 0, [], 0, 0),
  (10, .ifCond .lt 19, 13, 29, 0, [], 0, 0),
  (13, .iload_n 2, 14, 2, 0, [], 0, 0),
  (14, .bipush 9, 16, 0, 0, [], 9, 0),
  (16, .if_icmp .gt 13, 19, 29, 0, [], 0, 0),
  (19, .iload_n 3, 20, 3, 0, [], 0, 0),
  (20, .ifCond .lt 9, 23, 29, 0, [], 0, 0),
  (23, .iload_n 3, 24, 3, 0, [], 0, 0),
  (24, .bipush 10, 26, 0, 0, [], 10, 0),
  (26, .if_icmp .le 6, 29, 32, 0, [], 0, 0),
  (29, .bipush (-2), 31, 0, 0, [], (-2), 0),
  (31, .ireturn, 32, 0, 0, [], 0, 0),
  (32, .aload_n 0, 33, 0, 0, [], 0, 0),
  (33, .iload_n 1, 34, 1, 0, [], 0, 0),
  (34, .invokevirtual 172, 37, 68, 0, [], 0, 0),
  (37, .istore 5, 39, 5, 0, [], 0, 0),
  (39, .iconst 0, 40, 0, 0, [], 0, 0),
  (40, .istore 6, 42, 6, 0, [], 0, 0),
  (42, .iconst 1, 43, 0, 0, [], 1, 0),
  (43, .istore 7, 45, 7, 0, [], 0, 0),
  (45, .iconst 0, 46, 0, 0, [], 0, 0),
  (46, .istore 8, 48, 8, 0, [], 0, 0),
  (48, .iload 8, 50, 8, 0, [], 0, 0),
  (50, .iload 5, 52, 5, 0, [], 0, 0),
  (52, .if_icmp .ge 16, 55, 68, 0, [], 0, 0),
  (55, .iload 7, 57, 7, 0, [], 0, 0),
  (57, .bipush 10, 59, 0, 0, [], 10, 0),
  (59, .imul, 60, 0, 0, [], 0, 0),
  (60, .istore 7, 62, 7, 0, [], 0, 0),
  (62, .iinc 8 1, 65, 8, 0, [], 1, 0),
  (65, .goto (-17), 68, 48, 0, [], 0, 0),
  (68, .iconst 0, 69, 0, 0, [], 0, 0),
  (69, .istore 8, 71, 8, 0, [], 0, 0),
  (71, .iload 8, 73, 8, 0, [], 0, 0),
  (73, .iconst 1, 74, 0, 0, [], 1, 0),
  (74, .iload 5, 76, 5, 0, [], 0, 0),
  (76, .ishl, 77, 0, 0, [], 0, 0),
  (77, .if_icmp .ge 36, 80, 113, 0, [], 0, 0),
  (80, .aload_n 0, 81, 0, 0, [], 0, 0),
  (81, .iload_n 1, 82, 1, 0, [], 0, 0),
  (82, .iload 8, 84, 8, 0, [], 0, 0),
  (84, .invokevirtual 175, 87, 69, 0, [], 0, 0),
  (87, .invokevirtual 120, 90, 12, 0, [], 0, 0),
  (90, .iload_n 2, 91, 2, 0, [], 0, 0),
  (91, .if_icmp .gt 16, 94, 107, 0, [], 0, 0),
  (94, .iload 6, 96, 6, 0, [], 0, 0),
  (96, .iload 8, 98, 8, 0, [], 0, 0),
  (98, .iload 5, 100, 5, 0, [], 0, 0),
  (100, .iload_n 3, 101, 3, 0, [], 0, 0),
  (101, .invokestatic 207, 104, 81, 0, [], 0, 0),
  (104, .iadd, 105, 0, 0, [], 0, 0),
  (105, .istore 6, 107, 6, 0, [], 0, 0),
  (107, .iinc 8 1, 110, 8, 0, [], 1, 0),
  (110, .goto (-39), 113, 71, 0, [], 0, 0),
  (113, .iload 6, 115, 6, 0, [], 0, 0),
  (115, .iload 7, 117, 7, 0, [], 0, 0),
  (117, .iload 4, 119, 4, 0, [], 0, 0),
  (119, .invokestatic 190, 122, 72, 0, [], 0, 0),
  (122, .ireturn, 123, 0, 0, [], 0, 0)]
/-- yX5_weight -/
def P81 : List En := [(0, .iconst 1, 1, 0, 0, [], 1, 0),
  (1, .istore_n 3, 2, 3, 0, [], 0, 0),
  (2, .iconst 0, 3, 0, 0, [], 0, 0),
  (3, .istore 4, 5, 4, 0, [], 0, 0),
  (5, .iload 4, 7, 4, 0, [], 0, 0),
  (7, .iload_n 1, 8, 1, 0, [], 0, 0),
  (8, .if_icmp .ge 30, 11, 38, 0, [], 0, 0),
  (11, .iload_n 3, 12, 3, 0, [], 0, 0),
  (12, .iload_n 0, 13, 0, 0, [], 0, 0),
  (13, .iload 4, 15, 4, 0, [], 0, 0),
  (15, .ishr, 16, 0, 0, [], 0, 0),
  (16, .iconst 1, 17, 0, 0, [], 1, 0),
  (17, .iand, 18, 0, 0, [], 0, 0),
  (18, .iconst 1, 19, 0, 0, [], 1, 0),
  (19, .if_icmp .ne 7, 22, 26, 0, [], 0, 0),
  (22, .iload_n 2, 23, 2, 0, [], 0, 0),
  (23, .goto 7, 26, 30, 0, [], 0, 0),
  (26, .bipush 10, 28, 0, 0, [], 10, 0),
  (28, .iload_n 2, 29, 2, 0, [], 0, 0),
  (29, .isub, 30, 0, 0, [], 0, 0),
  (30, .imul, 31, 0, 0, [], 0, 0),
  (31, .istore_n 3, 32, 3, 0, [], 0, 0),
  (32, .iinc 4 1, 35, 4, 0, [], 1, 0),
  (35, .goto (-30), 38, 5, 0, [], 0, 0),
  (38, .iload_n 3, 39, 3, 0, [], 0, 0),
  (39, .ireturn, 40, 0, 0, [], 0, 0)]
/-- yX5_seed -/
def P82 : List En := [(0, .aload_n 0, 1, 0, 0, [], 0, 0),
  (1, .getfield 48, 4, 5, 7, [], 0, 0),
  (4, .lstore_n 3, 5, 3, 0, [], 0, 0),
  (5, .aload_n 0, 6, 0, 0, [], 0, 0),
  (6, .lload_n 1, 7, 1, 0, [], 0, 0),
  (7, .putfield 48, 10, 5, 7, [], 0, 0),
  (10, .lload_n 3, 11, 3, 0, [], 0, 0),
  (11, .lreturn, 12, 0, 0, [], 0, 0)]
/-- yX5_rounds -/
def P83 : List En := [(0, .iload_n 1, 1, 1, 0, [], 0, 0),
  (1, .invokestatic 64, 4, 46, 0, [], 0, 0),
  (4, .ifCond .ne 5, 7, 9, 0, [], 0, 0),
  (7, .iconst (-1), 8, 0, 0, [], (-1), 0),
  (8, .ireturn, 9, 0, 0, [], 0, 0),
  (9, .iload_n 2, 10, 2, 0, [], 0, 0),
  (10, .iconst 1, 11, 0, 0, [], 1, 0),
  (11, .if_icmp .lt 9, 14, 20, 0, [], 0, 0),
  (14, .iload_n 2, 15, 2, 0, [], 0, 0),
  (15, .bipush 30, 17, 0, 0, [], 30, 0),
  (17, .if_icmp .le 6, 20, 23, 0, [], 0, 0),
  (20, .bipush (-2), 22, 0, 0, [], (-2), 0),
  (22, .ireturn, 23, 0, 0, [], 0, 0),
  (23, .aload_n 0, 24, 0, 0, [], 0, 0),
  (24, .iload_n 1, 25, 1, 0, [], 0, 0),
  (25, .invokevirtual 151, 28, 61, 0, [], 0, 0),
  (28, .astore_n 3, 29, 3, 0, [], 0, 0),
  (29, .iconst 0, 30, 0, 0, [], 0, 0),
  (30, .istore 4, 32, 4, 0, [], 0, 0),
  (32, .iconst 0, 33, 0, 0, [], 0, 0),
  (33, .istore 5, 35, 5, 0, [], 0, 0),
  (35, .iload 5, 37, 5, 0, [], 0, 0),
  (37, .iload_n 2, 38, 2, 0, [], 0, 0),
  (38, .if_icmp .ge 76, 41, 114, 0, [], 0, 0),
  (41, .aload_n 0, 42, 0, 0, [], 0, 0),
  (42, .aload_n 0, 43, 0, 0, [], 0, 0),
  (43, .getfield 48, 46, 5, 7, [], 0, 0),
  (46, .ldc2_w 211, 49, 0, 0, [], 0, 6364136223846793005),
  (49, .lmul, 50, 0, 0, [], 0, 0),
  (50, .ldc2_w 213, 53, 0, 0, [], 0, 1442695040888963407),
  (53, .ladd, 54, 0, 0, [], 0, 0),
  (54, .putfield 48, 57, 5, 7, [], 0, 0),
  (57, .aload_n 0, 58, 0, 0, [], 0, 0),
  (58, .getfield 48, 61, 5, 7, [], 0, 0),
  (61, .bipush 33, 63, 0, 0, [], 33, 0),
  (63, .lushr, 64, 0, 0, [], 0, 0),
  (64, .ldc2_w 215, 67, 0, 0, [], 0, 200),
  (67, .lrem, 68, 0, 0, [], 0, 0),
  (68, .l2i, 69, 0, 0, [], 0, 0),
  (69, .istore 6, 71, 6, 0, [], 0, 0),
  (71, .iload 6, 73, 6, 0, [], 0, 0),
  (73, .bipush 100, 75, 0, 0, [], 100, 0),
  (75, .if_icmp .ge 14, 78, 89, 0, [], 0, 0),
  (78, .aload_n 3, 79, 3, 0, [], 0, 0),
  (79, .iload 6, 81, 6, 0, [], 0, 0),
  (81, .iconst 0, 82, 0, 0, [], 0, 0),
  (82, .invokevirtual 91, 85, 11, 0, [], 0, 0),
  (85, .pop, 86, 0, 0, [], 0, 0),
  (86, .goto 13, 89, 99, 0, [], 0, 0),
  (89, .aload_n 3, 90, 3, 0, [], 0, 0),
  (90, .iload 6, 92, 6, 0, [], 0, 0),
  (92, .bipush 100, 94, 0, 0, [], 100, 0),
  (94, .isub, 95, 0, 0, [], 0, 0),
  (95, .invokevirtual 103, 98, 19, 0, [], 0, 0),
  (98, .pop, 99, 0, 0, [], 0, 0),
  (99, .iload 4, 101, 4, 0, [], 0, 0),
  (101, .aload_n 3, 102, 3, 0, [], 0, 0),
  (102, .invokevirtual 129, 105, 29, 0, [], 0, 0),
  (105, .iadd, 106, 0, 0, [], 0, 0),
  (106, .istore 4, 108, 4, 0, [], 0, 0),
  (108, .iinc 5 1, 111, 5, 0, [], 1, 0),
  (111, .goto (-76), 114, 35, 0, [], 0, 0),
  (114, .iload 4, 116, 4, 0, [], 0, 0),
  (116, .ireturn, 117, 0, 0, [], 0, 0)]
/-- yX5_keep -/
def P84 : List En := [(0, .iload_n 1, 1, 1, 0, [], 0, 0),
  (1, .invokestatic 217, 4, 85, 0, [], 0, 0),
  (4, .ifCond .ne 5, 7, 9, 0, [], 0, 0),
  (7, .iconst (-1), 8, 0, 0, [], (-1), 0),
  (8, .ireturn, 9, 0, 0, [], 0, 0),
  (9, .aload_n 0, 10, 0, 0, [], 0, 0),
  (10, .getfield 40, 13, 5, 5, [], 0, 0),
  (13, .iload_n 1, 14, 1, 0, [], 0, 0),
  (14, .aaload, 15, 0, 0, [], 0, 0),
  (15, .aload_n 0, 16, 0, 0, [], 0, 0),
  (16, .getfield 10, 19, 5, 0, [], 0, 0),
  (19, .invokevirtual 166, 22, 2, 0, [], 0, 0),
  (22, .aload_n 0, 23, 0, 0, [], 0, 0),
  (23, .getfield 44, 26, 5, 6, [], 0, 0),
  (26, .iload_n 1, 27, 1, 0, [], 0, 0),
  (27, .iconst 1, 28, 0, 0, [], 1, 0),
  (28, .bastore, 29, 0, 0, [], 0, 0),
  (29, .aload_n 0, 30, 0, 0, [], 0, 0),
  (30, .getfield 10, 33, 5, 0, [], 0, 0),
  (33, .invokevirtual 220, 36, 4, 0, [], 0, 0),
  (36, .ireturn, 37, 0, 0, [], 0, 0)]
/-- yX5_isSlot -/
def P85 : List En := [(0, .iload_n 0, 1, 0, 0, [], 0, 0),
  (1, .ifCond .lt 12, 4, 13, 0, [], 0, 0),
  (4, .iload_n 0, 5, 0, 0, [], 0, 0),
  (5, .iconst 2, 6, 0, 0, [], 2, 0),
  (6, .if_icmp .ge 7, 9, 13, 0, [], 0, 0),
  (9, .iconst 1, 10, 0, 0, [], 1, 0),
  (10, .goto 4, 13, 14, 0, [], 0, 0),
  (13, .iconst 0, 14, 0, 0, [], 0, 0),
  (14, .ireturn, 15, 0, 0, [], 0, 0)]
/-- yX5_again -/
def P86 : List En := [(0, .iload_n 1, 1, 1, 0, [], 0, 0),
  (1, .invokestatic 217, 4, 85, 0, [], 0, 0),
  (4, .ifCond .ne 5, 7, 9, 0, [], 0, 0),
  (7, .iconst (-1), 8, 0, 0, [], (-1), 0),
  (8, .ireturn, 9, 0, 0, [], 0, 0),
  (9, .aload_n 0, 10, 0, 0, [], 0, 0),
  (10, .getfield 44, 13, 5, 6, [], 0, 0),
  (13, .iload_n 1, 14, 1, 0, [], 0, 0),
  (14, .baload, 15, 0, 0, [], 0, 0),
  (15, .ifCond .ne 6, 18, 21, 0, [], 0, 0),
  (18, .bipush (-3), 20, 0, 0, [], (-3), 0),
  (20, .ireturn, 21, 0, 0, [], 0, 0),
  (21, .aload_n 0, 22, 0, 0, [], 0, 0),
  (22, .getfield 10, 25, 5, 0, [], 0, 0),
  (25, .aload_n 0, 26, 0, 0, [], 0, 0),
  (26, .getfield 40, 29, 5, 5, [], 0, 0),
  (29, .iload_n 1, 30, 1, 0, [], 0, 0),
  (30, .aaload, 31, 0, 0, [], 0, 0),
  (31, .invokevirtual 166, 34, 2, 0, [], 0, 0),
  (34, .aload_n 0, 35, 0, 0, [], 0, 0),
  (35, .getfield 22, 38, 5, 2, [], 0, 0),
  (38, .iconst 0, 39, 0, 0, [], 0, 0),
  (39, .putfield 117, 42, 0, 2, [], 0, 0),
  (42, .aload_n 0, 43, 0, 0, [], 0, 0),
  (43, .getfield 10, 46, 5, 0, [], 0, 0),
  (46, .invokevirtual 220, 49, 4, 0, [], 0, 0),
  (49, .ireturn, 50, 0, 0, [], 0, 0)]
/-- yX5_count -/
def P87 : List En := [(0, .iload_n 1, 1, 1, 0, [], 0, 0),
  (1, .tableswitch 51 0 2 #[27, 35, 43], 28, 52, 0, [28, 36, 44], 0, 0),
  (28, .aload_n 0, 29, 0, 0, [], 0, 0),
  (29, .getfield 22, 32, 5, 2, [], 0, 0),
  (32, .getfield 117, 35, 0, 2, [], 0, 0),
  (35, .ireturn, 36, 0, 0, [], 0, 0),
  (36, .aload_n 0, 37, 0, 0, [], 0, 0),
  (37, .getfield 36, 40, 5, 4, [], 0, 0),
  (40, .getfield 198, 43, 3, 3, [], 0, 0),
  (43, .ireturn, 44, 0, 0, [], 0, 0),
  (44, .aload_n 0, 45, 0, 0, [], 0, 0),
  (45, .getfield 29, 48, 5, 3, [], 0, 0),
  (48, .getfield 56, 51, 4, 2, [], 0, 0),
  (51, .ireturn, 52, 0, 0, [], 0, 0),
  (52, .bipush (-2), 54, 0, 0, [], (-2), 0),
  (54, .ireturn, 55, 0, 0, [], 0, 0)]
/-- yX6_write -/
def P88 : List En := [(0, .aload_n 0, 1, 0, 0, [], 0, 0),
  (1, .iconst 0, 2, 0, 0, [], 0, 0),
  (2, .putfield 50, 5, 6, 0, [], 0, 0),
  (5, .iload_n 1, 6, 1, 0, [], 0, 0),
  (6, .i2l, 7, 0, 0, [], 0, 0),
  (7, .lconst 0, 8, 0, 0, [], 0, 0),
  (8, .ldc2_w 111, 11, 0, 0, [], 0, 255),
  (11, .invokestatic 54, 14, 89, 0, [], 0, 0),
  (14, .ifCond .ne 6, 17, 20, 0, [], 0, 0),
  (17, .bipush (-2), 19, 0, 0, [], (-2), 0),
  (19, .ireturn, 20, 0, 0, [], 0, 0),
  (20, .aload_n 0, 21, 0, 0, [], 0, 0),
  (21, .getfield 113, 24, 6, 2, [], 0, 0),
  (24, .bipush 64, 26, 0, 0, [], 64, 0),
  (26, .if_icmp .ne 6, 29, 32, 0, [], 0, 0),
  (29, .bipush (-4), 31, 0, 0, [], (-4), 0),
  (31, .ireturn, 32, 0, 0, [], 0, 0),
  (32, .aload_n 0, 33, 0, 0, [], 0, 0),
  (33, .getfield 7, 36, 6, 1, [], 0, 0),
  (36, .aload_n 0, 37, 0, 0, [], 0, 0),
  (37, .getfield 113, 40, 6, 2, [], 0, 0),
  (40, .iload_n 1, 41, 1, 0, [], 0, 0),
  (41, .iastore, 42, 0, 0, [], 0, 0),
  (42, .aload_n 0, 43, 0, 0, [], 0, 0),
  (43, .dup, 44, 0, 0, [], 0, 0),
  (44, .getfield 113, 47, 6, 2, [], 0, 0),
  (47, .iconst 1, 48, 0, 0, [], 1, 0),
  (48, .iadd, 49, 0, 0, [], 0, 0),
  (49, .putfield 113, 52, 6, 2, [], 0, 0),
  (52, .aload_n 0, 53, 0, 0, [], 0, 0),
  (53, .getfield 113, 56, 6, 2, [], 0, 0),
  (56, .ireturn, 57, 0, 0, [], 0, 0)]
/-- yX6_in -/
def P89 : List En := [(0, .lload_n 0, 1, 0, 0, [], 0, 0),
  (1, .lload_n 2, 2, 2, 0, [], 0, 0),
  (2, .lcmp, 3, 0, 0, [], 0, 0),
  (3, .ifCond .lt 14, 6, 17, 0, [], 0, 0),
  (6, .lload_n 0, 7, 0, 0, [], 0, 0),
  (7, .lload 4, 9, 4, 0, [], 0, 0),
  (9, .lcmp, 10, 0, 0, [], 0, 0),
  (10, .ifCond .gt 7, 13, 17, 0, [], 0, 0),
  (13, .iconst 1, 14, 0, 0, [], 1, 0),
  (14, .goto 4, 17, 18, 0, [], 0, 0),
  (17, .iconst 0, 18, 0, 0, [], 0, 0),
  (18, .ireturn, 19, 0, 0, [], 0, 0)]
/-- yX6_wipe -/
def P90 : List En := [(0, .aload_n 0, 1, 0, 0, [], 0, 0),
  (1, .iconst 0, 2, 0, 0, [], 0, 0),
  (2, .putfield 50, 5, 6, 0, [], 0, 0),
  (5, .aload_n 0, 6, 0, 0, [], 0, 0),
  (6, .getfield 113, 9, 6, 2, [], 0, 0),
  (9, .istore_n 1, 10, 1, 0, [], 0, 0),
  (10, .aload_n 0, 11, 0, 0, [], 0, 0),
  (11, .iconst 0, 12, 0, 0, [], 0, 0),
  (12, .putfield 113, 15, 6, 2, [], 0, 0),
  (15, .iload_n 1, 16, 1, 0, [], 0, 0),
  (16, .ireturn, 17, 0, 0, [], 0, 0)]
/-- yX6_fault -/
def P91 : List En := [(0, .aload_n 0, 1, 0, 0, [], 0, 0),
  (1, .iconst 0, 2, 0, 0, [], 0, 0),
  (2, .putfield 50, 5, 6, 0, [], 0, 0),
  (5, .aload_n 0, 6, 0, 0, [], 0, 0),
  (6, .invokevirtual 137, 9, 92, 0, [], 0, 0),
  (9, .ireturn, 10, 0, 0, [], 0, 0)]
/-- yX6_readShape -/
def P92 : List En := [(0, .aload_n 0, 1, 0, 0, [], 0, 0),
  (1, .iconst 0, 2, 0, 0, [], 0, 0),
  (2, .putfield 116, 5, 6, 3, [], 0, 0),
  (5, .aload_n 0, 6, 0, 0, [], 0, 0),
  (6, .iconst 0, 7, 0, 0, [], 0, 0),
  (7, .putfield 130, 10, 6, 5, [], 0, 0),
  (10, .aload_n 0, 11, 0, 0, [], 0, 0),
  (11, .iconst 0, 12, 0, 0, [], 0, 0),
  (12, .putfield 127, 15, 6, 6, [], 0, 0),
  (15, .iconst 0, 16, 0, 0, [], 0, 0),
  (16, .istore_n 1, 17, 1, 0, [], 0, 0),
  (17, .iload_n 1, 18, 1, 0, [], 0, 0),
  (18, .bipush 8, 20, 0, 0, [], 8, 0),
  (20, .if_icmp .ge 16, 23, 36, 0, [], 0, 0),
  (23, .aload_n 0, 24, 0, 0, [], 0, 0),
  (24, .getfield 13, 27, 6, 4, [], 0, 0),
  (27, .iload_n 1, 28, 1, 0, [], 0, 0),
  (28, .iconst 0, 29, 0, 0, [], 0, 0),
  (29, .iastore, 30, 0, 0, [], 0, 0),
  (30, .iinc 1 1, 33, 1, 0, [], 1, 0),
  (33, .goto (-16), 36, 17, 0, [], 0, 0),
  (36, .aload_n 0, 37, 0, 0, [], 0, 0),
  (37, .getfield 113, 40, 6, 2, [], 0, 0),
  (40, .ifCond .eq 14, 43, 54, 0, [], 0, 0),
  (43, .aload_n 0, 44, 0, 0, [], 0, 0),
  (44, .getfield 7, 47, 6, 1, [], 0, 0),
  (47, .iconst 0, 48, 0, 0, [], 0, 0),
  (48, .iaload, 49, 0, 0, [], 0, 0),
  (49, .bipush 76, 51, 0, 0, [], 76, 0),
  (51, .if_icmp .eq 5, 54, 56, 0, [], 0, 0),
  (54, .iconst 0, 55, 0, 0, [], 0, 0),
  (55, .ireturn, 56, 0, 0, [], 0, 0),
  (56, .aload_n 0, 57, 0, 0, [], 0, 0),
  (57, .iconst 1, 58, 0, 0, [], 1, 0),
  (58, .putfield 116, 61, 6, 3, [], 0, 0),
  (61, .aload_n 0, 62, 0, 0, [], 0, 0),
  (62, .getfield 116, 65, 6, 3, [], 0, 0),
  (65, .aload_n 0, 66, 0, 0, [], 0, 0),
  (66, .getfield 113, 69, 6, 2, [], 0, 0),
  (69, .if_icmp .ge 15, 72, 84, 0, [], 0, 0),
  (72, .aload_n 0, 73, 0, 0, [], 0, 0),
  (73, .invokevirtual 133, 76, 93, 0, [], 0, 0),
  (76, .ifCond .ne (-15), 79, 61, 0, [], 0, 0),
  (79, .aload_n 0, 80, 0, 0, [], 0, 0),
  (80, .getfield 116, 83, 6, 3, [], 0, 0),
  (83, .ireturn, 84, 0, 0, [], 0, 0),
  (84, .iconst 1, 85, 0, 0, [], 1, 0),
  (85, .istore_n 1, 86, 1, 0, [], 0, 0),
  (86, .iconst 1, 87, 0, 0, [], 1, 0),
  (87, .istore_n 2, 88, 2, 0, [], 0, 0),
  (88, .iload_n 2, 89, 2, 0, [], 0, 0),
  (89, .aload_n 0, 90, 0, 0, [], 0, 0),
  (90, .getfield 127, 93, 6, 6, [], 0, 0),
  (93, .if_icmp .gt 28, 96, 121, 0, [], 0, 0),
  (96, .iload_n 1, 97, 1, 0, [], 0, 0),
  (97, .ifCond .eq 16, 100, 113, 0, [], 0, 0),
  (100, .aload_n 0, 101, 0, 0, [], 0, 0),
  (101, .getfield 13, 104, 6, 4, [], 0, 0),
  (104, .iload_n 2, 105, 2, 0, [], 0, 0),
  (105, .iaload, 106, 0, 0, [], 0, 0),
  (106, .ifCond .le 7, 109, 113, 0, [], 0, 0),
  (109, .iconst 1, 110, 0, 0, [], 1, 0),
  (110, .goto 4, 113, 114, 0, [], 0, 0),
  (113, .iconst 0, 114, 0, 0, [], 0, 0),
  (114, .istore_n 1, 115, 1, 0, [], 0, 0),
  (115, .iinc 2 1, 118, 2, 0, [], 1, 0),
  (118, .goto (-30), 121, 88, 0, [], 0, 0),
  (121, .iload_n 1, 122, 1, 0, [], 0, 0),
  (122, .ifCond .eq 8, 125, 130, 0, [], 0, 0),
  (125, .bipush (-9), 127, 0, 0, [], (-9), 0),
  (127, .goto 7, 130, 134, 0, [], 0, 0),
  (130, .aload_n 0, 131, 0, 0, [], 0, 0),
  (131, .getfield 113, 134, 6, 2, [], 0, 0),
  (134, .ireturn, 135, 0, 0, [], 0, 0)]
/-- yX6_readItem -/
def P93 : List En := [(0, .aload_n 0, 1, 0, 0, [], 0, 0),
  (1, .iconst 0, 2, 0, 0, [], 0, 0),
  (2, .iconst 5, 3, 0, 0, [], 5, 0),
  (3, .invokevirtual 119, 6, 94, 0, [], 0, 0),
  (6, .istore_n 1, 7, 1, 0, [], 0, 0),
  (7, .iload_n 1, 8, 1, 0, [], 0, 0),
  (8, .bipush (-9), 10, 0, 0, [], (-9), 0),
  (10, .if_icmp .ne 5, 13, 15, 0, [], 0, 0),
  (13, .iconst 0, 14, 0, 0, [], 0, 0),
  (14, .ireturn, 15, 0, 0, [], 0, 0),
  (15, .aload_n 0, 16, 0, 0, [], 0, 0),
  (16, .iload_n 1, 17, 1, 0, [], 0, 0),
  (17, .invokevirtual 123, 20, 95, 0, [], 0, 0),
  (20, .ifCond .ne 15, 23, 35, 0, [], 0, 0),
  (23, .aload_n 0, 24, 0, 0, [], 0, 0),
  (24, .dup, 25, 0, 0, [], 0, 0),
  (25, .getfield 116, 28, 6, 3, [], 0, 0),
  (28, .iconst 1, 29, 0, 0, [], 1, 0),
  (29, .isub, 30, 0, 0, [], 0, 0),
  (30, .putfield 116, 33, 6, 3, [], 0, 0),
  (33, .iconst 0, 34, 0, 0, [], 0, 0),
  (34, .ireturn, 35, 0, 0, [], 0, 0),
  (35, .aload_n 0, 36, 0, 0, [], 0, 0),
  (36, .iconst 1, 37, 0, 0, [], 1, 0),
  (37, .iconst 4, 38, 0, 0, [], 4, 0),
  (38, .invokevirtual 119, 41, 94, 0, [], 0, 0),
  (41, .istore_n 2, 42, 2, 0, [], 0, 0),
  (42, .iload_n 2, 43, 2, 0, [], 0, 0),
  (43, .bipush (-9), 45, 0, 0, [], (-9), 0),
  (45, .if_icmp .ne 8, 48, 53, 0, [], 0, 0),
  (48, .bipush (-9), 50, 0, 0, [], (-9), 0),
  (50, .goto 10, 53, 60, 0, [], 0, 0),
  (53, .aload_n 0, 54, 0, 0, [], 0, 0),
  (54, .iconst 0, 55, 0, 0, [], 0, 0),
  (55, .bipush 9, 57, 0, 0, [], 9, 0),
  (57, .invokevirtual 119, 60, 94, 0, [], 0, 0),
  (60, .istore_n 3, 61, 3, 0, [], 0, 0),
  (61, .iload_n 3, 62, 3, 0, [], 0, 0),
  (62, .bipush (-9), 64, 0, 0, [], (-9), 0),
  (64, .if_icmp .ne 5, 67, 69, 0, [], 0, 0),
  (67, .iconst 0, 68, 0, 0, [], 0, 0),
  (68, .ireturn, 69, 0, 0, [], 0, 0),
  (69, .iconst 1, 70, 0, 0, [], 1, 0),
  (70, .istore 4, 72, 4, 0, [], 0, 0),
  (72, .iload 4, 74, 4, 0, [], 0, 0),
  (74, .iload_n 1, 75, 1, 0, [], 0, 0),
  (75, .if_icmp .gt 17, 78, 92, 0, [], 0, 0),
  (78, .aload_n 0, 79, 0, 0, [], 0, 0),
  (79, .getfield 13, 82, 6, 4, [], 0, 0),
  (82, .iload 4, 84, 4, 0, [], 0, 0),
  (84, .iconst 0, 85, 0, 0, [], 0, 0),
  (85, .iastore, 86, 0, 0, [], 0, 0),
  (86, .iinc 4 1, 89, 4, 0, [], 1, 0),
  (89, .goto (-17), 92, 72, 0, [], 0, 0),
  (92, .aload_n 0, 93, 0, 0, [], 0, 0),
  (93, .getfield 13, 96, 6, 4, [], 0, 0),
  (96, .iload_n 1, 97, 1, 0, [], 0, 0),
  (97, .iconst 1, 98, 0, 0, [], 1, 0),
  (98, .iadd, 99, 0, 0, [], 0, 0),
  (99, .dup2, 100, 0, 0, [], 0, 0),
  (100, .iaload, 101, 0, 0, [], 0, 0),
  (101, .iconst 1, 102, 0, 0, [], 1, 0),
  (102, .iadd, 103, 0, 0, [], 0, 0),
  (103, .iastore, 104, 0, 0, [], 0, 0),
  (104, .aload_n 0, 105, 0, 0, [], 0, 0),
  (105, .iload_n 1, 106, 1, 0, [], 0, 0),
  (106, .aload_n 0, 107, 0, 0, [], 0, 0),
  (107, .getfield 127, 110, 6, 6, [], 0, 0),
  (110, .if_icmp .lt 9, 113, 119, 0, [], 0, 0),
  (113, .iload_n 1, 114, 1, 0, [], 0, 0),
  (114, .iconst 1, 115, 0, 0, [], 1, 0),
  (115, .iadd, 116, 0, 0, [], 0, 0),
  (116, .goto 7, 119, 123, 0, [], 0, 0),
  (119, .aload_n 0, 120, 0, 0, [], 0, 0),
  (120, .getfield 127, 123, 6, 6, [], 0, 0),
  (123, .putfield 127, 126, 6, 6, [], 0, 0),
  (126, .aload_n 0, 127, 0, 0, [], 0, 0),
  (127, .getfield 16, 130, 6, 7, [], 0, 0),
  (130, .iconst 1, 131, 0, 0, [], 1, 0),
  (131, .aload_n 0, 132, 0, 0, [], 0, 0),
  (132, .getfield 130, 135, 6, 5, [], 0, 0),
  (135, .iadd, 136, 0, 0, [], 0, 0),
  (136, .aload_n 0, 137, 0, 0, [], 0, 0),
  (137, .getfield 130, 140, 6, 5, [], 0, 0),
  (140, .ifCond .ne 7, 143, 147, 0, [], 0, 0),
  (143, .iload_n 2, 144, 2, 0, [], 0, 0),
  (144, .goto 18, 147, 162, 0, [], 0, 0),
  (147, .aload_n 0, 148, 0, 0, [], 0, 0),
  (148, .getfield 16, 151, 6, 7, [], 0, 0),
  (151, .iconst 1, 152, 0, 0, [], 1, 0),
  (152, .aload_n 0, 153, 0, 0, [], 0, 0),
  (153, .getfield 130, 156, 6, 5, [], 0, 0),
  (156, .iadd, 157, 0, 0, [], 0, 0),
  (157, .iconst 1, 158, 0, 0, [], 1, 0),
  (158, .isub, 159, 0, 0, [], 0, 0),
  (159, .iaload, 160, 0, 0, [], 0, 0),
  (160, .iload_n 2, 161, 2, 0, [], 0, 0),
  (161, .iadd, 162, 0, 0, [], 0, 0),
  (162, .iastore, 163, 0, 0, [], 0, 0),
  (163, .aload_n 0, 164, 0, 0, [], 0, 0),
  (164, .getfield 16, 167, 6, 7, [], 0, 0),
  (167, .bipush 41, 169, 0, 0, [], 41, 0),
  (169, .aload_n 0, 170, 0, 0, [], 0, 0),
  (170, .getfield 130, 173, 6, 5, [], 0, 0),
  (173, .iadd, 174, 0, 0, [], 0, 0),
  (174, .iload_n 3, 175, 3, 0, [], 0, 0),
  (175, .iastore, 176, 0, 0, [], 0, 0),
  (176, .aload_n 0, 177, 0, 0, [], 0, 0),
  (177, .getfield 16, 180, 6, 7, [], 0, 0),
  (180, .bipush 81, 182, 0, 0, [], 81, 0),
  (182, .aload_n 0, 183, 0, 0, [], 0, 0),
  (183, .getfield 130, 186, 6, 5, [], 0, 0),
  (186, .iadd, 187, 0, 0, [], 0, 0),
  (187, .iload_n 1, 188, 1, 0, [], 0, 0),
  (188, .iastore, 189, 0, 0, [], 0, 0),
  (189, .aload_n 0, 190, 0, 0, [], 0, 0),
  (190, .dup, 191, 0, 0, [], 0, 0),
  (191, .getfield 130, 194, 6, 5, [], 0, 0),
  (194, .iconst 1, 195, 0, 0, [], 1, 0),
  (195, .iadd, 196, 0, 0, [], 0, 0),
  (196, .putfield 130, 199, 6, 5, [], 0, 0),
  (199, .iconst 1, 200, 0, 0, [], 1, 0),
  (200, .ireturn, 201, 0, 0, [], 0, 0)]
/-- yX6_figure -/
def P94 : List En := [(0, .aload_n 0, 1, 0, 0, [], 0, 0),
  (1, .getfield 116, 4, 6, 3, [], 0, 0),
  (4, .aload_n 0, 5, 0, 0, [], 0, 0),
  (5, .getfield 113, 8, 6, 2, [], 0, 0),
  (8, .if_icmp .eq 26, 11, 34, 0, [], 0, 0),
  (11, .aload_n 0, 12, 0, 0, [], 0, 0),
  (12, .getfield 7, 15, 6, 1, [], 0, 0),
  (15, .aload_n 0, 16, 0, 0, [], 0, 0),
  (16, .getfield 116, 19, 6, 3, [], 0, 0),
  (19, .iaload, 20, 0, 0, [], 0, 0),
  (20, .bipush 48, 22, 0, 0, [], 48, 0),
  (22, .isub, 23, 0, 0, [], 0, 0),
  (23, .i2l, 24, 0, 0, [], 0, 0),
  (24, .iload_n 1, 25, 1, 0, [], 0, 0),
  (25, .i2l, 26, 0, 0, [], 0, 0),
  (26, .iload_n 2, 27, 2, 0, [], 0, 0),
  (27, .i2l, 28, 0, 0, [], 0, 0),
  (28, .invokestatic 54, 31, 89, 0, [], 0, 0),
  (31, .ifCond .ne 6, 34, 37, 0, [], 0, 0),
  (34, .bipush (-9), 36, 0, 0, [], (-9), 0),
  (36, .ireturn, 37, 0, 0, [], 0, 0),
  (37, .aload_n 0, 38, 0, 0, [], 0, 0),
  (38, .dup, 39, 0, 0, [], 0, 0),
  (39, .getfield 116, 42, 6, 3, [], 0, 0),
  (42, .iconst 1, 43, 0, 0, [], 1, 0),
  (43, .iadd, 44, 0, 0, [], 0, 0),
  (44, .putfield 116, 47, 6, 3, [], 0, 0),
  (47, .aload_n 0, 48, 0, 0, [], 0, 0),
  (48, .getfield 7, 51, 6, 1, [], 0, 0),
  (51, .aload_n 0, 52, 0, 0, [], 0, 0),
  (52, .getfield 116, 55, 6, 3, [], 0, 0),
  (55, .iconst 1, 56, 0, 0, [], 1, 0),
  (56, .isub, 57, 0, 0, [], 0, 0),
  (57, .iaload, 58, 0, 0, [], 0, 0),
  (58, .bipush 48, 60, 0, 0, [], 48, 0),
  (60, .isub, 61, 0, 0, [], 0, 0),
  (61, .ireturn, 62, 0, 0, [], 0, 0)]
/-- yX6_mayCome -/
def P95 : List En := [(0, .aload_n 0, 1, 0, 0, [], 0, 0),
  (1, .getfield 13, 4, 6, 4, [], 0, 0),
  (4, .iload_n 1, 5, 1, 0, [], 0, 0),
  (5, .iconst 1, 6, 0, 0, [], 1, 0),
  (6, .iadd, 7, 0, 0, [], 0, 0),
  (7, .iaload, 8, 0, 0, [], 0, 0),
  (8, .iconst 3, 9, 0, 0, [], 3, 0),
  (9, .if_icmp .ge 7, 12, 16, 0, [], 0, 0),
  (12, .iconst 1, 13, 0, 0, [], 1, 0),
  (13, .goto 4, 16, 17, 0, [], 0, 0),
  (16, .iconst 0, 17, 0, 0, [], 0, 0),
  (17, .istore_n 2, 18, 2, 0, [], 0, 0),
  (18, .iconst 1, 19, 0, 0, [], 1, 0),
  (19, .istore_n 3, 20, 3, 0, [], 0, 0),
  (20, .iload_n 3, 21, 3, 0, [], 0, 0),
  (21, .iload_n 1, 22, 1, 0, [], 0, 0),
  (22, .if_icmp .gt 28, 25, 50, 0, [], 0, 0),
  (25, .iload_n 2, 26, 2, 0, [], 0, 0),
  (26, .ifCond .eq 16, 29, 42, 0, [], 0, 0),
  (29, .aload_n 0, 30, 0, 0, [], 0, 0),
  (30, .getfield 13, 33, 6, 4, [], 0, 0),
  (33, .iload_n 3, 34, 3, 0, [], 0, 0),
  (34, .iaload, 35, 0, 0, [], 0, 0),
  (35, .ifCond .le 7, 38, 42, 0, [], 0, 0),
  (38, .iconst 1, 39, 0, 0, [], 1, 0),
  (39, .goto 4, 42, 43, 0, [], 0, 0),
  (42, .iconst 0, 43, 0, 0, [], 0, 0),
  (43, .istore_n 2, 44, 2, 0, [], 0, 0),
  (44, .iinc 3 1, 47, 3, 0, [], 1, 0),
  (47, .goto (-27), 50, 20, 0, [], 0, 0),
  (50, .iload_n 2, 51, 2, 0, [], 0, 0),
  (51, .ireturn, 52, 0, 0, [], 0, 0)]
/-- yX6_shape -/
def P96 : List En := [(0, .aload_n 0, 1, 0, 0, [], 0, 0),
  (1, .iconst 0, 2, 0, 0, [], 0, 0),
  (2, .putfield 50, 5, 6, 0, [], 0, 0),
  (5, .iload_n 1, 6, 1, 0, [], 0, 0),
  (6, .invokestatic 144, 9, 97, 0, [], 0, 0),
  (9, .ifCond .eq 5, 12, 14, 0, [], 0, 0),
  (12, .iconst (-1), 13, 0, 0, [], (-1), 0),
  (13, .ireturn, 14, 0, 0, [], 0, 0),
  (14, .aload_n 0, 15, 0, 0, [], 0, 0),
  (15, .invokevirtual 137, 18, 92, 0, [], 0, 0),
  (18, .bipush (-9), 20, 0, 0, [], (-9), 0),
  (20, .if_icmp .eq 6, 23, 26, 0, [], 0, 0),
  (23, .bipush (-3), 25, 0, 0, [], (-3), 0),
  (25, .ireturn, 26, 0, 0, [], 0, 0),
  (26, .aload_n 0, 27, 0, 0, [], 0, 0),
  (27, .invokevirtual 147, 30, 98, 0, [], 0, 0),
  (30, .aload_n 0, 31, 0, 0, [], 0, 0),
  (31, .getfield 16, 34, 6, 7, [], 0, 0),
  (34, .iconst 0, 35, 0, 0, [], 0, 0),
  (35, .aload_n 0, 36, 0, 0, [], 0, 0),
  (36, .getfield 130, 39, 6, 5, [], 0, 0),
  (39, .iastore, 40, 0, 0, [], 0, 0),
  (40, .iconst 0, 41, 0, 0, [], 0, 0),
  (41, .istore_n 2, 42, 2, 0, [], 0, 0),
  (42, .iload_n 2, 43, 2, 0, [], 0, 0),
  (43, .bipush 121, 45, 0, 0, [], 121, 0),
  (45, .if_icmp .ge 26, 48, 71, 0, [], 0, 0),
  (48, .aload_n 0, 49, 0, 0, [], 0, 0),
  (49, .getfield 19, 52, 6, 8, [], 0, 0),
  (52, .bipush 121, 54, 0, 0, [], 121, 0),
  (54, .iload_n 1, 55, 1, 0, [], 0, 0),
  (55, .imul, 56, 0, 0, [], 0, 0),
  (56, .iload_n 2, 57, 2, 0, [], 0, 0),
  (57, .iadd, 58, 0, 0, [], 0, 0),
  (58, .aload_n 0, 59, 0, 0, [], 0, 0),
  (59, .getfield 16, 62, 6, 7, [], 0, 0),
  (62, .iload_n 2, 63, 2, 0, [], 0, 0),
  (63, .iaload, 64, 0, 0, [], 0, 0),
  (64, .iastore, 65, 0, 0, [], 0, 0),
  (65, .iinc 2 1, 68, 2, 0, [], 1, 0),
  (68, .goto (-26), 71, 42, 0, [], 0, 0),
  (71, .aload_n 0, 72, 0, 0, [], 0, 0),
  (72, .getfield 130, 75, 6, 5, [], 0, 0),
  (75, .ireturn, 76, 0, 0, [], 0, 0)]
/-- yX6_noMap -/
def P97 : List En := [(0, .iload_n 0, 1, 0, 0, [], 0, 0),
  (1, .i2l, 2, 0, 0, [], 0, 0),
  (2, .lconst 0, 3, 0, 0, [], 0, 0),
  (3, .lconst 1, 4, 0, 0, [], 0, 1),
  (4, .invokestatic 54, 7, 89, 0, [], 0, 0),
  (7, .ifCond .ne 7, 10, 14, 0, [], 0, 0),
  (10, .iconst 1, 11, 0, 0, [], 1, 0),
  (11, .goto 4, 14, 15, 0, [], 0, 0),
  (14, .iconst 0, 15, 0, 0, [], 0, 0),
  (15, .ireturn, 16, 0, 0, [], 0, 0)]
/-- yX6_note -/
def P98 : List En := [(0, .aload_n 0, 1, 0, 0, [], 0, 0),
  (1, .getfield 141, 4, 6, 11, [], 0, 0),
  (4, .bipush 14, 6, 0, 0, [], 14, 0),
  (6, .if_icmp .ne 44, 9, 50, 0, [], 0, 0),
  (9, .iconst 0, 10, 0, 0, [], 0, 0),
  (10, .istore_n 1, 11, 1, 0, [], 0, 0),
  (11, .iload_n 1, 12, 1, 0, [], 0, 0),
  (12, .sipush 3146, 15, 0, 0, [], 3146, 0),
  (15, .if_icmp .ge 25, 18, 40, 0, [], 0, 0),
  (18, .aload_n 0, 19, 0, 0, [], 0, 0),
  (19, .getfield 25, 22, 6, 10, [], 0, 0),
  (22, .iload_n 1, 23, 1, 0, [], 0, 0),
  (23, .aload_n 0, 24, 0, 0, [], 0, 0),
  (24, .getfield 25, 27, 6, 10, [], 0, 0),
  (27, .iload_n 1, 28, 1, 0, [], 0, 0),
  (28, .sipush 242, 31, 0, 0, [], 242, 0),
  (31, .iadd, 32, 0, 0, [], 0, 0),
  (32, .iaload, 33, 0, 0, [], 0, 0),
  (33, .iastore, 34, 0, 0, [], 0, 0),
  (34, .iinc 1 1, 37, 1, 0, [], 1, 0),
  (37, .goto (-26), 40, 11, 0, [], 0, 0),
  (40, .aload_n 0, 41, 0, 0, [], 0, 0),
  (41, .dup, 42, 0, 0, [], 0, 0),
  (42, .getfield 141, 45, 6, 11, [], 0, 0),
  (45, .iconst 1, 46, 0, 0, [], 1, 0),
  (46, .isub, 47, 0, 0, [], 0, 0),
  (47, .putfield 141, 50, 6, 11, [], 0, 0),
  (50, .iconst 0, 51, 0, 0, [], 0, 0),
  (51, .istore_n 1, 52, 1, 0, [], 0, 0),
  (52, .iload_n 1, 53, 1, 0, [], 0, 0),
  (53, .sipush 242, 56, 0, 0, [], 242, 0),
  (56, .if_icmp .ge 30, 59, 86, 0, [], 0, 0),
  (59, .aload_n 0, 60, 0, 0, [], 0, 0),
  (60, .getfield 25, 63, 6, 10, [], 0, 0),
  (63, .sipush 242, 66, 0, 0, [], 242, 0),
  (66, .aload_n 0, 67, 0, 0, [], 0, 0),
  (67, .getfield 141, 70, 6, 11, [], 0, 0),
  (70, .imul, 71, 0, 0, [], 0, 0),
  (71, .iload_n 1, 72, 1, 0, [], 0, 0),
  (72, .iadd, 73, 0, 0, [], 0, 0),
  (73, .aload_n 0, 74, 0, 0, [], 0, 0),
  (74, .getfield 19, 77, 6, 8, [], 0, 0),
  (77, .iload_n 1, 78, 1, 0, [], 0, 0),
  (78, .iaload, 79, 0, 0, [], 0, 0),
  (79, .iastore, 80, 0, 0, [], 0, 0),
  (80, .iinc 1 1, 83, 1, 0, [], 1, 0),
  (83, .goto (-31), 86, 52, 0, [], 0, 0),
  (86, .aload_n 0, 87, 0, 0, [], 0, 0),
  (87, .dup, 88, 0, 0, [], 0, 0),
  (88, .getfield 141, 91, 6, 11, [], 0, 0),
  (91, .iconst 1, 92, 0, 0, [], 1, 0),
  (92, .iadd, 93, 0, 0, [], 0, 0),
  (93, .putfield 141, 96, 6, 11, [], 0, 0),
  (96, .return_, 97, 0, 0, [], 0, 0)]
/-- yX6_put -/
def P99 : List En := [(0, .aload_n 0, 1, 0, 0, [], 0, 0),
  (1, .iconst 0, 2, 0, 0, [], 0, 0),
  (2, .putfield 50, 5, 6, 0, [], 0, 0),
  (5, .iload_n 1, 6, 1, 0, [], 0, 0),
  (6, .invokestatic 144, 9, 97, 0, [], 0, 0),
  (9, .ifCond .ne 10, 12, 19, 0, [], 0, 0),
  (12, .iload_n 2, 13, 2, 0, [], 0, 0),
  (13, .invokestatic 150, 16, 100, 0, [], 0, 0),
  (16, .ifCond .eq 5, 19, 21, 0, [], 0, 0),
  (19, .iconst (-1), 20, 0, 0, [], (-1), 0),
  (20, .ireturn, 21, 0, 0, [], 0, 0),
  (21, .iload_n 3, 22, 3, 0, [], 0, 0),
  (22, .i2l, 23, 0, 0, [], 0, 0),
  (23, .lconst 0, 24, 0, 0, [], 0, 0),
  (24, .ldc2_w 153, 27, 0, 0, [], 0, 999999),
  (27, .invokestatic 54, 30, 89, 0, [], 0, 0),
  (30, .ifCond .ne 6, 33, 36, 0, [], 0, 0),
  (33, .bipush (-2), 35, 0, 0, [], (-2), 0),
  (35, .ireturn, 36, 0, 0, [], 0, 0),
  (36, .aload_n 0, 37, 0, 0, [], 0, 0),
  (37, .getfield 19, 40, 6, 8, [], 0, 0),
  (40, .bipush 121, 42, 0, 0, [], 121, 0),
  (42, .iload_n 1, 43, 1, 0, [], 0, 0),
  (43, .imul, 44, 0, 0, [], 0, 0),
  (44, .iload_n 2, 45, 2, 0, [], 0, 0),
  (45, .invokestatic 90, 48, 101, 0, [], 0, 0),
  (48, .bipush (-9), 50, 0, 0, [], (-9), 0),
  (50, .if_icmp .ne 20, 53, 70, 0, [], 0, 0),
  (53, .aload_n 0, 54, 0, 0, [], 0, 0),
  (54, .getfield 19, 57, 6, 8, [], 0, 0),
  (57, .bipush 121, 59, 0, 0, [], 121, 0),
  (59, .iload_n 1, 60, 1, 0, [], 0, 0),
  (60, .imul, 61, 0, 0, [], 0, 0),
  (61, .iaload, 62, 0, 0, [], 0, 0),
  (62, .bipush 40, 64, 0, 0, [], 40, 0),
  (64, .if_icmp .ne 6, 67, 70, 0, [], 0, 0),
  (67, .bipush (-4), 69, 0, 0, [], (-4), 0),
  (69, .ireturn, 70, 0, 0, [], 0, 0),
  (70, .aload_n 0, 71, 0, 0, [], 0, 0),
  (71, .invokevirtual 147, 74, 98, 0, [], 0, 0),
  (74, .aload_n 0, 75, 0, 0, [], 0, 0),
  (75, .aload_n 0, 76, 0, 0, [], 0, 0),
  (76, .getfield 19, 79, 6, 8, [], 0, 0),
  (79, .bipush 121, 81, 0, 0, [], 121, 0),
  (81, .iload_n 1, 82, 1, 0, [], 0, 0),
  (82, .imul, 83, 0, 0, [], 0, 0),
  (83, .iload_n 2, 84, 2, 0, [], 0, 0),
  (84, .iload_n 3, 85, 3, 0, [], 0, 0),
  (85, .invokevirtual 155, 88, 102, 0, [], 0, 0),
  (88, .pop, 89, 0, 0, [], 0, 0),
  (89, .aload_n 0, 90, 0, 0, [], 0, 0),
  (90, .getfield 19, 93, 6, 8, [], 0, 0),
  (93, .bipush 121, 95, 0, 0, [], 121, 0),
  (95, .iload_n 1, 96, 1, 0, [], 0, 0),
  (96, .imul, 97, 0, 0, [], 0, 0),
  (97, .iaload, 98, 0, 0, [], 0, 0),
  (98, .ireturn, 99, 0, 0, [], 0, 0)]
/-- yX6_noKey -/
def P100 : List En := [(0, .iload_n 0, 1, 0, 0, [], 0, 0),
  (1, .i2l, 2, 0, 0, [], 0, 0),
  (2, .lconst 0, 3, 0, 0, [], 0, 0),
  (3, .ldc2_w 58, 6, 0, 0, [], 0, 99),
  (6, .invokestatic 54, 9, 89, 0, [], 0, 0),
  (9, .ifCond .ne 7, 12, 16, 0, [], 0, 0),
  (12, .iconst 1, 13, 0, 0, [], 1, 0),
  (13, .goto 4, 16, 17, 0, [], 0, 0),
  (16, .iconst 0, 17, 0, 0, [], 0, 0),
  (17, .ireturn, 18, 0, 0, [], 0, 0)]
/-- yX6_find -/
def P101 : List En := [(0, .bipush (-9), 2, 0, 0, [], (-9), 0),
  (2, .istore_n 3, 3, 3, 0, [], 0, 0),
  (3, .iconst 0, 4, 0, 0, [], 0, 0),
  (4, .istore 4, 6, 4, 0, [], 0, 0),
  (6, .iload 4, 8, 4, 0, [], 0, 0),
  (8, .aload_n 0, 9, 0, 0, [], 0, 0),
  (9, .iload_n 1, 10, 1, 0, [], 0, 0),
  (10, .iaload, 11, 0, 0, [], 0, 0),
  (11, .if_icmp .ge 28, 14, 39, 0, [], 0, 0),
  (14, .aload_n 0, 15, 0, 0, [], 0, 0),
  (15, .iload_n 1, 16, 1, 0, [], 0, 0),
  (16, .iconst 1, 17, 0, 0, [], 1, 0),
  (17, .iadd, 18, 0, 0, [], 0, 0),
  (18, .iload 4, 20, 4, 0, [], 0, 0),
  (20, .iadd, 21, 0, 0, [], 0, 0),
  (21, .iaload, 22, 0, 0, [], 0, 0),
  (22, .iload_n 2, 23, 2, 0, [], 0, 0),
  (23, .if_icmp .ne 8, 26, 31, 0, [], 0, 0),
  (26, .iload 4, 28, 4, 0, [], 0, 0),
  (28, .goto 4, 31, 32, 0, [], 0, 0),
  (31, .iload_n 3, 32, 3, 0, [], 0, 0),
  (32, .istore_n 3, 33, 3, 0, [], 0, 0),
  (33, .iinc 4 1, 36, 4, 0, [], 1, 0),
  (36, .goto (-30), 39, 6, 0, [], 0, 0),
  (39, .iload_n 3, 40, 3, 0, [], 0, 0),
  (40, .ireturn, 41, 0, 0, [], 0, 0)]
/-- yX6_goPut -/
def P102 : List En := [(0, .aload_n 1, 1, 1, 0, [], 0, 0),
  (1, .iload_n 2, 2, 2, 0, [], 0, 0),
  (2, .iload_n 3, 3, 3, 0, [], 0, 0),
  (3, .invokestatic 90, 6, 101, 0, [], 0, 0),
  (6, .istore 5, 8, 5, 0, [], 0, 0),
  (8, .iload 5, 10, 5, 0, [], 0, 0),
  (10, .bipush (-9), 12, 0, 0, [], (-9), 0),
  (12, .if_icmp .eq 16, 15, 28, 0, [], 0, 0),
  (15, .aload_n 1, 16, 1, 0, [], 0, 0),
  (16, .iload_n 2, 17, 2, 0, [], 0, 0),
  (17, .bipush 41, 19, 0, 0, [], 41, 0),
  (19, .iadd, 20, 0, 0, [], 0, 0),
  (20, .iload 5, 22, 5, 0, [], 0, 0),
  (22, .iadd, 23, 0, 0, [], 0, 0),
  (23, .iload 4, 25, 4, 0, [], 0, 0),
  (25, .iastore, 26, 0, 0, [], 0, 0),
  (26, .iconst 1, 27, 0, 0, [], 1, 0),
  (27, .ireturn, 28, 0, 0, [], 0, 0),
  (28, .aload_n 1, 29, 1, 0, [], 0, 0),
  (29, .iload_n 2, 30, 2, 0, [], 0, 0),
  (30, .iaload, 31, 0, 0, [], 0, 0),
  (31, .bipush 40, 33, 0, 0, [], 40, 0),
  (33, .if_icmp .ne 5, 36, 38, 0, [], 0, 0),
  (36, .iconst 0, 37, 0, 0, [], 0, 0),
  (37, .ireturn, 38, 0, 0, [], 0, 0),
  (38, .aload_n 0, 39, 0, 0, [], 0, 0),
  (39, .aload_n 1, 40, 1, 0, [], 0, 0),
  (40, .iload_n 2, 41, 2, 0, [], 0, 0),
  (41, .iload_n 3, 42, 3, 0, [], 0, 0),
  (42, .iload 4, 44, 4, 0, [], 0, 0),
  (44, .invokevirtual 93, 47, 103, 0, [], 0, 0),
  (47, .iconst 1, 48, 0, 0, [], 1, 0),
  (48, .ireturn, 49, 0, 0, [], 0, 0)]
/-- yX6_goNew -/
def P103 : List En := [(0, .aload_n 1, 1, 1, 0, [], 0, 0),
  (1, .iload_n 2, 2, 2, 0, [], 0, 0),
  (2, .iload_n 3, 3, 3, 0, [], 0, 0),
  (3, .invokestatic 66, 6, 104, 0, [], 0, 0),
  (6, .istore 5, 8, 5, 0, [], 0, 0),
  (8, .aload_n 1, 9, 1, 0, [], 0, 0),
  (9, .iload_n 2, 10, 2, 0, [], 0, 0),
  (10, .invokestatic 70, 13, 105, 0, [], 0, 0),
  (13, .istore 6, 15, 6, 0, [], 0, 0),
  (15, .iload 6, 17, 6, 0, [], 0, 0),
  (17, .ifCond .le 73, 20, 90, 0, [], 0, 0),
  (20, .aload_n 0, 21, 0, 0, [], 0, 0),
  (21, .aload_n 1, 22, 1, 0, [], 0, 0),
  (22, .iload_n 2, 23, 2, 0, [], 0, 0),
  (23, .iload 6, 25, 6, 0, [], 0, 0),
  (25, .iload 5, 27, 5, 0, [], 0, 0),
  (27, .iconst 1, 28, 0, 0, [], 1, 0),
  (28, .isub, 29, 0, 0, [], 0, 0),
  (29, .iload 5, 31, 5, 0, [], 0, 0),
  (31, .invokevirtual 74, 34, 106, 0, [], 0, 0),
  (34, .aload_n 1, 35, 1, 0, [], 0, 0),
  (35, .iload_n 2, 36, 2, 0, [], 0, 0),
  (36, .aload_n 0, 37, 0, 0, [], 0, 0),
  (37, .getfield 60, 40, 6, 21, [], 0, 0),
  (40, .aload_n 0, 41, 0, 0, [], 0, 0),
  (41, .getfield 63, 44, 6, 22, [], 0, 0),
  (44, .iload 6, 46, 6, 0, [], 0, 0),
  (46, .iconst 1, 47, 0, 0, [], 1, 0),
  (47, .isub, 48, 0, 0, [], 0, 0),
  (48, .invokestatic 78, 51, 107, 0, [], 0, 0),
  (51, .iconst 3, 52, 0, 0, [], 3, 0),
  (52, .if_icmp .ne 32, 55, 84, 0, [], 0, 0),
  (55, .aload_n 1, 56, 1, 0, [], 0, 0),
  (56, .iload_n 2, 57, 2, 0, [], 0, 0),
  (57, .bipush 81, 59, 0, 0, [], 81, 0),
  (59, .iadd, 60, 0, 0, [], 0, 0),
  (60, .aload_n 1, 61, 1, 0, [], 0, 0),
  (61, .iload_n 2, 62, 2, 0, [], 0, 0),
  (62, .aload_n 0, 63, 0, 0, [], 0, 0),
  (63, .getfield 60, 66, 6, 21, [], 0, 0),
  (66, .aload_n 0, 67, 0, 0, [], 0, 0),
  (67, .getfield 63, 70, 6, 22, [], 0, 0),
  (70, .iload 6, 72, 6, 0, [], 0, 0),
  (72, .iconst 1, 73, 0, 0, [], 1, 0),
  (73, .isub, 74, 0, 0, [], 0, 0),
  (74, .iconst 1, 75, 0, 0, [], 1, 0),
  (75, .invokestatic 82, 78, 108, 0, [], 0, 0),
  (78, .iadd, 79, 0, 0, [], 0, 0),
  (79, .dup2, 80, 0, 0, [], 0, 0),
  (80, .iaload, 81, 0, 0, [], 0, 0),
  (81, .iconst 1, 82, 0, 0, [], 1, 0),
  (82, .iadd, 83, 0, 0, [], 0, 0),
  (83, .iastore, 84, 0, 0, [], 0, 0),
  (84, .iinc 6 (-1), 87, 6, 0, [], (-1), 0),
  (87, .goto (-72), 90, 15, 0, [], 0, 0),
  (90, .aload_n 1, 91, 1, 0, [], 0, 0),
  (91, .iload_n 2, 92, 2, 0, [], 0, 0),
  (92, .iaload, 93, 0, 0, [], 0, 0),
  (93, .istore 6, 95, 6, 0, [], 0, 0),
  (95, .iload 6, 97, 6, 0, [], 0, 0),
  (97, .iload 5, 99, 5, 0, [], 0, 0),
  (99, .if_icmp .le 20, 102, 119, 0, [], 0, 0),
  (102, .aload_n 1, 103, 1, 0, [], 0, 0),
  (103, .iload_n 2, 104, 2, 0, [], 0, 0),
  (104, .iload 6, 106, 6, 0, [], 0, 0),
  (106, .iload 6, 108, 6, 0, [], 0, 0),
  (108, .iconst 1, 109, 0, 0, [], 1, 0),
  (109, .isub, 110, 0, 0, [], 0, 0),
  (110, .invokestatic 86, 113, 109, 0, [], 0, 0),
  (113, .iinc 6 (-1), 116, 6, 0, [], (-1), 0),
  (116, .goto (-21), 119, 95, 0, [], 0, 0),
  (119, .aload_n 1, 120, 1, 0, [], 0, 0),
  (120, .iload_n 2, 121, 2, 0, [], 0, 0),
  (121, .iconst 1, 122, 0, 0, [], 1, 0),
  (122, .iadd, 123, 0, 0, [], 0, 0),
  (123, .iload 5, 125, 5, 0, [], 0, 0),
  (125, .iadd, 126, 0, 0, [], 0, 0),
  (126, .iload_n 3, 127, 3, 0, [], 0, 0),
  (127, .iastore, 128, 0, 0, [], 0, 0),
  (128, .aload_n 1, 129, 1, 0, [], 0, 0),
  (129, .iload_n 2, 130, 2, 0, [], 0, 0),
  (130, .bipush 41, 132, 0, 0, [], 41, 0),
  (132, .iadd, 133, 0, 0, [], 0, 0),
  (133, .iload 5, 135, 5, 0, [], 0, 0),
  (135, .iadd, 136, 0, 0, [], 0, 0),
  (136, .iload 4, 138, 4, 0, [], 0, 0),
  (138, .iastore, 139, 0, 0, [], 0, 0),
  (139, .aload_n 1, 140, 1, 0, [], 0, 0),
  (140, .iload_n 2, 141, 2, 0, [], 0, 0),
  (141, .bipush 81, 143, 0, 0, [], 81, 0),
  (143, .iadd, 144, 0, 0, [], 0, 0),
  (144, .iload 5, 146, 5, 0, [], 0, 0),
  (146, .iadd, 147, 0, 0, [], 0, 0),
  (147, .iconst 0, 148, 0, 0, [], 0, 0),
  (148, .iastore, 149, 0, 0, [], 0, 0),
  (149, .aload_n 1, 150, 1, 0, [], 0, 0),
  (150, .iload_n 2, 151, 2, 0, [], 0, 0),
  (151, .dup2, 152, 0, 0, [], 0, 0),
  (152, .iaload, 153, 0, 0, [], 0, 0),
  (153, .iconst 1, 154, 0, 0, [], 1, 0),
  (154, .iadd, 155, 0, 0, [], 0, 0),
  (155, .iastore, 156, 0, 0, [], 0, 0),
  (156, .return_, 157, 0, 0, [], 0, 0)]
/-- yX6_lesser -/
def P104 : List En := [(0, .iconst 0, 1, 0, 0, [], 0, 0),
  (1, .istore_n 3, 2, 3, 0, [], 0, 0),
  (2, .iconst 0, 3, 0, 0, [], 0, 0),
  (3, .istore 4, 5, 4, 0, [], 0, 0),
  (5, .iload 4, 7, 4, 0, [], 0, 0),
  (7, .aload_n 0, 8, 0, 0, [], 0, 0),
  (8, .iload_n 1, 9, 1, 0, [], 0, 0),
  (9, .iaload, 10, 0, 0, [], 0, 0),
  (10, .if_icmp .ge 29, 13, 39, 0, [], 0, 0),
  (13, .iload_n 3, 14, 3, 0, [], 0, 0),
  (14, .aload_n 0, 15, 0, 0, [], 0, 0),
  (15, .iload_n 1, 16, 1, 0, [], 0, 0),
  (16, .iconst 1, 17, 0, 0, [], 1, 0),
  (17, .iadd, 18, 0, 0, [], 0, 0),
  (18, .iload 4, 20, 4, 0, [], 0, 0),
  (20, .iadd, 21, 0, 0, [], 0, 0),
  (21, .iaload, 22, 0, 0, [], 0, 0),
  (22, .iload_n 2, 23, 2, 0, [], 0, 0),
  (23, .if_icmp .ge 7, 26, 30, 0, [], 0, 0),
  (26, .iconst 1, 27, 0, 0, [], 1, 0),
  (27, .goto 4, 30, 31, 0, [], 0, 0),
  (30, .iconst 0, 31, 0, 0, [], 0, 0),
  (31, .iadd, 32, 0, 0, [], 0, 0),
  (32, .istore_n 3, 33, 3, 0, [], 0, 0),
  (33, .iinc 4 1, 36, 4, 0, [], 1, 0),
  (36, .goto (-31), 39, 5, 0, [], 0, 0),
  (39, .iload_n 3, 40, 3, 0, [], 0, 0),
  (40, .ireturn, 41, 0, 0, [], 0, 0)]
/-- yX6_top -/
def P105 : List En := [(0, .iconst 0, 1, 0, 0, [], 0, 0),
  (1, .istore_n 2, 2, 2, 0, [], 0, 0),
  (2, .iconst 0, 3, 0, 0, [], 0, 0),
  (3, .istore_n 3, 4, 3, 0, [], 0, 0),
  (4, .iload_n 3, 5, 3, 0, [], 0, 0),
  (5, .aload_n 0, 6, 0, 0, [], 0, 0),
  (6, .iload_n 1, 7, 1, 0, [], 0, 0),
  (7, .iaload, 8, 0, 0, [], 0, 0),
  (8, .if_icmp .ge 36, 11, 44, 0, [], 0, 0),
  (11, .aload_n 0, 12, 0, 0, [], 0, 0),
  (12, .iload_n 1, 13, 1, 0, [], 0, 0),
  (13, .bipush 81, 15, 0, 0, [], 81, 0),
  (15, .iadd, 16, 0, 0, [], 0, 0),
  (16, .iload_n 3, 17, 3, 0, [], 0, 0),
  (17, .iadd, 18, 0, 0, [], 0, 0),
  (18, .iaload, 19, 0, 0, [], 0, 0),
  (19, .iload_n 2, 20, 2, 0, [], 0, 0),
  (20, .if_icmp .lt 16, 23, 36, 0, [], 0, 0),
  (23, .aload_n 0, 24, 0, 0, [], 0, 0),
  (24, .iload_n 1, 25, 1, 0, [], 0, 0),
  (25, .bipush 81, 27, 0, 0, [], 81, 0),
  (27, .iadd, 28, 0, 0, [], 0, 0),
  (28, .iload_n 3, 29, 3, 0, [], 0, 0),
  (29, .iadd, 30, 0, 0, [], 0, 0),
  (30, .iaload, 31, 0, 0, [], 0, 0),
  (31, .iconst 1, 32, 0, 0, [], 1, 0),
  (32, .iadd, 33, 0, 0, [], 0, 0),
  (33, .goto 4, 36, 37, 0, [], 0, 0),
  (36, .iload_n 2, 37, 2, 0, [], 0, 0),
  (37, .istore_n 2, 38, 2, 0, [], 0, 0),
  (38, .iinc 3 1, 41, 3, 0, [], 1, 0),
  (41, .goto (-37), 44, 4, 0, [], 0, 0),
  (44, .iload_n 2, 45, 2, 0, [], 0, 0),
  (45, .ireturn, 46, 0, 0, [], 0, 0)]
/-- yX6_layGap -/
def P106 : List En := [(0, .aload_n 0, 1, 0, 0, [], 0, 0),
  (1, .iload 4, 3, 4, 0, [], 0, 0),
  (3, .putfield 60, 6, 6, 21, [], 0, 0),
  (6, .aload_n 0, 7, 0, 0, [], 0, 0),
  (7, .getfield 60, 10, 6, 21, [], 0, 0),
  (10, .ifCond .lt 31, 13, 41, 0, [], 0, 0),
  (13, .aload_n 1, 14, 1, 0, [], 0, 0),
  (14, .iload_n 2, 15, 2, 0, [], 0, 0),
  (15, .bipush 81, 17, 0, 0, [], 81, 0),
  (17, .iadd, 18, 0, 0, [], 0, 0),
  (18, .aload_n 0, 19, 0, 0, [], 0, 0),
  (19, .getfield 60, 22, 6, 21, [], 0, 0),
  (22, .iadd, 23, 0, 0, [], 0, 0),
  (23, .iaload, 24, 0, 0, [], 0, 0),
  (24, .iload_n 3, 25, 3, 0, [], 0, 0),
  (25, .if_icmp .ge 16, 28, 41, 0, [], 0, 0),
  (28, .aload_n 0, 29, 0, 0, [], 0, 0),
  (29, .dup, 30, 0, 0, [], 0, 0),
  (30, .getfield 60, 33, 6, 21, [], 0, 0),
  (33, .iconst 1, 34, 0, 0, [], 1, 0),
  (34, .isub, 35, 0, 0, [], 0, 0),
  (35, .putfield 60, 38, 6, 21, [], 0, 0),
  (38, .goto (-32), 41, 6, 0, [], 0, 0),
  (41, .aload_n 0, 42, 0, 0, [], 0, 0),
  (42, .iload 5, 44, 5, 0, [], 0, 0),
  (44, .putfield 63, 47, 6, 22, [], 0, 0),
  (47, .aload_n 0, 48, 0, 0, [], 0, 0),
  (48, .getfield 63, 51, 6, 22, [], 0, 0),
  (51, .aload_n 1, 52, 1, 0, [], 0, 0),
  (52, .iload_n 2, 53, 2, 0, [], 0, 0),
  (53, .iaload, 54, 0, 0, [], 0, 0),
  (54, .if_icmp .ge 31, 57, 85, 0, [], 0, 0),
  (57, .aload_n 1, 58, 1, 0, [], 0, 0),
  (58, .iload_n 2, 59, 2, 0, [], 0, 0),
  (59, .bipush 81, 61, 0, 0, [], 81, 0),
  (61, .iadd, 62, 0, 0, [], 0, 0),
  (62, .aload_n 0, 63, 0, 0, [], 0, 0),
  (63, .getfield 63, 66, 6, 22, [], 0, 0),
  (66, .iadd, 67, 0, 0, [], 0, 0),
  (67, .iaload, 68, 0, 0, [], 0, 0),
  (68, .iload_n 3, 69, 3, 0, [], 0, 0),
  (69, .if_icmp .ge 16, 72, 85, 0, [], 0, 0),
  (72, .aload_n 0, 73, 0, 0, [], 0, 0),
  (73, .dup, 74, 0, 0, [], 0, 0),
  (74, .getfield 63, 77, 6, 22, [], 0, 0),
  (77, .iconst 1, 78, 0, 0, [], 1, 0),
  (78, .iadd, 79, 0, 0, [], 0, 0),
  (79, .putfield 63, 82, 6, 22, [], 0, 0),
  (82, .goto (-35), 85, 47, 0, [], 0, 0),
  (85, .return_, 86, 0, 0, [], 0, 0)]
/-- yX6_between -/
def P107 : List En := [(0, .iconst 0, 1, 0, 0, [], 0, 0),
  (1, .istore 5, 3, 5, 0, [], 0, 0),
  (3, .iload_n 2, 4, 2, 0, [], 0, 0),
  (4, .iconst 1, 5, 0, 0, [], 1, 0),
  (5, .iadd, 6, 0, 0, [], 0, 0),
  (6, .istore 6, 8, 6, 0, [], 0, 0),
  (8, .iload 6, 10, 6, 0, [], 0, 0),
  (10, .iload_n 3, 11, 3, 0, [], 0, 0),
  (11, .if_icmp .ge 33, 14, 44, 0, [], 0, 0),
  (14, .iload 5, 16, 5, 0, [], 0, 0),
  (16, .aload_n 0, 17, 0, 0, [], 0, 0),
  (17, .iload_n 1, 18, 1, 0, [], 0, 0),
  (18, .bipush 81, 20, 0, 0, [], 81, 0),
  (20, .iadd, 21, 0, 0, [], 0, 0),
  (21, .iload 6, 23, 6, 0, [], 0, 0),
  (23, .iadd, 24, 0, 0, [], 0, 0),
  (24, .iaload, 25, 0, 0, [], 0, 0),
  (25, .iload 4, 27, 4, 0, [], 0, 0),
  (27, .if_icmp .ne 7, 30, 34, 0, [], 0, 0),
  (30, .iconst 1, 31, 0, 0, [], 1, 0),
  (31, .goto 4, 34, 35, 0, [], 0, 0),
  (34, .iconst 0, 35, 0, 0, [], 0, 0),
  (35, .iadd, 36, 0, 0, [], 0, 0),
  (36, .istore 5, 38, 5, 0, [], 0, 0),
  (38, .iinc 6 1, 41, 6, 0, [], 1, 0),
  (41, .goto (-33), 44, 8, 0, [], 0, 0),
  (44, .iload 5, 46, 5, 0, [], 0, 0),
  (46, .ireturn, 47, 0, 0, [], 0, 0)]
/-- yX6_placeOf -/
def P108 : List En := [(0, .bipush (-9), 2, 0, 0, [], (-9), 0),
  (2, .istore 6, 4, 6, 0, [], 0, 0),
  (4, .iconst 0, 5, 0, 0, [], 0, 0),
  (5, .istore 7, 7, 7, 0, [], 0, 0),
  (7, .iload_n 2, 8, 2, 0, [], 0, 0),
  (8, .iconst 1, 9, 0, 0, [], 1, 0),
  (9, .iadd, 10, 0, 0, [], 0, 0),
  (10, .istore 8, 12, 8, 0, [], 0, 0),
  (12, .iload 8, 14, 8, 0, [], 0, 0),
  (14, .iload_n 3, 15, 3, 0, [], 0, 0),
  (15, .if_icmp .ge 42, 18, 57, 0, [], 0, 0),
  (18, .aload_n 0, 19, 0, 0, [], 0, 0),
  (19, .iload_n 1, 20, 1, 0, [], 0, 0),
  (20, .bipush 81, 22, 0, 0, [], 81, 0),
  (22, .iadd, 23, 0, 0, [], 0, 0),
  (23, .iload 8, 25, 8, 0, [], 0, 0),
  (25, .iadd, 26, 0, 0, [], 0, 0),
  (26, .iaload, 27, 0, 0, [], 0, 0),
  (27, .iload 4, 29, 4, 0, [], 0, 0),
  (29, .if_icmp .ne 22, 32, 51, 0, [], 0, 0),
  (32, .iload 7, 34, 7, 0, [], 0, 0),
  (34, .iload 5, 36, 5, 0, [], 0, 0),
  (36, .if_icmp .ne 8, 39, 44, 0, [], 0, 0),
  (39, .iload 8, 41, 8, 0, [], 0, 0),
  (41, .goto 5, 44, 46, 0, [], 0, 0),
  (44, .iload 6, 46, 6, 0, [], 0, 0),
  (46, .istore 6, 48, 6, 0, [], 0, 0),
  (48, .iinc 7 1, 51, 7, 0, [], 1, 0),
  (51, .iinc 8 1, 54, 8, 0, [], 1, 0),
  (54, .goto (-42), 57, 12, 0, [], 0, 0),
  (57, .iload 6, 59, 6, 0, [], 0, 0),
  (59, .ireturn, 60, 0, 0, [], 0, 0)]
/-- yX6_move -/
def P109 : List En := [(0, .aload_n 0, 1, 0, 0, [], 0, 0),
  (1, .iload_n 1, 2, 1, 0, [], 0, 0),
  (2, .iconst 1, 3, 0, 0, [], 1, 0),
  (3, .iadd, 4, 0, 0, [], 0, 0),
  (4, .iload_n 2, 5, 2, 0, [], 0, 0),
  (5, .iadd, 6, 0, 0, [], 0, 0),
  (6, .aload_n 0, 7, 0, 0, [], 0, 0),
  (7, .iload_n 1, 8, 1, 0, [], 0, 0),
  (8, .iconst 1, 9, 0, 0, [], 1, 0),
  (9, .iadd, 10, 0, 0, [], 0, 0),
  (10, .iload_n 3, 11, 3, 0, [], 0, 0),
  (11, .iadd, 12, 0, 0, [], 0, 0),
  (12, .iaload, 13, 0, 0, [], 0, 0),
  (13, .iastore, 14, 0, 0, [], 0, 0),
  (14, .aload_n 0, 15, 0, 0, [], 0, 0),
  (15, .iload_n 1, 16, 1, 0, [], 0, 0),
  (16, .bipush 41, 18, 0, 0, [], 41, 0),
  (18, .iadd, 19, 0, 0, [], 0, 0),
  (19, .iload_n 2, 20, 2, 0, [], 0, 0),
  (20, .iadd, 21, 0, 0, [], 0, 0),
  (21, .aload_n 0, 22, 0, 0, [], 0, 0),
  (22, .iload_n 1, 23, 1, 0, [], 0, 0),
  (23, .bipush 41, 25, 0, 0, [], 41, 0),
  (25, .iadd, 26, 0, 0, [], 0, 0),
  (26, .iload_n 3, 27, 3, 0, [], 0, 0),
  (27, .iadd, 28, 0, 0, [], 0, 0),
  (28, .iaload, 29, 0, 0, [], 0, 0),
  (29, .iastore, 30, 0, 0, [], 0, 0),
  (30, .aload_n 0, 31, 0, 0, [], 0, 0),
  (31, .iload_n 1, 32, 1, 0, [], 0, 0),
  (32, .bipush 81, 34, 0, 0, [], 81, 0),
  (34, .iadd, 35, 0, 0, [], 0, 0),
  (35, .iload_n 2, 36, 2, 0, [], 0, 0),
  (36, .iadd, 37, 0, 0, [], 0, 0),
  (37, .aload_n 0, 38, 0, 0, [], 0, 0),
  (38, .iload_n 1, 39, 1, 0, [], 0, 0),
  (39, .bipush 81, 41, 0, 0, [], 81, 0),
  (41, .iadd, 42, 0, 0, [], 0, 0),
  (42, .iload_n 3, 43, 3, 0, [], 0, 0),
  (43, .iadd, 44, 0, 0, [], 0, 0),
  (44, .iaload, 45, 0, 0, [], 0, 0),
  (45, .iastore, 46, 0, 0, [], 0, 0),
  (46, .return_, 47, 0, 0, [], 0, 0)]
/-- yX6_remove -/
def P110 : List En := [(0, .aload_n 0, 1, 0, 0, [], 0, 0),
  (1, .iconst 0, 2, 0, 0, [], 0, 0),
  (2, .putfield 50, 5, 6, 0, [], 0, 0),
  (5, .iload_n 1, 6, 1, 0, [], 0, 0),
  (6, .invokestatic 144, 9, 97, 0, [], 0, 0),
  (9, .ifCond .ne 10, 12, 19, 0, [], 0, 0),
  (12, .iload_n 2, 13, 2, 0, [], 0, 0),
  (13, .invokestatic 150, 16, 100, 0, [], 0, 0),
  (16, .ifCond .eq 5, 19, 21, 0, [], 0, 0),
  (19, .iconst (-1), 20, 0, 0, [], (-1), 0),
  (20, .ireturn, 21, 0, 0, [], 0, 0),
  (21, .aload_n 0, 22, 0, 0, [], 0, 0),
  (22, .getfield 19, 25, 6, 8, [], 0, 0),
  (25, .bipush 121, 27, 0, 0, [], 121, 0),
  (27, .iload_n 1, 28, 1, 0, [], 0, 0),
  (28, .imul, 29, 0, 0, [], 0, 0),
  (29, .iload_n 2, 30, 2, 0, [], 0, 0),
  (30, .invokestatic 90, 33, 101, 0, [], 0, 0),
  (33, .istore_n 3, 34, 3, 0, [], 0, 0),
  (34, .iload_n 3, 35, 3, 0, [], 0, 0),
  (35, .bipush (-9), 37, 0, 0, [], (-9), 0),
  (37, .if_icmp .ne 6, 40, 43, 0, [], 0, 0),
  (40, .bipush (-3), 42, 0, 0, [], (-3), 0),
  (42, .ireturn, 43, 0, 0, [], 0, 0),
  (43, .aload_n 0, 44, 0, 0, [], 0, 0),
  (44, .invokevirtual 147, 47, 98, 0, [], 0, 0),
  (47, .aload_n 0, 48, 0, 0, [], 0, 0),
  (48, .aload_n 0, 49, 0, 0, [], 0, 0),
  (49, .getfield 19, 52, 6, 8, [], 0, 0),
  (52, .bipush 121, 54, 0, 0, [], 121, 0),
  (54, .iload_n 1, 55, 1, 0, [], 0, 0),
  (55, .imul, 56, 0, 0, [], 0, 0),
  (56, .iload_n 3, 57, 3, 0, [], 0, 0),
  (57, .invokevirtual 159, 60, 111, 0, [], 0, 0),
  (60, .ireturn, 61, 0, 0, [], 0, 0)]
/-- yX6_goRemove -/
def P111 : List En := [(0, .aload_n 1, 1, 1, 0, [], 0, 0),
  (1, .iload_n 2, 2, 2, 0, [], 0, 0),
  (2, .bipush 41, 4, 0, 0, [], 41, 0),
  (4, .iadd, 5, 0, 0, [], 0, 0),
  (5, .iload_n 3, 6, 3, 0, [], 0, 0),
  (6, .iadd, 7, 0, 0, [], 0, 0),
  (7, .iaload, 8, 0, 0, [], 0, 0),
  (8, .istore 4, 10, 4, 0, [], 0, 0),
  (10, .iload_n 3, 11, 3, 0, [], 0, 0),
  (11, .istore 5, 13, 5, 0, [], 0, 0),
  (13, .aload_n 1, 14, 1, 0, [], 0, 0),
  (14, .iload_n 2, 15, 2, 0, [], 0, 0),
  (15, .bipush 81, 17, 0, 0, [], 81, 0),
  (17, .iadd, 18, 0, 0, [], 0, 0),
  (18, .iload_n 3, 19, 3, 0, [], 0, 0),
  (19, .iadd, 20, 0, 0, [], 0, 0),
  (20, .iaload, 21, 0, 0, [], 0, 0),
  (21, .ifCond .le 40, 24, 61, 0, [], 0, 0),
  (24, .iload_n 3, 25, 3, 0, [], 0, 0),
  (25, .iconst 1, 26, 0, 0, [], 1, 0),
  (26, .iadd, 27, 0, 0, [], 0, 0),
  (27, .istore 5, 29, 5, 0, [], 0, 0),
  (29, .aload_n 1, 30, 1, 0, [], 0, 0),
  (30, .iload_n 2, 31, 2, 0, [], 0, 0),
  (31, .iconst 1, 32, 0, 0, [], 1, 0),
  (32, .iadd, 33, 0, 0, [], 0, 0),
  (33, .iload_n 3, 34, 3, 0, [], 0, 0),
  (34, .iadd, 35, 0, 0, [], 0, 0),
  (35, .aload_n 1, 36, 1, 0, [], 0, 0),
  (36, .iload_n 2, 37, 2, 0, [], 0, 0),
  (37, .iconst 1, 38, 0, 0, [], 1, 0),
  (38, .iadd, 39, 0, 0, [], 0, 0),
  (39, .iload 5, 41, 5, 0, [], 0, 0),
  (41, .iadd, 42, 0, 0, [], 0, 0),
  (42, .iaload, 43, 0, 0, [], 0, 0),
  (43, .iastore, 44, 0, 0, [], 0, 0),
  (44, .aload_n 1, 45, 1, 0, [], 0, 0),
  (45, .iload_n 2, 46, 2, 0, [], 0, 0),
  (46, .bipush 41, 48, 0, 0, [], 41, 0),
  (48, .iadd, 49, 0, 0, [], 0, 0),
  (49, .iload_n 3, 50, 3, 0, [], 0, 0),
  (50, .iadd, 51, 0, 0, [], 0, 0),
  (51, .aload_n 1, 52, 1, 0, [], 0, 0),
  (52, .iload_n 2, 53, 2, 0, [], 0, 0),
  (53, .bipush 41, 55, 0, 0, [], 41, 0),
  (55, .iadd, 56, 0, 0, [], 0, 0),
  (56, .iload 5, 58, 5, 0, [], 0, 0),
  (58, .iadd, 59, 0, 0, [], 0, 0),
  (59, .iaload, 60, 0, 0, [], 0, 0),
  (60, .iastore, 61, 0, 0, [], 0, 0),
  (61, .aload_n 1, 62, 1, 0, [], 0, 0),
  (62, .iload_n 2, 63, 2, 0, [], 0, 0),
  (63, .invokestatic 70, 66, 105, 0, [], 0, 0),
  (66, .iconst 1, 67, 0, 0, [], 1, 0),
  (67, .isub, 68, 0, 0, [], 0, 0),
  (68, .istore 6, 70, 6, 0, [], 0, 0),
  (70, .iload 6, 72, 6, 0, [], 0, 0),
  (72, .ifCond .le 54, 75, 126, 0, [], 0, 0),
  (75, .aload_n 0, 76, 0, 0, [], 0, 0),
  (76, .aload_n 1, 77, 1, 0, [], 0, 0),
  (77, .iload_n 2, 78, 2, 0, [], 0, 0),
  (78, .iload 6, 80, 6, 0, [], 0, 0),
  (80, .iload 5, 82, 5, 0, [], 0, 0),
  (82, .iconst 1, 83, 0, 0, [], 1, 0),
  (83, .isub, 84, 0, 0, [], 0, 0),
  (84, .iload 5, 86, 5, 0, [], 0, 0),
  (86, .iconst 1, 87, 0, 0, [], 1, 0),
  (87, .iadd, 88, 0, 0, [], 0, 0),
  (88, .invokevirtual 74, 91, 106, 0, [], 0, 0),
  (91, .aload_n 1, 92, 1, 0, [], 0, 0),
  (92, .iload_n 2, 93, 2, 0, [], 0, 0),
  (93, .aload_n 0, 94, 0, 0, [], 0, 0),
  (94, .getfield 60, 97, 6, 21, [], 0, 0),
  (97, .aload_n 0, 98, 0, 0, [], 0, 0),
  (98, .getfield 63, 101, 6, 22, [], 0, 0),
  (101, .iload 6, 103, 6, 0, [], 0, 0),
  (103, .iconst 1, 104, 0, 0, [], 1, 0),
  (104, .isub, 105, 0, 0, [], 0, 0),
  (105, .invokestatic 78, 108, 107, 0, [], 0, 0),
  (108, .iconst 1, 109, 0, 0, [], 1, 0),
  (109, .if_icmp .ne 11, 112, 120, 0, [], 0, 0),
  (112, .aload_n 0, 113, 0, 0, [], 0, 0),
  (113, .aload_n 1, 114, 1, 0, [], 0, 0),
  (114, .iload_n 2, 115, 2, 0, [], 0, 0),
  (115, .iload 6, 117, 6, 0, [], 0, 0),
  (117, .invokevirtual 96, 120, 112, 0, [], 0, 0),
  (120, .iinc 6 (-1), 123, 6, 0, [], (-1), 0),
  (123, .goto (-53), 126, 70, 0, [], 0, 0),
  (126, .iload 5, 128, 5, 0, [], 0, 0),
  (128, .iconst 1, 129, 0, 0, [], 1, 0),
  (129, .iadd, 130, 0, 0, [], 0, 0),
  (130, .istore 6, 132, 6, 0, [], 0, 0),
  (132, .iload 6, 134, 6, 0, [], 0, 0),
  (134, .aload_n 1, 135, 1, 0, [], 0, 0),
  (135, .iload_n 2, 136, 2, 0, [], 0, 0),
  (136, .iaload, 137, 0, 0, [], 0, 0),
  (137, .if_icmp .ge 20, 140, 157, 0, [], 0, 0),
  (140, .aload_n 1, 141, 1, 0, [], 0, 0),
  (141, .iload_n 2, 142, 2, 0, [], 0, 0),
  (142, .iload 6, 144, 6, 0, [], 0, 0),
  (144, .iconst 1, 145, 0, 0, [], 1, 0),
  (145, .isub, 146, 0, 0, [], 0, 0),
  (146, .iload 6, 148, 6, 0, [], 0, 0),
  (148, .invokestatic 86, 151, 109, 0, [], 0, 0),
  (151, .iinc 6 1, 154, 6, 0, [], 1, 0),
  (154, .goto (-22), 157, 132, 0, [], 0, 0),
  (157, .aload_n 1, 158, 1, 0, [], 0, 0),
  (158, .iload_n 2, 159, 2, 0, [], 0, 0),
  (159, .dup2, 160, 0, 0, [], 0, 0),
  (160, .iaload, 161, 0, 0, [], 0, 0),
  (161, .iconst 1, 162, 0, 0, [], 1, 0),
  (162, .isub, 163, 0, 0, [], 0, 0),
  (163, .iastore, 164, 0, 0, [], 0, 0),
  (164, .iload 4, 166, 4, 0, [], 0, 0),
  (166, .ireturn, 167, 0, 0, [], 0, 0)]
/-- yX6_help -/
def P112 : List En := [(0, .aload_n 0, 1, 0, 0, [], 0, 0),
  (1, .getfield 63, 4, 6, 22, [], 0, 0),
  (4, .aload_n 1, 5, 1, 0, [], 0, 0),
  (5, .iload_n 2, 6, 2, 0, [], 0, 0),
  (6, .iaload, 7, 0, 0, [], 0, 0),
  (7, .if_icmp .ge 22, 10, 29, 0, [], 0, 0),
  (10, .aload_n 1, 11, 1, 0, [], 0, 0),
  (11, .iload_n 2, 12, 2, 0, [], 0, 0),
  (12, .bipush 81, 14, 0, 0, [], 81, 0),
  (14, .iadd, 15, 0, 0, [], 0, 0),
  (15, .aload_n 0, 16, 0, 0, [], 0, 0),
  (16, .getfield 63, 19, 6, 22, [], 0, 0),
  (19, .iadd, 20, 0, 0, [], 0, 0),
  (20, .iaload, 21, 0, 0, [], 0, 0),
  (21, .iload_n 3, 22, 3, 0, [], 0, 0),
  (22, .if_icmp .ne 7, 25, 29, 0, [], 0, 0),
  (25, .iconst 1, 26, 0, 0, [], 1, 0),
  (26, .goto 4, 29, 30, 0, [], 0, 0),
  (29, .iconst 0, 30, 0, 0, [], 0, 0),
  (30, .istore 4, 32, 4, 0, [], 0, 0),
  (32, .iload 4, 34, 4, 0, [], 0, 0),
  (34, .ifCond .eq 10, 37, 44, 0, [], 0, 0),
  (37, .aload_n 0, 38, 0, 0, [], 0, 0),
  (38, .getfield 63, 41, 6, 22, [], 0, 0),
  (41, .goto 7, 44, 48, 0, [], 0, 0),
  (44, .aload_n 0, 45, 0, 0, [], 0, 0),
  (45, .getfield 60, 48, 6, 21, [], 0, 0),
  (48, .istore 5, 50, 5, 0, [], 0, 0),
  (50, .aload_n 0, 51, 0, 0, [], 0, 0),
  (51, .aload_n 1, 52, 1, 0, [], 0, 0),
  (52, .iload_n 2, 53, 2, 0, [], 0, 0),
  (53, .iload_n 3, 54, 3, 0, [], 0, 0),
  (54, .iload 5, 56, 5, 0, [], 0, 0),
  (56, .iconst 1, 57, 0, 0, [], 1, 0),
  (57, .isub, 58, 0, 0, [], 0, 0),
  (58, .iload 5, 60, 5, 0, [], 0, 0),
  (60, .iconst 1, 61, 0, 0, [], 1, 0),
  (61, .iadd, 62, 0, 0, [], 0, 0),
  (62, .invokevirtual 74, 65, 106, 0, [], 0, 0),
  (65, .iload 4, 67, 4, 0, [], 0, 0),
  (67, .ifCond .eq 8, 70, 75, 0, [], 0, 0),
  (70, .iload 5, 72, 5, 0, [], 0, 0),
  (72, .goto 7, 75, 79, 0, [], 0, 0),
  (75, .aload_n 0, 76, 0, 0, [], 0, 0),
  (76, .getfield 60, 79, 6, 21, [], 0, 0),
  (79, .istore 6, 81, 6, 0, [], 0, 0),
  (81, .iload 4, 83, 4, 0, [], 0, 0),
  (83, .ifCond .eq 10, 86, 93, 0, [], 0, 0),
  (86, .aload_n 0, 87, 0, 0, [], 0, 0),
  (87, .getfield 63, 90, 6, 22, [], 0, 0),
  (90, .goto 5, 93, 95, 0, [], 0, 0),
  (93, .iload 5, 95, 5, 0, [], 0, 0),
  (95, .istore 7, 97, 7, 0, [], 0, 0),
  (97, .aload_n 1, 98, 1, 0, [], 0, 0),
  (98, .iload_n 2, 99, 2, 0, [], 0, 0),
  (99, .iload 6, 101, 6, 0, [], 0, 0),
  (101, .iload 7, 103, 7, 0, [], 0, 0),
  (103, .iload_n 3, 104, 3, 0, [], 0, 0),
  (104, .iconst 1, 105, 0, 0, [], 1, 0),
  (105, .isub, 106, 0, 0, [], 0, 0),
  (106, .invokestatic 78, 109, 107, 0, [], 0, 0),
  (109, .istore 8, 111, 8, 0, [], 0, 0),
  (111, .aload_n 1, 112, 1, 0, [], 0, 0),
  (112, .iload_n 2, 113, 2, 0, [], 0, 0),
  (113, .iload 6, 115, 6, 0, [], 0, 0),
  (115, .iload 7, 117, 7, 0, [], 0, 0),
  (117, .iload_n 3, 118, 3, 0, [], 0, 0),
  (118, .iconst 1, 119, 0, 0, [], 1, 0),
  (119, .isub, 120, 0, 0, [], 0, 0),
  (120, .iload 4, 122, 4, 0, [], 0, 0),
  (122, .ifCond .eq 7, 125, 129, 0, [], 0, 0),
  (125, .iconst 0, 126, 0, 0, [], 0, 0),
  (126, .goto 7, 129, 133, 0, [], 0, 0),
  (129, .iload 8, 131, 8, 0, [], 0, 0),
  (131, .iconst 1, 132, 0, 0, [], 1, 0),
  (132, .isub, 133, 0, 0, [], 0, 0),
  (133, .invokestatic 82, 136, 108, 0, [], 0, 0),
  (136, .istore 9, 138, 9, 0, [], 0, 0),
  (138, .aload_n 1, 139, 1, 0, [], 0, 0),
  (139, .iload_n 2, 140, 2, 0, [], 0, 0),
  (140, .bipush 81, 142, 0, 0, [], 81, 0),
  (142, .iadd, 143, 0, 0, [], 0, 0),
  (143, .iload 5, 145, 5, 0, [], 0, 0),
  (145, .iadd, 146, 0, 0, [], 0, 0),
  (146, .dup2, 147, 0, 0, [], 0, 0),
  (147, .iaload, 148, 0, 0, [], 0, 0),
  (148, .iconst 1, 149, 0, 0, [], 1, 0),
  (149, .isub, 150, 0, 0, [], 0, 0),
  (150, .iastore, 151, 0, 0, [], 0, 0),
  (151, .iload 8, 153, 8, 0, [], 0, 0),
  (153, .iconst 1, 154, 0, 0, [], 1, 0),
  (154, .if_icmp .le 16, 157, 170, 0, [], 0, 0),
  (157, .aload_n 1, 158, 1, 0, [], 0, 0),
  (158, .iload_n 2, 159, 2, 0, [], 0, 0),
  (159, .bipush 81, 161, 0, 0, [], 81, 0),
  (161, .iadd, 162, 0, 0, [], 0, 0),
  (162, .iload 9, 164, 9, 0, [], 0, 0),
  (164, .iadd, 165, 0, 0, [], 0, 0),
  (165, .dup2, 166, 0, 0, [], 0, 0),
  (166, .iaload, 167, 0, 0, [], 0, 0),
  (167, .iconst 1, 168, 0, 0, [], 1, 0),
  (168, .iadd, 169, 0, 0, [], 0, 0),
  (169, .iastore, 170, 0, 0, [], 0, 0),
  (170, .return_, 171, 0, 0, [], 0, 0)]
/-- yX6_cut -/
def P113 : List En := [(0, .aload_n 0, 1, 0, 0, [], 0, 0),
  (1, .iconst 0, 2, 0, 0, [], 0, 0),
  (2, .putfield 50, 5, 6, 0, [], 0, 0),
  (5, .iload_n 1, 6, 1, 0, [], 0, 0),
  (6, .invokestatic 144, 9, 97, 0, [], 0, 0),
  (9, .ifCond .ne 17, 12, 26, 0, [], 0, 0),
  (12, .iload_n 2, 13, 2, 0, [], 0, 0),
  (13, .invokestatic 150, 16, 100, 0, [], 0, 0),
  (16, .ifCond .ne 10, 19, 26, 0, [], 0, 0),
  (19, .iload_n 3, 20, 3, 0, [], 0, 0),
  (20, .invokestatic 150, 23, 100, 0, [], 0, 0),
  (23, .ifCond .eq 5, 26, 28, 0, [], 0, 0),
  (26, .iconst (-1), 27, 0, 0, [], (-1), 0),
  (27, .ireturn, 28, 0, 0, [], 0, 0),
  (28, .iload_n 2, 29, 2, 0, [], 0, 0),
  (29, .iload_n 3, 30, 3, 0, [], 0, 0),
  (30, .if_icmp .le 6, 33, 36, 0, [], 0, 0),
  (33, .bipush (-2), 35, 0, 0, [], (-2), 0),
  (35, .ireturn, 36, 0, 0, [], 0, 0),
  (36, .bipush 121, 38, 0, 0, [], 121, 0),
  (38, .iload_n 1, 39, 1, 0, [], 0, 0),
  (39, .imul, 40, 0, 0, [], 0, 0),
  (40, .istore 4, 42, 4, 0, [], 0, 0),
  (42, .bipush 121, 44, 0, 0, [], 121, 0),
  (44, .iload 4, 46, 4, 0, [], 0, 0),
  (46, .isub, 47, 0, 0, [], 0, 0),
  (47, .istore 5, 49, 5, 0, [], 0, 0),
  (49, .aload_n 0, 50, 0, 0, [], 0, 0),
  (50, .getfield 19, 53, 6, 8, [], 0, 0),
  (53, .iload 5, 55, 5, 0, [], 0, 0),
  (55, .iaload, 56, 0, 0, [], 0, 0),
  (56, .aload_n 0, 57, 0, 0, [], 0, 0),
  (57, .iload 4, 59, 4, 0, [], 0, 0),
  (59, .iload 5, 61, 5, 0, [], 0, 0),
  (61, .iload_n 2, 62, 2, 0, [], 0, 0),
  (62, .iload_n 3, 63, 3, 0, [], 0, 0),
  (63, .iconst 1, 64, 0, 0, [], 1, 0),
  (64, .invokevirtual 162, 67, 114, 0, [], 0, 0),
  (67, .iadd, 68, 0, 0, [], 0, 0),
  (68, .bipush 40, 70, 0, 0, [], 40, 0),
  (70, .if_icmp .le 6, 73, 76, 0, [], 0, 0),
  (73, .bipush (-4), 75, 0, 0, [], (-4), 0),
  (75, .ireturn, 76, 0, 0, [], 0, 0),
  (76, .aload_n 0, 77, 0, 0, [], 0, 0),
  (77, .invokevirtual 147, 80, 98, 0, [], 0, 0),
  (80, .aload_n 0, 81, 0, 0, [], 0, 0),
  (81, .iload 4, 83, 4, 0, [], 0, 0),
  (83, .iload 5, 85, 5, 0, [], 0, 0),
  (85, .iload_n 2, 86, 2, 0, [], 0, 0),
  (86, .iload_n 3, 87, 3, 0, [], 0, 0),
  (87, .iconst 0, 88, 0, 0, [], 0, 0),
  (88, .invokevirtual 162, 91, 114, 0, [], 0, 0),
  (91, .istore 6, 93, 6, 0, [], 0, 0),
  (93, .iload_n 2, 94, 2, 0, [], 0, 0),
  (94, .istore 7, 96, 7, 0, [], 0, 0),
  (96, .iload 7, 98, 7, 0, [], 0, 0),
  (98, .iload_n 3, 99, 3, 0, [], 0, 0),
  (99, .if_icmp .gt 54, 102, 153, 0, [], 0, 0),
  (102, .aload_n 0, 103, 0, 0, [], 0, 0),
  (103, .getfield 19, 106, 6, 8, [], 0, 0),
  (106, .iload 4, 108, 4, 0, [], 0, 0),
  (108, .iload 7, 110, 7, 0, [], 0, 0),
  (110, .invokestatic 90, 113, 101, 0, [], 0, 0),
  (113, .istore 8, 115, 8, 0, [], 0, 0),
  (115, .iload 8, 117, 8, 0, [], 0, 0),
  (117, .bipush (-9), 119, 0, 0, [], (-9), 0),
  (119, .if_icmp .eq 28, 122, 147, 0, [], 0, 0),
  (122, .aload_n 0, 123, 0, 0, [], 0, 0),
  (123, .aload_n 0, 124, 0, 0, [], 0, 0),
  (124, .getfield 19, 127, 6, 8, [], 0, 0),
  (127, .iload 5, 129, 5, 0, [], 0, 0),
  (129, .iload 7, 131, 7, 0, [], 0, 0),
  (131, .aload_n 0, 132, 0, 0, [], 0, 0),
  (132, .aload_n 0, 133, 0, 0, [], 0, 0),
  (133, .getfield 19, 136, 6, 8, [], 0, 0),
  (136, .iload 4, 138, 4, 0, [], 0, 0),
  (138, .iload 8, 140, 8, 0, [], 0, 0),
  (140, .invokevirtual 159, 143, 111, 0, [], 0, 0),
  (143, .invokevirtual 155, 146, 102, 0, [], 0, 0),
  (146, .pop, 147, 0, 0, [], 0, 0),
  (147, .iinc 7 1, 150, 7, 0, [], 1, 0),
  (150, .goto (-54), 153, 96, 0, [], 0, 0),
  (153, .iload 6, 155, 6, 0, [], 0, 0),
  (155, .ireturn, 156, 0, 0, [], 0, 0)]
/-- yX6_inRange -/
def P114 : List En := [(0, .iconst 0, 1, 0, 0, [], 0, 0),
  (1, .istore 6, 3, 6, 0, [], 0, 0),
  (3, .iconst 0, 4, 0, 0, [], 0, 0),
  (4, .istore 7, 6, 7, 0, [], 0, 0),
  (6, .iload 7, 8, 7, 0, [], 0, 0),
  (8, .aload_n 0, 9, 0, 0, [], 0, 0),
  (9, .getfield 19, 12, 6, 8, [], 0, 0),
  (12, .iload_n 1, 13, 1, 0, [], 0, 0),
  (13, .iaload, 14, 0, 0, [], 0, 0),
  (14, .if_icmp .ge 66, 17, 80, 0, [], 0, 0),
  (17, .aload_n 0, 18, 0, 0, [], 0, 0),
  (18, .getfield 19, 21, 6, 8, [], 0, 0),
  (21, .iload_n 1, 22, 1, 0, [], 0, 0),
  (22, .iconst 1, 23, 0, 0, [], 1, 0),
  (23, .iadd, 24, 0, 0, [], 0, 0),
  (24, .iload 7, 26, 7, 0, [], 0, 0),
  (26, .iadd, 27, 0, 0, [], 0, 0),
  (27, .iaload, 28, 0, 0, [], 0, 0),
  (28, .istore 8, 30, 8, 0, [], 0, 0),
  (30, .iload 6, 32, 6, 0, [], 0, 0),
  (32, .iload 8, 34, 8, 0, [], 0, 0),
  (34, .i2l, 35, 0, 0, [], 0, 0),
  (35, .iload_n 3, 36, 3, 0, [], 0, 0),
  (36, .i2l, 37, 0, 0, [], 0, 0),
  (37, .iload 4, 39, 4, 0, [], 0, 0),
  (39, .i2l, 40, 0, 0, [], 0, 0),
  (40, .invokestatic 54, 43, 89, 0, [], 0, 0),
  (43, .ifCond .eq 27, 46, 70, 0, [], 0, 0),
  (46, .iload 5, 48, 5, 0, [], 0, 0),
  (48, .ifCond .eq 18, 51, 66, 0, [], 0, 0),
  (51, .aload_n 0, 52, 0, 0, [], 0, 0),
  (52, .getfield 19, 55, 6, 8, [], 0, 0),
  (55, .iload_n 2, 56, 2, 0, [], 0, 0),
  (56, .iload 8, 58, 8, 0, [], 0, 0),
  (58, .invokestatic 90, 61, 101, 0, [], 0, 0),
  (61, .bipush (-9), 63, 0, 0, [], (-9), 0),
  (63, .if_icmp .ne 7, 66, 70, 0, [], 0, 0),
  (66, .iconst 1, 67, 0, 0, [], 1, 0),
  (67, .goto 4, 70, 71, 0, [], 0, 0),
  (70, .iconst 0, 71, 0, 0, [], 0, 0),
  (71, .iadd, 72, 0, 0, [], 0, 0),
  (72, .istore 6, 74, 6, 0, [], 0, 0),
  (74, .iinc 7 1, 77, 7, 0, [], 1, 0),
  (77, .goto (-71), 80, 6, 0, [], 0, 0),
  (80, .iload 6, 82, 6, 0, [], 0, 0),
  (82, .ireturn, 83, 0, 0, [], 0, 0)]
/-- yX6_undo -/
def P115 : List En := [(0, .aload_n 0, 1, 0, 0, [], 0, 0),
  (1, .iconst 0, 2, 0, 0, [], 0, 0),
  (2, .putfield 50, 5, 6, 0, [], 0, 0),
  (5, .aload_n 0, 6, 0, 0, [], 0, 0),
  (6, .getfield 141, 9, 6, 11, [], 0, 0),
  (9, .ifCond .ne 6, 12, 15, 0, [], 0, 0),
  (12, .bipush (-3), 14, 0, 0, [], (-3), 0),
  (14, .ireturn, 15, 0, 0, [], 0, 0),
  (15, .aload_n 0, 16, 0, 0, [], 0, 0),
  (16, .dup, 17, 0, 0, [], 0, 0),
  (17, .getfield 141, 20, 6, 11, [], 0, 0),
  (20, .iconst 1, 21, 0, 0, [], 1, 0),
  (21, .isub, 22, 0, 0, [], 0, 0),
  (22, .putfield 141, 25, 6, 11, [], 0, 0),
  (25, .iconst 0, 26, 0, 0, [], 0, 0),
  (26, .istore_n 1, 27, 1, 0, [], 0, 0),
  (27, .iload_n 1, 28, 1, 0, [], 0, 0),
  (28, .sipush 242, 31, 0, 0, [], 242, 0),
  (31, .if_icmp .ge 30, 34, 61, 0, [], 0, 0),
  (34, .aload_n 0, 35, 0, 0, [], 0, 0),
  (35, .getfield 19, 38, 6, 8, [], 0, 0),
  (38, .iload_n 1, 39, 1, 0, [], 0, 0),
  (39, .aload_n 0, 40, 0, 0, [], 0, 0),
  (40, .getfield 25, 43, 6, 10, [], 0, 0),
  (43, .sipush 242, 46, 0, 0, [], 242, 0),
  (46, .aload_n 0, 47, 0, 0, [], 0, 0),
  (47, .getfield 141, 50, 6, 11, [], 0, 0),
  (50, .imul, 51, 0, 0, [], 0, 0),
  (51, .iload_n 1, 52, 1, 0, [], 0, 0),
  (52, .iadd, 53, 0, 0, [], 0, 0),
  (53, .iaload, 54, 0, 0, [], 0, 0),
  (54, .iastore, 55, 0, 0, [], 0, 0),
  (55, .iinc 1 1, 58, 1, 0, [], 1, 0),
  (58, .goto (-31), 61, 27, 0, [], 0, 0),
  (61, .aload_n 0, 62, 0, 0, [], 0, 0),
  (62, .getfield 141, 65, 6, 11, [], 0, 0),
  (65, .ireturn, 66, 0, 0, [], 0, 0)]
/-- yX6_about -/
def P116 : List En := [(0, .aload_n 0, 1, 0, 0, [], 0, 0),
  (1, .iconst 0, 2, 0, 0, [], 0, 0),
  (2, .putfield 50, 5, 6, 0, [], 0, 0),
  (5, .iload_n 1, 6, 1, 0, [], 0, 0),
  (6, .invokestatic 144, 9, 97, 0, [], 0, 0),
  (9, .ifCond .eq 5, 12, 14, 0, [], 0, 0),
  (12, .iconst (-1), 13, 0, 0, [], (-1), 0),
  (13, .ireturn, 14, 0, 0, [], 0, 0),
  (14, .bipush 121, 16, 0, 0, [], 121, 0),
  (16, .iload_n 1, 17, 1, 0, [], 0, 0),
  (17, .imul, 18, 0, 0, [], 0, 0),
  (18, .istore_n 3, 19, 3, 0, [], 0, 0),
  (19, .iload_n 2, 20, 2, 0, [], 0, 0),
  (20, .tableswitch 130 0 5 #[40, 47, 56, 65, 88, 120], 60, 150, 0, [60, 67, 76, 85, 108, 140], 0, 0),
  (60, .aload_n 0, 61, 0, 0, [], 0, 0),
  (61, .getfield 19, 64, 6, 8, [], 0, 0),
  (64, .iload_n 3, 65, 3, 0, [], 0, 0),
  (65, .iaload, 66, 0, 0, [], 0, 0),
  (66, .ireturn, 67, 0, 0, [], 0, 0),
  (67, .aload_n 0, 68, 0, 0, [], 0, 0),
  (68, .getfield 19, 71, 6, 8, [], 0, 0),
  (71, .iload_n 3, 72, 3, 0, [], 0, 0),
  (72, .invokestatic 70, 75, 105, 0, [], 0, 0),
  (75, .ireturn, 76, 0, 0, [], 0, 0),
  (76, .aload_n 0, 77, 0, 0, [], 0, 0),
  (77, .getfield 19, 80, 6, 8, [], 0, 0),
  (80, .iload_n 3, 81, 3, 0, [], 0, 0),
  (81, .invokestatic 166, 84, 117, 0, [], 0, 0),
  (84, .ireturn, 85, 0, 0, [], 0, 0),
  (85, .aload_n 0, 86, 0, 0, [], 0, 0),
  (86, .getfield 19, 89, 6, 8, [], 0, 0),
  (89, .iload_n 3, 90, 3, 0, [], 0, 0),
  (90, .iaload, 91, 0, 0, [], 0, 0),
  (91, .ifCond .ne 8, 94, 99, 0, [], 0, 0),
  (94, .bipush (-9), 96, 0, 0, [], (-9), 0),
  (96, .goto 11, 99, 107, 0, [], 0, 0),
  (99, .aload_n 0, 100, 0, 0, [], 0, 0),
  (100, .getfield 19, 103, 6, 8, [], 0, 0),
  (103, .iload_n 3, 104, 3, 0, [], 0, 0),
  (104, .iconst 1, 105, 0, 0, [], 1, 0),
  (105, .iadd, 106, 0, 0, [], 0, 0),
  (106, .iaload, 107, 0, 0, [], 0, 0),
  (107, .ireturn, 108, 0, 0, [], 0, 0),
  (108, .aload_n 0, 109, 0, 0, [], 0, 0),
  (109, .getfield 19, 112, 6, 8, [], 0, 0),
  (112, .iload_n 3, 113, 3, 0, [], 0, 0),
  (113, .iaload, 114, 0, 0, [], 0, 0),
  (114, .ifCond .ne 8, 117, 122, 0, [], 0, 0),
  (117, .bipush (-9), 119, 0, 0, [], (-9), 0),
  (119, .goto 20, 122, 139, 0, [], 0, 0),
  (122, .aload_n 0, 123, 0, 0, [], 0, 0),
  (123, .getfield 19, 126, 6, 8, [], 0, 0),
  (126, .iload_n 3, 127, 3, 0, [], 0, 0),
  (127, .iconst 1, 128, 0, 0, [], 1, 0),
  (128, .iadd, 129, 0, 0, [], 0, 0),
  (129, .aload_n 0, 130, 0, 0, [], 0, 0),
  (130, .getfield 19, 133, 6, 8, [], 0, 0),
  (133, .iload_n 3, 134, 3, 0, [], 0, 0),
  (134, .iaload, 135, 0, 0, [], 0, 0),
  (135, .iadd, 136, 0, 0, [], 0, 0),
  (136, .iconst 1, 137, 0, 0, [], 1, 0),
  (137, .isub, 138, 0, 0, [], 0, 0),
  (138, .iaload, 139, 0, 0, [], 0, 0),
  (139, .ireturn, 140, 0, 0, [], 0, 0),
  (140, .aload_n 0, 141, 0, 0, [], 0, 0),
  (141, .aload_n 0, 142, 0, 0, [], 0, 0),
  (142, .getfield 19, 145, 6, 8, [], 0, 0),
  (145, .iload_n 3, 146, 3, 0, [], 0, 0),
  (146, .invokevirtual 169, 149, 118, 0, [], 0, 0),
  (149, .ireturn, 150, 0, 0, [], 0, 0),
  (150, .bipush (-2), 152, 0, 0, [], (-2), 0),
  (152, .ireturn, 153, 0, 0, [], 0, 0)]
/-- yX6_heights -/
def P117 : List En := [(0, .iconst 0, 1, 0, 0, [], 0, 0),
  (1, .istore_n 2, 2, 2, 0, [], 0, 0),
  (2, .iconst 0, 3, 0, 0, [], 0, 0),
  (3, .istore_n 3, 4, 3, 0, [], 0, 0),
  (4, .iload_n 3, 5, 3, 0, [], 0, 0),
  (5, .aload_n 0, 6, 0, 0, [], 0, 0),
  (6, .iload_n 1, 7, 1, 0, [], 0, 0),
  (7, .iaload, 8, 0, 0, [], 0, 0),
  (8, .if_icmp .ge 20, 11, 28, 0, [], 0, 0),
  (11, .iload_n 2, 12, 2, 0, [], 0, 0),
  (12, .aload_n 0, 13, 0, 0, [], 0, 0),
  (13, .iload_n 1, 14, 1, 0, [], 0, 0),
  (14, .bipush 81, 16, 0, 0, [], 81, 0),
  (16, .iadd, 17, 0, 0, [], 0, 0),
  (17, .iload_n 3, 18, 3, 0, [], 0, 0),
  (18, .iadd, 19, 0, 0, [], 0, 0),
  (19, .iaload, 20, 0, 0, [], 0, 0),
  (20, .iadd, 21, 0, 0, [], 0, 0),
  (21, .istore_n 2, 22, 2, 0, [], 0, 0),
  (22, .iinc 3 1, 25, 3, 0, [], 1, 0),
  (25, .goto (-21), 28, 4, 0, [], 0, 0),
  (28, .iload_n 2, 29, 2, 0, [], 0, 0),
  (29, .ireturn, 30, 0, 0, [], 0, 0)]
/-- yX6_allLooks -/
def P118 : List En := [(0, .iconst 0, 1, 0, 0, [], 0, 0),
  (1, .istore_n 3, 2, 3, 0, [], 0, 0),
  (2, .iconst 0, 3, 0, 0, [], 0, 0),
  (3, .istore 4, 5, 4, 0, [], 0, 0),
  (5, .iload 4, 7, 4, 0, [], 0, 0),
  (7, .aload_n 1, 8, 1, 0, [], 0, 0),
  (8, .iload_n 2, 9, 2, 0, [], 0, 0),
  (9, .iaload, 10, 0, 0, [], 0, 0),
  (10, .if_icmp .ge 26, 13, 36, 0, [], 0, 0),
  (13, .iload_n 3, 14, 3, 0, [], 0, 0),
  (14, .aload_n 0, 15, 0, 0, [], 0, 0),
  (15, .aload_n 1, 16, 1, 0, [], 0, 0),
  (16, .iload_n 2, 17, 2, 0, [], 0, 0),
  (17, .aload_n 1, 18, 1, 0, [], 0, 0),
  (18, .iload_n 2, 19, 2, 0, [], 0, 0),
  (19, .iconst 1, 20, 0, 0, [], 1, 0),
  (20, .iadd, 21, 0, 0, [], 0, 0),
  (21, .iload 4, 23, 4, 0, [], 0, 0),
  (23, .iadd, 24, 0, 0, [], 0, 0),
  (24, .iaload, 25, 0, 0, [], 0, 0),
  (25, .invokevirtual 108, 28, 119, 0, [], 0, 0),
  (28, .iadd, 29, 0, 0, [], 0, 0),
  (29, .istore_n 3, 30, 3, 0, [], 0, 0),
  (30, .iinc 4 1, 33, 4, 0, [], 1, 0),
  (33, .goto (-28), 36, 5, 0, [], 0, 0),
  (36, .iload_n 3, 37, 3, 0, [], 0, 0),
  (37, .ireturn, 38, 0, 0, [], 0, 0)]
/-- yX6_search -/
def P119 : List En := [(0, .iconst 0, 1, 0, 0, [], 0, 0),
  (1, .istore 4, 3, 4, 0, [], 0, 0),
  (3, .iconst (-1), 4, 0, 0, [], (-1), 0),
  (4, .istore 5, 6, 5, 0, [], 0, 0),
  (6, .aload_n 1, 7, 1, 0, [], 0, 0),
  (7, .iload_n 2, 8, 2, 0, [], 0, 0),
  (8, .invokestatic 70, 11, 105, 0, [], 0, 0),
  (11, .iconst 1, 12, 0, 0, [], 1, 0),
  (12, .isub, 13, 0, 0, [], 0, 0),
  (13, .istore 6, 15, 6, 0, [], 0, 0),
  (15, .aload_n 0, 16, 0, 0, [], 0, 0),
  (16, .iconst 0, 17, 0, 0, [], 0, 0),
  (17, .putfield 100, 20, 6, 20, [], 0, 0),
  (20, .iload 6, 22, 6, 0, [], 0, 0),
  (22, .ifCond .lt 109, 25, 131, 0, [], 0, 0),
  (25, .aload_n 0, 26, 0, 0, [], 0, 0),
  (26, .getfield 100, 29, 6, 20, [], 0, 0),
  (29, .ifCond .ne 102, 32, 131, 0, [], 0, 0),
  (32, .aload_n 1, 33, 1, 0, [], 0, 0),
  (33, .iload_n 2, 34, 2, 0, [], 0, 0),
  (34, .iload 5, 36, 5, 0, [], 0, 0),
  (36, .iconst 1, 37, 0, 0, [], 1, 0),
  (37, .iadd, 38, 0, 0, [], 0, 0),
  (38, .iload 6, 40, 6, 0, [], 0, 0),
  (40, .invokestatic 104, 43, 120, 0, [], 0, 0),
  (43, .istore 7, 45, 7, 0, [], 0, 0),
  (45, .iload 7, 47, 7, 0, [], 0, 0),
  (47, .aload_n 1, 48, 1, 0, [], 0, 0),
  (48, .iload_n 2, 49, 2, 0, [], 0, 0),
  (49, .iaload, 50, 0, 0, [], 0, 0),
  (50, .if_icmp .ge 7, 53, 57, 0, [], 0, 0),
  (53, .iconst 1, 54, 0, 0, [], 1, 0),
  (54, .goto 4, 57, 58, 0, [], 0, 0),
  (57, .iconst 0, 58, 0, 0, [], 0, 0),
  (58, .istore 8, 60, 8, 0, [], 0, 0),
  (60, .iload 4, 62, 4, 0, [], 0, 0),
  (62, .iload 8, 64, 8, 0, [], 0, 0),
  (64, .ifCond .eq 7, 67, 71, 0, [], 0, 0),
  (67, .iconst 1, 68, 0, 0, [], 1, 0),
  (68, .goto 4, 71, 72, 0, [], 0, 0),
  (71, .iconst 0, 72, 0, 0, [], 0, 0),
  (72, .iadd, 73, 0, 0, [], 0, 0),
  (73, .istore 4, 75, 4, 0, [], 0, 0),
  (75, .aload_n 0, 76, 0, 0, [], 0, 0),
  (76, .iload 8, 78, 8, 0, [], 0, 0),
  (78, .ifCond .eq 19, 81, 97, 0, [], 0, 0),
  (81, .aload_n 1, 82, 1, 0, [], 0, 0),
  (82, .iload_n 2, 83, 2, 0, [], 0, 0),
  (83, .iconst 1, 84, 0, 0, [], 1, 0),
  (84, .iadd, 85, 0, 0, [], 0, 0),
  (85, .iload 7, 87, 7, 0, [], 0, 0),
  (87, .iadd, 88, 0, 0, [], 0, 0),
  (88, .iaload, 89, 0, 0, [], 0, 0),
  (89, .iload_n 3, 90, 3, 0, [], 0, 0),
  (90, .if_icmp .ne 7, 93, 97, 0, [], 0, 0),
  (93, .iconst 1, 94, 0, 0, [], 1, 0),
  (94, .goto 4, 97, 98, 0, [], 0, 0),
  (97, .iconst 0, 98, 0, 0, [], 0, 0),
  (98, .putfield 100, 101, 6, 20, [], 0, 0),
  (101, .iload 8, 103, 8, 0, [], 0, 0),
  (103, .ifCond .eq 22, 106, 125, 0, [], 0, 0),
  (106, .aload_n 1, 107, 1, 0, [], 0, 0),
  (107, .iload_n 2, 108, 2, 0, [], 0, 0),
  (108, .iconst 1, 109, 0, 0, [], 1, 0),
  (109, .iadd, 110, 0, 0, [], 0, 0),
  (110, .iload 7, 112, 7, 0, [], 0, 0),
  (112, .iadd, 113, 0, 0, [], 0, 0),
  (113, .iaload, 114, 0, 0, [], 0, 0),
  (114, .iload_n 3, 115, 3, 0, [], 0, 0),
  (115, .if_icmp .ge 10, 118, 125, 0, [], 0, 0),
  (118, .iload 7, 120, 7, 0, [], 0, 0),
  (120, .istore 5, 122, 5, 0, [], 0, 0),
  (122, .goto 6, 125, 128, 0, [], 0, 0),
  (125, .iinc 6 (-1), 128, 6, 0, [], (-1), 0),
  (128, .goto (-108), 131, 20, 0, [], 0, 0),
  (131, .iload 4, 133, 4, 0, [], 0, 0),
  (133, .ireturn, 134, 0, 0, [], 0, 0)]
/-- yX6_nextOn -/
def P120 : List En := [(0, .iload_n 2, 1, 2, 0, [], 0, 0),
  (1, .istore 4, 3, 4, 0, [], 0, 0),
  (3, .iload 4, 5, 4, 0, [], 0, 0),
  (5, .aload_n 0, 6, 0, 0, [], 0, 0),
  (6, .iload_n 1, 7, 1, 0, [], 0, 0),
  (7, .iaload, 8, 0, 0, [], 0, 0),
  (8, .if_icmp .ge 22, 11, 30, 0, [], 0, 0),
  (11, .aload_n 0, 12, 0, 0, [], 0, 0),
  (12, .iload_n 1, 13, 1, 0, [], 0, 0),
  (13, .bipush 81, 15, 0, 0, [], 81, 0),
  (15, .iadd, 16, 0, 0, [], 0, 0),
  (16, .iload 4, 18, 4, 0, [], 0, 0),
  (18, .iadd, 19, 0, 0, [], 0, 0),
  (19, .iaload, 20, 0, 0, [], 0, 0),
  (20, .iload_n 3, 21, 3, 0, [], 0, 0),
  (21, .if_icmp .ge 9, 24, 30, 0, [], 0, 0),
  (24, .iinc 4 1, 27, 4, 0, [], 1, 0),
  (27, .goto (-24), 30, 3, 0, [], 0, 0),
  (30, .iload 4, 32, 4, 0, [], 0, 0),
  (32, .ireturn, 33, 0, 0, [], 0, 0)]
/-- yX6_item -/
def P121 : List En := [(0, .aload_n 0, 1, 0, 0, [], 0, 0),
  (1, .iconst 0, 2, 0, 0, [], 0, 0),
  (2, .putfield 50, 5, 6, 0, [], 0, 0),
  (5, .iload_n 1, 6, 1, 0, [], 0, 0),
  (6, .invokestatic 144, 9, 97, 0, [], 0, 0),
  (9, .ifCond .ne 24, 12, 33, 0, [], 0, 0),
  (12, .iload_n 2, 13, 2, 0, [], 0, 0),
  (13, .i2l, 14, 0, 0, [], 0, 0),
  (14, .lconst 0, 15, 0, 0, [], 0, 0),
  (15, .aload_n 0, 16, 0, 0, [], 0, 0),
  (16, .getfield 19, 19, 6, 8, [], 0, 0),
  (19, .bipush 121, 21, 0, 0, [], 121, 0),
  (21, .iload_n 1, 22, 1, 0, [], 0, 0),
  (22, .imul, 23, 0, 0, [], 0, 0),
  (23, .iaload, 24, 0, 0, [], 0, 0),
  (24, .iconst 1, 25, 0, 0, [], 1, 0),
  (25, .isub, 26, 0, 0, [], 0, 0),
  (26, .i2l, 27, 0, 0, [], 0, 0),
  (27, .invokestatic 54, 30, 89, 0, [], 0, 0),
  (30, .ifCond .ne 5, 33, 35, 0, [], 0, 0),
  (33, .iconst (-1), 34, 0, 0, [], (-1), 0),
  (34, .ireturn, 35, 0, 0, [], 0, 0),
  (35, .bipush 121, 37, 0, 0, [], 121, 0),
  (37, .iload_n 1, 38, 1, 0, [], 0, 0),
  (38, .imul, 39, 0, 0, [], 0, 0),
  (39, .istore 4, 41, 4, 0, [], 0, 0),
  (41, .iload_n 3, 42, 3, 0, [], 0, 0),
  (42, .tableswitch 64 0 2 #[26, 38, 51], 68, 106, 0, [68, 80, 93], 0, 0),
  (68, .aload_n 0, 69, 0, 0, [], 0, 0),
  (69, .getfield 19, 72, 6, 8, [], 0, 0),
  (72, .iload 4, 74, 4, 0, [], 0, 0),
  (74, .iconst 1, 75, 0, 0, [], 1, 0),
  (75, .iadd, 76, 0, 0, [], 0, 0),
  (76, .iload_n 2, 77, 2, 0, [], 0, 0),
  (77, .iadd, 78, 0, 0, [], 0, 0),
  (78, .iaload, 79, 0, 0, [], 0, 0),
  (79, .ireturn, 80, 0, 0, [], 0, 0),
  (80, .aload_n 0, 81, 0, 0, [], 0, 0),
  (81, .getfield 19, 84, 6, 8, [], 0, 0),
  (84, .iload 4, 86, 4, 0, [], 0, 0),
  (86, .bipush 41, 88, 0, 0, [], 41, 0),
  (88, .iadd, 89, 0, 0, [], 0, 0),
  (89, .iload_n 2, 90, 2, 0, [], 0, 0),
  (90, .iadd, 91, 0, 0, [], 0, 0),
  (91, .iaload, 92, 0, 0, [], 0, 0),
  (92, .ireturn, 93, 0, 0, [], 0, 0),
  (93, .aload_n 0, 94, 0, 0, [], 0, 0),
  (94, .getfield 19, 97, 6, 8, [], 0, 0),
  (97, .iload 4, 99, 4, 0, [], 0, 0),
  (99, .bipush 81, 101, 0, 0, [], 81, 0),
  (101, .iadd, 102, 0, 0, [], 0, 0),
  (102, .iload_n 2, 103, 2, 0, [], 0, 0),
  (103, .iadd, 104, 0, 0, [], 0, 0),
  (104, .iaload, 105, 0, 0, [], 0, 0),
  (105, .ireturn, 106, 0, 0, [], 0, 0),
  (106, .bipush (-2), 108, 0, 0, [], (-2), 0),
  (108, .ireturn, 109, 0, 0, [], 0, 0)]
/-- yX6_get -/
def P122 : List En := [(0, .aload_n 0, 1, 0, 0, [], 0, 0),
  (1, .iconst 0, 2, 0, 0, [], 0, 0),
  (2, .putfield 50, 5, 6, 0, [], 0, 0),
  (5, .iload_n 1, 6, 1, 0, [], 0, 0),
  (6, .invokestatic 144, 9, 97, 0, [], 0, 0),
  (9, .ifCond .ne 10, 12, 19, 0, [], 0, 0),
  (12, .iload_n 2, 13, 2, 0, [], 0, 0),
  (13, .invokestatic 150, 16, 100, 0, [], 0, 0),
  (16, .ifCond .eq 5, 19, 21, 0, [], 0, 0),
  (19, .iconst (-1), 20, 0, 0, [], (-1), 0),
  (20, .ireturn, 21, 0, 0, [], 0, 0),
  (21, .aload_n 0, 22, 0, 0, [], 0, 0),
  (22, .getfield 19, 25, 6, 8, [], 0, 0),
  (25, .bipush 121, 27, 0, 0, [], 121, 0),
  (27, .iload_n 1, 28, 1, 0, [], 0, 0),
  (28, .imul, 29, 0, 0, [], 0, 0),
  (29, .iload_n 2, 30, 2, 0, [], 0, 0),
  (30, .invokestatic 90, 33, 101, 0, [], 0, 0),
  (33, .istore_n 3, 34, 3, 0, [], 0, 0),
  (34, .iload_n 3, 35, 3, 0, [], 0, 0),
  (35, .bipush (-9), 37, 0, 0, [], (-9), 0),
  (37, .if_icmp .ne 8, 40, 45, 0, [], 0, 0),
  (40, .bipush (-9), 42, 0, 0, [], (-9), 0),
  (42, .goto 17, 45, 59, 0, [], 0, 0),
  (45, .aload_n 0, 46, 0, 0, [], 0, 0),
  (46, .getfield 19, 49, 6, 8, [], 0, 0),
  (49, .bipush 121, 51, 0, 0, [], 121, 0),
  (51, .iload_n 1, 52, 1, 0, [], 0, 0),
  (52, .imul, 53, 0, 0, [], 0, 0),
  (53, .bipush 41, 55, 0, 0, [], 41, 0),
  (55, .iadd, 56, 0, 0, [], 0, 0),
  (56, .iload_n 3, 57, 3, 0, [], 0, 0),
  (57, .iadd, 58, 0, 0, [], 0, 0),
  (58, .iaload, 59, 0, 0, [], 0, 0),
  (59, .ireturn, 60, 0, 0, [], 0, 0)]
/-- yX6_span -/
def P123 : List En := [(0, .aload_n 0, 1, 0, 0, [], 0, 0),
  (1, .iconst 0, 2, 0, 0, [], 0, 0),
  (2, .putfield 50, 5, 6, 0, [], 0, 0),
  (5, .iload_n 1, 6, 1, 0, [], 0, 0),
  (6, .invokestatic 144, 9, 97, 0, [], 0, 0),
  (9, .ifCond .ne 10, 12, 19, 0, [], 0, 0),
  (12, .iload_n 2, 13, 2, 0, [], 0, 0),
  (13, .invokestatic 150, 16, 100, 0, [], 0, 0),
  (16, .ifCond .eq 5, 19, 21, 0, [], 0, 0),
  (19, .iconst (-1), 20, 0, 0, [], (-1), 0),
  (20, .ireturn, 21, 0, 0, [], 0, 0),
  (21, .bipush 121, 23, 0, 0, [], 121, 0),
  (23, .iload_n 1, 24, 1, 0, [], 0, 0),
  (24, .imul, 25, 0, 0, [], 0, 0),
  (25, .istore 4, 27, 4, 0, [], 0, 0),
  (27, .aload_n 0, 28, 0, 0, [], 0, 0),
  (28, .getfield 19, 31, 6, 8, [], 0, 0),
  (31, .iload 4, 33, 4, 0, [], 0, 0),
  (33, .iload_n 2, 34, 2, 0, [], 0, 0),
  (34, .invokestatic 90, 37, 101, 0, [], 0, 0),
  (37, .istore 5, 39, 5, 0, [], 0, 0),
  (39, .iload 5, 41, 5, 0, [], 0, 0),
  (41, .bipush (-9), 43, 0, 0, [], (-9), 0),
  (43, .if_icmp .ne 6, 46, 49, 0, [], 0, 0),
  (46, .bipush (-3), 48, 0, 0, [], (-3), 0),
  (48, .ireturn, 49, 0, 0, [], 0, 0),
  (49, .iload_n 3, 50, 3, 0, [], 0, 0),
  (50, .i2l, 51, 0, 0, [], 0, 0),
  (51, .lconst 0, 52, 0, 0, [], 0, 0),
  (52, .aload_n 0, 53, 0, 0, [], 0, 0),
  (53, .getfield 19, 56, 6, 8, [], 0, 0),
  (56, .iload 4, 58, 4, 0, [], 0, 0),
  (58, .bipush 81, 60, 0, 0, [], 81, 0),
  (60, .iadd, 61, 0, 0, [], 0, 0),
  (61, .iload 5, 63, 5, 0, [], 0, 0),
  (63, .iadd, 64, 0, 0, [], 0, 0),
  (64, .iaload, 65, 0, 0, [], 0, 0),
  (65, .i2l, 66, 0, 0, [], 0, 0),
  (66, .invokestatic 54, 69, 89, 0, [], 0, 0),
  (69, .ifCond .eq 23, 72, 92, 0, [], 0, 0),
  (72, .aload_n 0, 73, 0, 0, [], 0, 0),
  (73, .getfield 19, 76, 6, 8, [], 0, 0),
  (76, .iload 4, 78, 4, 0, [], 0, 0),
  (78, .iload 5, 80, 5, 0, [], 0, 0),
  (80, .iconst 1, 81, 0, 0, [], 1, 0),
  (81, .iadd, 82, 0, 0, [], 0, 0),
  (82, .iload_n 3, 83, 3, 0, [], 0, 0),
  (83, .invokestatic 104, 86, 120, 0, [], 0, 0),
  (86, .iload 5, 88, 5, 0, [], 0, 0),
  (88, .isub, 89, 0, 0, [], 0, 0),
  (89, .goto 5, 92, 94, 0, [], 0, 0),
  (92, .bipush (-2), 94, 0, 0, [], (-2), 0),
  (94, .ireturn, 95, 0, 0, [], 0, 0)]
/-- yX6_rank -/
def P124 : List En := [(0, .aload_n 0, 1, 0, 0, [], 0, 0),
  (1, .iconst 0, 2, 0, 0, [], 0, 0),
  (2, .putfield 50, 5, 6, 0, [], 0, 0),
  (5, .iload_n 1, 6, 1, 0, [], 0, 0),
  (6, .invokestatic 144, 9, 97, 0, [], 0, 0),
  (9, .ifCond .ne 10, 12, 19, 0, [], 0, 0),
  (12, .iload_n 2, 13, 2, 0, [], 0, 0),
  (13, .invokestatic 150, 16, 100, 0, [], 0, 0),
  (16, .ifCond .eq 7, 19, 23, 0, [], 0, 0),
  (19, .iconst (-1), 20, 0, 0, [], (-1), 0),
  (20, .goto 15, 23, 35, 0, [], 0, 0),
  (23, .aload_n 0, 24, 0, 0, [], 0, 0),
  (24, .getfield 19, 27, 6, 8, [], 0, 0),
  (27, .bipush 121, 29, 0, 0, [], 121, 0),
  (29, .iload_n 1, 30, 1, 0, [], 0, 0),
  (30, .imul, 31, 0, 0, [], 0, 0),
  (31, .iload_n 2, 32, 2, 0, [], 0, 0),
  (32, .invokestatic 66, 35, 104, 0, [], 0, 0),
  (35, .ireturn, 36, 0, 0, [], 0, 0)]
/-- yX6_near -/
def P125 : List En := [(0, .aload_n 0, 1, 0, 0, [], 0, 0),
  (1, .iconst 0, 2, 0, 0, [], 0, 0),
  (2, .putfield 50, 5, 6, 0, [], 0, 0),
  (5, .iload_n 1, 6, 1, 0, [], 0, 0),
  (6, .invokestatic 144, 9, 97, 0, [], 0, 0),
  (9, .ifCond .ne 10, 12, 19, 0, [], 0, 0),
  (12, .iload_n 2, 13, 2, 0, [], 0, 0),
  (13, .invokestatic 150, 16, 100, 0, [], 0, 0),
  (16, .ifCond .eq 5, 19, 21, 0, [], 0, 0),
  (19, .iconst (-1), 20, 0, 0, [], (-1), 0),
  (20, .ireturn, 21, 0, 0, [], 0, 0),
  (21, .iload_n 3, 22, 3, 0, [], 0, 0),
  (22, .i2l, 23, 0, 0, [], 0, 0),
  (23, .lconst 0, 24, 0, 0, [], 0, 0),
  (24, .lconst 1, 25, 0, 0, [], 0, 1),
  (25, .invokestatic 54, 28, 89, 0, [], 0, 0),
  (28, .ifCond .ne 6, 31, 34, 0, [], 0, 0),
  (31, .bipush (-2), 33, 0, 0, [], (-2), 0),
  (33, .ireturn, 34, 0, 0, [], 0, 0),
  (34, .bipush 121, 36, 0, 0, [], 121, 0),
  (36, .iload_n 1, 37, 1, 0, [], 0, 0),
  (37, .imul, 38, 0, 0, [], 0, 0),
  (38, .istore 4, 40, 4, 0, [], 0, 0),
  (40, .iload_n 3, 41, 3, 0, [], 0, 0),
  (41, .iconst 1, 42, 0, 0, [], 1, 0),
  (42, .if_icmp .ne 16, 45, 58, 0, [], 0, 0),
  (45, .aload_n 0, 46, 0, 0, [], 0, 0),
  (46, .getfield 19, 49, 6, 8, [], 0, 0),
  (49, .iload 4, 51, 4, 0, [], 0, 0),
  (51, .iload_n 2, 52, 2, 0, [], 0, 0),
  (52, .invokestatic 66, 55, 104, 0, [], 0, 0),
  (55, .goto 17, 58, 72, 0, [], 0, 0),
  (58, .aload_n 0, 59, 0, 0, [], 0, 0),
  (59, .getfield 19, 62, 6, 8, [], 0, 0),
  (62, .iload 4, 64, 4, 0, [], 0, 0),
  (64, .iload_n 2, 65, 2, 0, [], 0, 0),
  (65, .iconst 1, 66, 0, 0, [], 1, 0),
  (66, .iadd, 67, 0, 0, [], 0, 0),
  (67, .invokestatic 66, 70, 104, 0, [], 0, 0),
  (70, .iconst 1, 71, 0, 0, [], 1, 0),
  (71, .isub, 72, 0, 0, [], 0, 0),
  (72, .istore 5, 74, 5, 0, [], 0, 0),
  (74, .iload 5, 76, 5, 0, [], 0, 0),
  (76, .i2l, 77, 0, 0, [], 0, 0),
  (77, .lconst 0, 78, 0, 0, [], 0, 0),
  (78, .aload_n 0, 79, 0, 0, [], 0, 0),
  (79, .getfield 19, 82, 6, 8, [], 0, 0),
  (82, .iload 4, 84, 4, 0, [], 0, 0),
  (84, .iaload, 85, 0, 0, [], 0, 0),
  (85, .iconst 1, 86, 0, 0, [], 1, 0),
  (86, .isub, 87, 0, 0, [], 0, 0),
  (87, .i2l, 88, 0, 0, [], 0, 0),
  (88, .invokestatic 54, 91, 89, 0, [], 0, 0),
  (91, .ifCond .eq 18, 94, 109, 0, [], 0, 0),
  (94, .aload_n 0, 95, 0, 0, [], 0, 0),
  (95, .getfield 19, 98, 6, 8, [], 0, 0),
  (98, .iload 4, 100, 4, 0, [], 0, 0),
  (100, .iconst 1, 101, 0, 0, [], 1, 0),
  (101, .iadd, 102, 0, 0, [], 0, 0),
  (102, .iload 5, 104, 5, 0, [], 0, 0),
  (104, .iadd, 105, 0, 0, [], 0, 0),
  (105, .iaload, 106, 0, 0, [], 0, 0),
  (106, .goto 5, 109, 111, 0, [], 0, 0),
  (109, .bipush (-9), 111, 0, 0, [], (-9), 0),
  (111, .ireturn, 112, 0, 0, [], 0, 0)]
/-- yX6_looks -/
def P126 : List En := [(0, .aload_n 0, 1, 0, 0, [], 0, 0),
  (1, .iconst 0, 2, 0, 0, [], 0, 0),
  (2, .putfield 50, 5, 6, 0, [], 0, 0),
  (5, .iload_n 1, 6, 1, 0, [], 0, 0),
  (6, .invokestatic 144, 9, 97, 0, [], 0, 0),
  (9, .ifCond .ne 10, 12, 19, 0, [], 0, 0),
  (12, .iload_n 2, 13, 2, 0, [], 0, 0),
  (13, .invokestatic 150, 16, 100, 0, [], 0, 0),
  (16, .ifCond .eq 7, 19, 23, 0, [], 0, 0),
  (19, .iconst (-1), 20, 0, 0, [], (-1), 0),
  (20, .goto 16, 23, 36, 0, [], 0, 0),
  (23, .aload_n 0, 24, 0, 0, [], 0, 0),
  (24, .aload_n 0, 25, 0, 0, [], 0, 0),
  (25, .getfield 19, 28, 6, 8, [], 0, 0),
  (28, .bipush 121, 30, 0, 0, [], 121, 0),
  (30, .iload_n 1, 31, 1, 0, [], 0, 0),
  (31, .imul, 32, 0, 0, [], 0, 0),
  (32, .iload_n 2, 33, 2, 0, [], 0, 0),
  (33, .invokevirtual 108, 36, 119, 0, [], 0, 0),
  (36, .ireturn, 37, 0, 0, [], 0, 0)]
/-- yX6_sum -/
def P127 : List En := [(0, .aload_n 0, 1, 0, 0, [], 0, 0),
  (1, .iconst 0, 2, 0, 0, [], 0, 0),
  (2, .putfield 50, 5, 6, 0, [], 0, 0),
  (5, .iload_n 1, 6, 1, 0, [], 0, 0),
  (6, .invokestatic 144, 9, 97, 0, [], 0, 0),
  (9, .ifCond .ne 17, 12, 26, 0, [], 0, 0),
  (12, .iload_n 2, 13, 2, 0, [], 0, 0),
  (13, .invokestatic 150, 16, 100, 0, [], 0, 0),
  (16, .ifCond .ne 10, 19, 26, 0, [], 0, 0),
  (19, .iload_n 3, 20, 3, 0, [], 0, 0),
  (20, .invokestatic 150, 23, 100, 0, [], 0, 0),
  (23, .ifCond .eq 5, 26, 28, 0, [], 0, 0),
  (26, .iconst (-1), 27, 0, 0, [], (-1), 0),
  (27, .ireturn, 28, 0, 0, [], 0, 0),
  (28, .iload_n 2, 29, 2, 0, [], 0, 0),
  (29, .iload_n 3, 30, 3, 0, [], 0, 0),
  (30, .if_icmp .le 6, 33, 36, 0, [], 0, 0),
  (33, .bipush (-2), 35, 0, 0, [], (-2), 0),
  (35, .ireturn, 36, 0, 0, [], 0, 0),
  (36, .bipush 121, 38, 0, 0, [], 121, 0),
  (38, .iload_n 1, 39, 1, 0, [], 0, 0),
  (39, .imul, 40, 0, 0, [], 0, 0),
  (40, .istore 4, 42, 4, 0, [], 0, 0),
  (42, .iconst 0, 43, 0, 0, [], 0, 0),
  (43, .istore 5, 45, 5, 0, [], 0, 0),
  (45, .iconst 0, 46, 0, 0, [], 0, 0),
  (46, .istore 6, 48, 6, 0, [], 0, 0),
  (48, .iload 6, 50, 6, 0, [], 0, 0),
  (50, .aload_n 0, 51, 0, 0, [], 0, 0),
  (51, .getfield 19, 54, 6, 8, [], 0, 0),
  (54, .iload 4, 56, 4, 0, [], 0, 0),
  (56, .iaload, 57, 0, 0, [], 0, 0),
  (57, .if_icmp .ge 54, 60, 111, 0, [], 0, 0),
  (60, .iload 5, 62, 5, 0, [], 0, 0),
  (62, .aload_n 0, 63, 0, 0, [], 0, 0),
  (63, .getfield 19, 66, 6, 8, [], 0, 0),
  (66, .iload 4, 68, 4, 0, [], 0, 0),
  (68, .iconst 1, 69, 0, 0, [], 1, 0),
  (69, .iadd, 70, 0, 0, [], 0, 0),
  (70, .iload 6, 72, 6, 0, [], 0, 0),
  (72, .iadd, 73, 0, 0, [], 0, 0),
  (73, .iaload, 74, 0, 0, [], 0, 0),
  (74, .i2l, 75, 0, 0, [], 0, 0),
  (75, .iload_n 2, 76, 2, 0, [], 0, 0),
  (76, .i2l, 77, 0, 0, [], 0, 0),
  (77, .iload_n 3, 78, 3, 0, [], 0, 0),
  (78, .i2l, 79, 0, 0, [], 0, 0),
  (79, .invokestatic 54, 82, 89, 0, [], 0, 0),
  (82, .ifCond .eq 19, 85, 101, 0, [], 0, 0),
  (85, .aload_n 0, 86, 0, 0, [], 0, 0),
  (86, .getfield 19, 89, 6, 8, [], 0, 0),
  (89, .iload 4, 91, 4, 0, [], 0, 0),
  (91, .bipush 41, 93, 0, 0, [], 41, 0),
  (93, .iadd, 94, 0, 0, [], 0, 0),
  (94, .iload 6, 96, 6, 0, [], 0, 0),
  (96, .iadd, 97, 0, 0, [], 0, 0),
  (97, .iaload, 98, 0, 0, [], 0, 0),
  (98, .goto 4, 101, 102, 0, [], 0, 0),
  (101, .iconst 0, 102, 0, 0, [], 0, 0),
  (102, .iadd, 103, 0, 0, [], 0, 0),
  (103, .istore 5, 105, 5, 0, [], 0, 0),
  (105, .iinc 6 1, 108, 6, 0, [], 1, 0),
  (108, .goto (-60), 111, 48, 0, [], 0, 0),
  (111, .iload 5, 113, 5, 0, [], 0, 0),
  (113, .ireturn, 114, 0, 0, [], 0, 0)]
/-- yX6_would -/
def P128 : List En := [(0, .aload_n 0, 1, 0, 0, [], 0, 0),
  (1, .iconst 0, 2, 0, 0, [], 0, 0),
  (2, .putfield 50, 5, 6, 0, [], 0, 0),
  (5, .iload_n 1, 6, 1, 0, [], 0, 0),
  (6, .invokestatic 144, 9, 97, 0, [], 0, 0),
  (9, .ifCond .ne 10, 12, 19, 0, [], 0, 0),
  (12, .iload_n 2, 13, 2, 0, [], 0, 0),
  (13, .invokestatic 150, 16, 100, 0, [], 0, 0),
  (16, .ifCond .eq 5, 19, 21, 0, [], 0, 0),
  (19, .iconst (-1), 20, 0, 0, [], (-1), 0),
  (20, .ireturn, 21, 0, 0, [], 0, 0),
  (21, .iload_n 3, 22, 3, 0, [], 0, 0),
  (22, .i2l, 23, 0, 0, [], 0, 0),
  (23, .lconst 0, 24, 0, 0, [], 0, 0),
  (24, .ldc2_w 172, 27, 0, 0, [], 0, 2),
  (27, .invokestatic 54, 30, 89, 0, [], 0, 0),
  (30, .ifCond .ne 6, 33, 36, 0, [], 0, 0),
  (33, .bipush (-2), 35, 0, 0, [], (-2), 0),
  (35, .ireturn, 36, 0, 0, [], 0, 0),
  (36, .bipush 121, 38, 0, 0, [], 121, 0),
  (38, .iload_n 1, 39, 1, 0, [], 0, 0),
  (39, .imul, 40, 0, 0, [], 0, 0),
  (40, .istore 4, 42, 4, 0, [], 0, 0),
  (42, .aload_n 0, 43, 0, 0, [], 0, 0),
  (43, .getfield 19, 46, 6, 8, [], 0, 0),
  (46, .iload 4, 48, 4, 0, [], 0, 0),
  (48, .iload_n 2, 49, 2, 0, [], 0, 0),
  (49, .invokestatic 90, 52, 101, 0, [], 0, 0),
  (52, .istore 5, 54, 5, 0, [], 0, 0),
  (54, .iload 5, 56, 5, 0, [], 0, 0),
  (56, .bipush (-9), 58, 0, 0, [], (-9), 0),
  (58, .if_icmp .ne 18, 61, 76, 0, [], 0, 0),
  (61, .aload_n 0, 62, 0, 0, [], 0, 0),
  (62, .getfield 19, 65, 6, 8, [], 0, 0),
  (65, .iload 4, 67, 4, 0, [], 0, 0),
  (67, .iaload, 68, 0, 0, [], 0, 0),
  (68, .bipush 40, 70, 0, 0, [], 40, 0),
  (70, .if_icmp .ne 6, 73, 76, 0, [], 0, 0),
  (73, .bipush (-4), 75, 0, 0, [], (-4), 0),
  (75, .ireturn, 76, 0, 0, [], 0, 0),
  (76, .aload_n 0, 77, 0, 0, [], 0, 0),
  (77, .invokevirtual 174, 80, 129, 0, [], 0, 0),
  (80, .iload 5, 82, 5, 0, [], 0, 0),
  (82, .bipush (-9), 84, 0, 0, [], (-9), 0),
  (84, .if_icmp .ne 18, 87, 102, 0, [], 0, 0),
  (87, .aload_n 0, 88, 0, 0, [], 0, 0),
  (88, .aload_n 0, 89, 0, 0, [], 0, 0),
  (89, .getfield 22, 92, 6, 9, [], 0, 0),
  (92, .iload 4, 94, 4, 0, [], 0, 0),
  (94, .iload_n 2, 95, 2, 0, [], 0, 0),
  (95, .iconst 0, 96, 0, 0, [], 0, 0),
  (96, .invokevirtual 93, 99, 103, 0, [], 0, 0),
  (99, .goto 16, 102, 115, 0, [], 0, 0),
  (102, .aload_n 0, 103, 0, 0, [], 0, 0),
  (103, .aload_n 0, 104, 0, 0, [], 0, 0),
  (104, .getfield 22, 107, 6, 9, [], 0, 0),
  (107, .iload 4, 109, 4, 0, [], 0, 0),
  (109, .iload 5, 111, 5, 0, [], 0, 0),
  (111, .invokevirtual 159, 114, 111, 0, [], 0, 0),
  (114, .pop, 115, 0, 0, [], 0, 0),
  (115, .iload_n 3, 116, 3, 0, [], 0, 0),
  (116, .ifCond .ne 13, 119, 129, 0, [], 0, 0),
  (119, .aload_n 0, 120, 0, 0, [], 0, 0),
  (120, .iload 4, 122, 4, 0, [], 0, 0),
  (122, .iload_n 2, 123, 2, 0, [], 0, 0),
  (123, .invokevirtual 177, 126, 130, 0, [], 0, 0),
  (126, .goto 30, 129, 156, 0, [], 0, 0),
  (129, .iload_n 3, 130, 3, 0, [], 0, 0),
  (130, .iconst 1, 131, 0, 0, [], 1, 0),
  (131, .if_icmp .ne 15, 134, 146, 0, [], 0, 0),
  (134, .aload_n 0, 135, 0, 0, [], 0, 0),
  (135, .getfield 22, 138, 6, 9, [], 0, 0),
  (138, .iload 4, 140, 4, 0, [], 0, 0),
  (140, .invokestatic 70, 143, 105, 0, [], 0, 0),
  (143, .goto 13, 146, 156, 0, [], 0, 0),
  (146, .aload_n 0, 147, 0, 0, [], 0, 0),
  (147, .aload_n 0, 148, 0, 0, [], 0, 0),
  (148, .getfield 22, 151, 6, 9, [], 0, 0),
  (151, .iload 4, 153, 4, 0, [], 0, 0),
  (153, .invokevirtual 169, 156, 118, 0, [], 0, 0),
  (156, .ireturn, 157, 0, 0, [], 0, 0)]
/-- yX6_begin -/
def P129 : List En := [(0, .iconst 0, 1, 0, 0, [], 0, 0),
  (1, .istore_n 1, 2, 1, 0, [], 0, 0),
  (2, .iload_n 1, 3, 1, 0, [], 0, 0),
  (3, .sipush 242, 6, 0, 0, [], 242, 0),
  (6, .if_icmp .ge 21, 9, 27, 0, [], 0, 0),
  (9, .aload_n 0, 10, 0, 0, [], 0, 0),
  (10, .getfield 22, 13, 6, 9, [], 0, 0),
  (13, .iload_n 1, 14, 1, 0, [], 0, 0),
  (14, .aload_n 0, 15, 0, 0, [], 0, 0),
  (15, .getfield 19, 18, 6, 8, [], 0, 0),
  (18, .iload_n 1, 19, 1, 0, [], 0, 0),
  (19, .iaload, 20, 0, 0, [], 0, 0),
  (20, .iastore, 21, 0, 0, [], 0, 0),
  (21, .iinc 1 1, 24, 1, 0, [], 1, 0),
  (24, .goto (-22), 27, 2, 0, [], 0, 0),
  (27, .return_, 28, 0, 0, [], 0, 0)]
/-- yX6_otherHeights -/
def P130 : List En := [(0, .iconst 0, 1, 0, 0, [], 0, 0),
  (1, .istore_n 3, 2, 3, 0, [], 0, 0),
  (2, .iconst 0, 3, 0, 0, [], 0, 0),
  (3, .istore 4, 5, 4, 0, [], 0, 0),
  (5, .iload 4, 7, 4, 0, [], 0, 0),
  (7, .aload_n 0, 8, 0, 0, [], 0, 0),
  (8, .getfield 19, 11, 6, 8, [], 0, 0),
  (11, .iload_n 1, 12, 1, 0, [], 0, 0),
  (12, .iaload, 13, 0, 0, [], 0, 0),
  (13, .if_icmp .ge 82, 16, 95, 0, [], 0, 0),
  (16, .aload_n 0, 17, 0, 0, [], 0, 0),
  (17, .getfield 19, 20, 6, 8, [], 0, 0),
  (20, .iload_n 1, 21, 1, 0, [], 0, 0),
  (21, .iconst 1, 22, 0, 0, [], 1, 0),
  (22, .iadd, 23, 0, 0, [], 0, 0),
  (23, .iload 4, 25, 4, 0, [], 0, 0),
  (25, .iadd, 26, 0, 0, [], 0, 0),
  (26, .iaload, 27, 0, 0, [], 0, 0),
  (27, .istore 5, 29, 5, 0, [], 0, 0),
  (29, .aload_n 0, 30, 0, 0, [], 0, 0),
  (30, .getfield 22, 33, 6, 9, [], 0, 0),
  (33, .iload_n 1, 34, 1, 0, [], 0, 0),
  (34, .iload 5, 36, 5, 0, [], 0, 0),
  (36, .invokestatic 90, 39, 101, 0, [], 0, 0),
  (39, .istore 6, 41, 6, 0, [], 0, 0),
  (41, .iload_n 3, 42, 3, 0, [], 0, 0),
  (42, .iload 5, 44, 5, 0, [], 0, 0),
  (44, .iload_n 2, 45, 2, 0, [], 0, 0),
  (45, .if_icmp .eq 41, 48, 86, 0, [], 0, 0),
  (48, .iload 6, 50, 6, 0, [], 0, 0),
  (50, .bipush (-9), 52, 0, 0, [], (-9), 0),
  (52, .if_icmp .eq 34, 55, 86, 0, [], 0, 0),
  (55, .aload_n 0, 56, 0, 0, [], 0, 0),
  (56, .getfield 22, 59, 6, 9, [], 0, 0),
  (59, .iload_n 1, 60, 1, 0, [], 0, 0),
  (60, .bipush 81, 62, 0, 0, [], 81, 0),
  (62, .iadd, 63, 0, 0, [], 0, 0),
  (63, .iload 6, 65, 6, 0, [], 0, 0),
  (65, .iadd, 66, 0, 0, [], 0, 0),
  (66, .iaload, 67, 0, 0, [], 0, 0),
  (67, .aload_n 0, 68, 0, 0, [], 0, 0),
  (68, .getfield 19, 71, 6, 8, [], 0, 0),
  (71, .iload_n 1, 72, 1, 0, [], 0, 0),
  (72, .bipush 81, 74, 0, 0, [], 81, 0),
  (74, .iadd, 75, 0, 0, [], 0, 0),
  (75, .iload 4, 77, 4, 0, [], 0, 0),
  (77, .iadd, 78, 0, 0, [], 0, 0),
  (78, .iaload, 79, 0, 0, [], 0, 0),
  (79, .if_icmp .eq 7, 82, 86, 0, [], 0, 0),
  (82, .iconst 1, 83, 0, 0, [], 1, 0),
  (83, .goto 4, 86, 87, 0, [], 0, 0),
  (86, .iconst 0, 87, 0, 0, [], 0, 0),
  (87, .iadd, 88, 0, 0, [], 0, 0),
  (88, .istore_n 3, 89, 3, 0, [], 0, 0),
  (89, .iinc 4 1, 92, 4, 0, [], 1, 0),
  (92, .goto (-87), 95, 5, 0, [], 0, 0),
  (95, .iload_n 3, 96, 3, 0, [], 0, 0),
  (96, .ireturn, 97, 0, 0, [], 0, 0)]
/-- yX6_best -/
def P131 : List En := [(0, .aload_n 0, 1, 0, 0, [], 0, 0),
  (1, .iconst 0, 2, 0, 0, [], 0, 0),
  (2, .putfield 50, 5, 6, 0, [], 0, 0),
  (5, .iload_n 1, 6, 1, 0, [], 0, 0),
  (6, .invokestatic 144, 9, 97, 0, [], 0, 0),
  (9, .ifCond .eq 5, 12, 14, 0, [], 0, 0),
  (12, .iconst (-1), 13, 0, 0, [], (-1), 0),
  (13, .ireturn, 14, 0, 0, [], 0, 0),
  (14, .iload_n 2, 15, 2, 0, [], 0, 0),
  (15, .i2l, 16, 0, 0, [], 0, 0),
  (16, .lconst 0, 17, 0, 0, [], 0, 0),
  (17, .lconst 1, 18, 0, 0, [], 0, 1),
  (18, .invokestatic 54, 21, 89, 0, [], 0, 0),
  (21, .ifCond .ne 6, 24, 27, 0, [], 0, 0),
  (24, .bipush (-2), 26, 0, 0, [], (-2), 0),
  (26, .ireturn, 27, 0, 0, [], 0, 0),
  (27, .aload_n 0, 28, 0, 0, [], 0, 0),
  (28, .bipush 121, 30, 0, 0, [], 121, 0),
  (30, .iload_n 1, 31, 1, 0, [], 0, 0),
  (31, .imul, 32, 0, 0, [], 0, 0),
  (32, .invokevirtual 186, 35, 132, 0, [], 0, 0),
  (35, .iload_n 2, 36, 2, 0, [], 0, 0),
  (36, .ifCond .ne 10, 39, 46, 0, [], 0, 0),
  (39, .aload_n 0, 40, 0, 0, [], 0, 0),
  (40, .getfield 180, 43, 6, 23, [], 0, 0),
  (43, .goto 7, 46, 50, 0, [], 0, 0),
  (46, .aload_n 0, 47, 0, 0, [], 0, 0),
  (47, .getfield 183, 50, 6, 24, [], 0, 0),
  (50, .ireturn, 51, 0, 0, [], 0, 0)]
/-- yX6_findBest -/
def P132 : List En := [(0, .aload_n 0, 1, 0, 0, [], 0, 0),
  (1, .bipush (-9), 3, 0, 0, [], (-9), 0),
  (3, .putfield 180, 6, 6, 23, [], 0, 0),
  (6, .aload_n 0, 7, 0, 0, [], 0, 0),
  (7, .bipush (-9), 9, 0, 0, [], (-9), 0),
  (9, .putfield 183, 12, 6, 24, [], 0, 0),
  (12, .iconst 0, 13, 0, 0, [], 0, 0),
  (13, .istore_n 2, 14, 2, 0, [], 0, 0),
  (14, .iload_n 2, 15, 2, 0, [], 0, 0),
  (15, .bipush 100, 17, 0, 0, [], 100, 0),
  (17, .if_icmp .ge 117, 20, 134, 0, [], 0, 0),
  (20, .aload_n 0, 21, 0, 0, [], 0, 0),
  (21, .getfield 19, 24, 6, 8, [], 0, 0),
  (24, .iload_n 1, 25, 1, 0, [], 0, 0),
  (25, .iaload, 26, 0, 0, [], 0, 0),
  (26, .bipush 40, 28, 0, 0, [], 40, 0),
  (28, .if_icmp .ge 100, 31, 128, 0, [], 0, 0),
  (31, .aload_n 0, 32, 0, 0, [], 0, 0),
  (32, .getfield 19, 35, 6, 8, [], 0, 0),
  (35, .iload_n 1, 36, 1, 0, [], 0, 0),
  (36, .iload_n 2, 37, 2, 0, [], 0, 0),
  (37, .invokestatic 90, 40, 101, 0, [], 0, 0),
  (40, .bipush (-9), 42, 0, 0, [], (-9), 0),
  (42, .if_icmp .ne 86, 45, 128, 0, [], 0, 0),
  (45, .aload_n 0, 46, 0, 0, [], 0, 0),
  (46, .invokevirtual 174, 49, 129, 0, [], 0, 0),
  (49, .aload_n 0, 50, 0, 0, [], 0, 0),
  (50, .aload_n 0, 51, 0, 0, [], 0, 0),
  (51, .getfield 22, 54, 6, 9, [], 0, 0),
  (54, .iload_n 1, 55, 1, 0, [], 0, 0),
  (55, .iload_n 2, 56, 2, 0, [], 0, 0),
  (56, .iconst 0, 57, 0, 0, [], 0, 0),
  (57, .invokevirtual 93, 60, 103, 0, [], 0, 0),
  (60, .aload_n 0, 61, 0, 0, [], 0, 0),
  (61, .aload_n 0, 62, 0, 0, [], 0, 0),
  (62, .getfield 22, 65, 6, 9, [], 0, 0),
  (65, .iload_n 1, 66, 1, 0, [], 0, 0),
  (66, .invokevirtual 169, 69, 118, 0, [], 0, 0),
  (69, .istore_n 3, 70, 3, 0, [], 0, 0),
  (70, .aload_n 0, 71, 0, 0, [], 0, 0),
  (71, .aload_n 0, 72, 0, 0, [], 0, 0),
  (72, .getfield 183, 75, 6, 24, [], 0, 0),
  (75, .bipush (-9), 77, 0, 0, [], (-9), 0),
  (77, .if_icmp .eq 11, 80, 88, 0, [], 0, 0),
  (80, .iload_n 3, 81, 3, 0, [], 0, 0),
  (81, .aload_n 0, 82, 0, 0, [], 0, 0),
  (82, .getfield 183, 85, 6, 24, [], 0, 0),
  (85, .if_icmp .ge 7, 88, 92, 0, [], 0, 0),
  (88, .iload_n 2, 89, 2, 0, [], 0, 0),
  (89, .goto 7, 92, 96, 0, [], 0, 0),
  (92, .aload_n 0, 93, 0, 0, [], 0, 0),
  (93, .getfield 180, 96, 6, 23, [], 0, 0),
  (96, .putfield 180, 99, 6, 23, [], 0, 0),
  (99, .aload_n 0, 100, 0, 0, [], 0, 0),
  (100, .aload_n 0, 101, 0, 0, [], 0, 0),
  (101, .getfield 183, 104, 6, 24, [], 0, 0),
  (104, .bipush (-9), 106, 0, 0, [], (-9), 0),
  (106, .if_icmp .eq 11, 109, 117, 0, [], 0, 0),
  (109, .iload_n 3, 110, 3, 0, [], 0, 0),
  (110, .aload_n 0, 111, 0, 0, [], 0, 0),
  (111, .getfield 183, 114, 6, 24, [], 0, 0),
  (114, .if_icmp .ge 7, 117, 121, 0, [], 0, 0),
  (117, .iload_n 3, 118, 3, 0, [], 0, 0),
  (118, .goto 7, 121, 125, 0, [], 0, 0),
  (121, .aload_n 0, 122, 0, 0, [], 0, 0),
  (122, .getfield 183, 125, 6, 24, [], 0, 0),
  (125, .putfield 183, 128, 6, 24, [], 0, 0),
  (128, .iinc 2 1, 131, 2, 0, [], 1, 0),
  (131, .goto (-117), 134, 14, 0, [], 0, 0),
  (134, .return_, 135, 0, 0, [], 0, 0)]
/-- yX6_judge -/
def P133 : List En := [(0, .aload_n 0, 1, 0, 0, [], 0, 0),
  (1, .iconst 0, 2, 0, 0, [], 0, 0),
  (2, .putfield 50, 5, 6, 0, [], 0, 0),
  (5, .iload_n 1, 6, 1, 0, [], 0, 0),
  (6, .i2l, 7, 0, 0, [], 0, 0),
  (7, .lconst 1, 8, 0, 0, [], 0, 1),
  (8, .ldc2_w 194, 11, 0, 0, [], 0, 4),
  (11, .invokestatic 54, 14, 89, 0, [], 0, 0),
  (14, .ifCond .eq 20, 17, 34, 0, [], 0, 0),
  (17, .lload_n 2, 18, 2, 0, [], 0, 0),
  (18, .lconst 0, 19, 0, 0, [], 0, 0),
  (19, .ldc2_w 196, 22, 0, 0, [], 0, 10000),
  (22, .iload_n 1, 23, 1, 0, [], 0, 0),
  (23, .invokestatic 198, 26, 134, 0, [], 0, 0),
  (26, .lconst 1, 27, 0, 0, [], 0, 1),
  (27, .lsub, 28, 0, 0, [], 0, 0),
  (28, .invokestatic 54, 31, 89, 0, [], 0, 0),
  (31, .ifCond .ne 6, 34, 37, 0, [], 0, 0),
  (34, .bipush (-2), 36, 0, 0, [], (-2), 0),
  (36, .ireturn, 37, 0, 0, [], 0, 0),
  (37, .aload_n 0, 38, 0, 0, [], 0, 0),
  (38, .invokevirtual 174, 41, 129, 0, [], 0, 0),
  (41, .iconst 0, 42, 0, 0, [], 0, 0),
  (42, .istore 4, 44, 4, 0, [], 0, 0),
  (44, .iload 4, 46, 4, 0, [], 0, 0),
  (46, .iload_n 1, 47, 1, 0, [], 0, 0),
  (47, .if_icmp .ge 38, 50, 85, 0, [], 0, 0),
  (50, .aload_n 0, 51, 0, 0, [], 0, 0),
  (51, .lload_n 2, 52, 2, 0, [], 0, 0),
  (52, .ldc2_w 196, 55, 0, 0, [], 0, 10000),
  (55, .iload_n 1, 56, 1, 0, [], 0, 0),
  (56, .iconst 1, 57, 0, 0, [], 1, 0),
  (57, .isub, 58, 0, 0, [], 0, 0),
  (58, .iload 4, 60, 4, 0, [], 0, 0),
  (60, .isub, 61, 0, 0, [], 0, 0),
  (61, .invokestatic 198, 64, 134, 0, [], 0, 0),
  (64, .ldiv, 65, 0, 0, [], 0, 0),
  (65, .ldc2_w 196, 68, 0, 0, [], 0, 10000),
  (68, .lrem, 69, 0, 0, [], 0, 0),
  (69, .l2i, 70, 0, 0, [], 0, 0),
  (70, .invokevirtual 202, 73, 135, 0, [], 0, 0),
  (73, .ifCond .ne 6, 76, 79, 0, [], 0, 0),
  (76, .iload 4, 78, 4, 0, [], 0, 0),
  (78, .ireturn, 79, 0, 0, [], 0, 0),
  (79, .iinc 4 1, 82, 4, 0, [], 1, 0),
  (82, .goto (-38), 85, 44, 0, [], 0, 0),
  (85, .bipush (-9), 87, 0, 0, [], (-9), 0),
  (87, .ireturn, 88, 0, 0, [], 0, 0)]
/-- yX6_longPower -/
def P134 : List En := [(0, .lconst 1, 1, 0, 0, [], 0, 1),
  (1, .lstore_n 3, 2, 3, 0, [], 0, 0),
  (2, .iconst 0, 3, 0, 0, [], 0, 0),
  (3, .istore 5, 5, 5, 0, [], 0, 0),
  (5, .iload 5, 7, 5, 0, [], 0, 0),
  (7, .iload_n 2, 8, 2, 0, [], 0, 0),
  (8, .if_icmp .ge 13, 11, 21, 0, [], 0, 0),
  (11, .lload_n 3, 12, 3, 0, [], 0, 0),
  (12, .lload_n 0, 13, 0, 0, [], 0, 0),
  (13, .lmul, 14, 0, 0, [], 0, 0),
  (14, .lstore_n 3, 15, 3, 0, [], 0, 0),
  (15, .iinc 5 1, 18, 5, 0, [], 1, 0),
  (18, .goto (-13), 21, 5, 0, [], 0, 0),
  (21, .lload_n 3, 22, 3, 0, [], 0, 0),
  (22, .lreturn, 23, 0, 0, [], 0, 0)]
/-- yX6_does -/
def P135 : List En := [(0, .bipush 121, 2, 0, 0, [], 121, 0),
  (2, .iload_n 1, 3, 1, 0, [], 0, 0),
  (3, .bipush 100, 5, 0, 0, [], 100, 0),
  (5, .idiv, 6, 0, 0, [], 0, 0),
  (6, .bipush 10, 8, 0, 0, [], 10, 0),
  (8, .irem, 9, 0, 0, [], 0, 0),
  (9, .imul, 10, 0, 0, [], 0, 0),
  (10, .istore_n 2, 11, 2, 0, [], 0, 0),
  (11, .iload_n 1, 12, 1, 0, [], 0, 0),
  (12, .bipush 100, 14, 0, 0, [], 100, 0),
  (14, .irem, 15, 0, 0, [], 0, 0),
  (15, .istore_n 3, 16, 3, 0, [], 0, 0),
  (16, .iload_n 2, 17, 2, 0, [], 0, 0),
  (17, .bipush 121, 19, 0, 0, [], 121, 0),
  (19, .if_icmp .le 5, 22, 24, 0, [], 0, 0),
  (22, .iconst 0, 23, 0, 0, [], 0, 0),
  (23, .ireturn, 24, 0, 0, [], 0, 0),
  (24, .iload_n 1, 25, 1, 0, [], 0, 0),
  (25, .sipush 1000, 28, 0, 0, [], 1000, 0),
  (28, .idiv, 29, 0, 0, [], 0, 0),
  (29, .tableswitch 111 1 5 #[35, 47, 54, 74, 92], 64, 140, 0, [64, 76, 83, 103, 121], 0, 0),
  (64, .aload_n 0, 65, 0, 0, [], 0, 0),
  (65, .aload_n 0, 66, 0, 0, [], 0, 0),
  (66, .getfield 22, 69, 6, 9, [], 0, 0),
  (69, .iload_n 2, 70, 2, 0, [], 0, 0),
  (70, .iload_n 3, 71, 3, 0, [], 0, 0),
  (71, .iconst 0, 72, 0, 0, [], 0, 0),
  (72, .invokevirtual 155, 75, 102, 0, [], 0, 0),
  (75, .ireturn, 76, 0, 0, [], 0, 0),
  (76, .aload_n 0, 77, 0, 0, [], 0, 0),
  (77, .iload_n 2, 78, 2, 0, [], 0, 0),
  (78, .iload_n 3, 79, 3, 0, [], 0, 0),
  (79, .invokevirtual 190, 82, 136, 0, [], 0, 0),
  (82, .ireturn, 83, 0, 0, [], 0, 0),
  (83, .aload_n 0, 84, 0, 0, [], 0, 0),
  (84, .getfield 22, 87, 6, 9, [], 0, 0),
  (87, .iload_n 2, 88, 2, 0, [], 0, 0),
  (88, .iload_n 3, 89, 3, 0, [], 0, 0),
  (89, .invokestatic 90, 92, 101, 0, [], 0, 0),
  (92, .bipush (-9), 94, 0, 0, [], (-9), 0),
  (94, .if_icmp .eq 7, 97, 101, 0, [], 0, 0),
  (97, .iconst 1, 98, 0, 0, [], 1, 0),
  (98, .goto 4, 101, 102, 0, [], 0, 0),
  (101, .iconst 0, 102, 0, 0, [], 0, 0),
  (102, .ireturn, 103, 0, 0, [], 0, 0),
  (103, .aload_n 0, 104, 0, 0, [], 0, 0),
  (104, .getfield 22, 107, 6, 9, [], 0, 0),
  (107, .iload_n 2, 108, 2, 0, [], 0, 0),
  (108, .invokestatic 70, 111, 105, 0, [], 0, 0),
  (111, .iload_n 3, 112, 3, 0, [], 0, 0),
  (112, .if_icmp .ne 7, 115, 119, 0, [], 0, 0),
  (115, .iconst 1, 116, 0, 0, [], 1, 0),
  (116, .goto 4, 119, 120, 0, [], 0, 0),
  (119, .iconst 0, 120, 0, 0, [], 0, 0),
  (120, .ireturn, 121, 0, 0, [], 0, 0),
  (121, .aload_n 0, 122, 0, 0, [], 0, 0),
  (122, .aload_n 0, 123, 0, 0, [], 0, 0),
  (123, .getfield 22, 126, 6, 9, [], 0, 0),
  (126, .iload_n 2, 127, 2, 0, [], 0, 0),
  (127, .invokevirtual 169, 130, 118, 0, [], 0, 0),
  (130, .iload_n 3, 131, 3, 0, [], 0, 0),
  (131, .if_icmp .gt 7, 134, 138, 0, [], 0, 0),
  (134, .iconst 1, 135, 0, 0, [], 1, 0),
  (135, .goto 4, 138, 139, 0, [], 0, 0),
  (138, .iconst 0, 139, 0, 0, [], 0, 0),
  (139, .ireturn, 140, 0, 0, [], 0, 0),
  (140, .iconst 0, 141, 0, 0, [], 0, 0),
  (141, .ireturn, 142, 0, 0, [], 0, 0)]
/-- yX6_removes -/
def P136 : List En := [(0, .aload_n 0, 1, 0, 0, [], 0, 0),
  (1, .getfield 22, 4, 6, 9, [], 0, 0),
  (4, .iload_n 1, 5, 1, 0, [], 0, 0),
  (5, .iload_n 2, 6, 2, 0, [], 0, 0),
  (6, .invokestatic 90, 9, 101, 0, [], 0, 0),
  (9, .istore_n 3, 10, 3, 0, [], 0, 0),
  (10, .iload_n 3, 11, 3, 0, [], 0, 0),
  (11, .bipush (-9), 13, 0, 0, [], (-9), 0),
  (13, .if_icmp .eq 14, 16, 27, 0, [], 0, 0),
  (16, .aload_n 0, 17, 0, 0, [], 0, 0),
  (17, .aload_n 0, 18, 0, 0, [], 0, 0),
  (18, .getfield 22, 21, 6, 9, [], 0, 0),
  (21, .iload_n 1, 22, 1, 0, [], 0, 0),
  (22, .iload_n 3, 23, 3, 0, [], 0, 0),
  (23, .invokevirtual 159, 26, 111, 0, [], 0, 0),
  (26, .pop, 27, 0, 0, [], 0, 0),
  (27, .iload_n 3, 28, 3, 0, [], 0, 0),
  (28, .bipush (-9), 30, 0, 0, [], (-9), 0),
  (30, .if_icmp .eq 7, 33, 37, 0, [], 0, 0),
  (33, .iconst 1, 34, 0, 0, [], 1, 0),
  (34, .goto 4, 37, 38, 0, [], 0, 0),
  (37, .iconst 0, 38, 0, 0, [], 0, 0),
  (38, .ireturn, 39, 0, 0, [], 0, 0)]
/-- yX6_share -/
def P137 : List En := [(0, .aload_n 0, 1, 0, 0, [], 0, 0),
  (1, .iconst 0, 2, 0, 0, [], 0, 0),
  (2, .putfield 50, 5, 6, 0, [], 0, 0),
  (5, .iload_n 1, 6, 1, 0, [], 0, 0),
  (6, .invokestatic 144, 9, 97, 0, [], 0, 0),
  (9, .ifCond .ne 23, 12, 32, 0, [], 0, 0),
  (12, .iload_n 2, 13, 2, 0, [], 0, 0),
  (13, .i2l, 14, 0, 0, [], 0, 0),
  (14, .lconst 0, 15, 0, 0, [], 0, 0),
  (15, .aload_n 0, 16, 0, 0, [], 0, 0),
  (16, .bipush 121, 18, 0, 0, [], 121, 0),
  (18, .iload_n 1, 19, 1, 0, [], 0, 0),
  (19, .imul, 20, 0, 0, [], 0, 0),
  (20, .invokevirtual 208, 23, 138, 0, [], 0, 0),
  (23, .iconst 1, 24, 0, 0, [], 1, 0),
  (24, .isub, 25, 0, 0, [], 0, 0),
  (25, .i2l, 26, 0, 0, [], 0, 0),
  (26, .invokestatic 54, 29, 89, 0, [], 0, 0),
  (29, .ifCond .ne 5, 32, 34, 0, [], 0, 0),
  (32, .iconst (-1), 33, 0, 0, [], (-1), 0),
  (33, .ireturn, 34, 0, 0, [], 0, 0),
  (34, .bipush 121, 36, 0, 0, [], 121, 0),
  (36, .iload_n 1, 37, 1, 0, [], 0, 0),
  (37, .imul, 38, 0, 0, [], 0, 0),
  (38, .istore 4, 40, 4, 0, [], 0, 0),
  (40, .aload_n 0, 41, 0, 0, [], 0, 0),
  (41, .iload 4, 43, 4, 0, [], 0, 0),
  (43, .invokevirtual 208, 46, 138, 0, [], 0, 0),
  (46, .istore 5, 48, 5, 0, [], 0, 0),
  (48, .iconst 0, 49, 0, 0, [], 0, 0),
  (49, .istore 6, 51, 6, 0, [], 0, 0),
  (51, .iload 6, 53, 6, 0, [], 0, 0),
  (53, .iconst 1, 54, 0, 0, [], 1, 0),
  (54, .iload 5, 56, 5, 0, [], 0, 0),
  (56, .ishl, 57, 0, 0, [], 0, 0),
  (57, .if_icmp .ge 34, 60, 91, 0, [], 0, 0),
  (60, .aload_n 0, 61, 0, 0, [], 0, 0),
  (61, .iload 4, 63, 4, 0, [], 0, 0),
  (63, .iload 6, 65, 6, 0, [], 0, 0),
  (65, .invokevirtual 215, 68, 139, 0, [], 0, 0),
  (68, .aload_n 0, 69, 0, 0, [], 0, 0),
  (69, .getfield 47, 72, 6, 30, [], 0, 0),
  (72, .iload 6, 74, 6, 0, [], 0, 0),
  (74, .aload_n 0, 75, 0, 0, [], 0, 0),
  (75, .aload_n 0, 76, 0, 0, [], 0, 0),
  (76, .getfield 22, 79, 6, 9, [], 0, 0),
  (79, .iload 4, 81, 4, 0, [], 0, 0),
  (81, .invokevirtual 169, 84, 118, 0, [], 0, 0),
  (84, .iastore, 85, 0, 0, [], 0, 0),
  (85, .iinc 6 1, 88, 6, 0, [], 1, 0),
  (88, .goto (-37), 91, 51, 0, [], 0, 0),
  (91, .iconst 0, 92, 0, 0, [], 0, 0),
  (92, .istore 6, 94, 6, 0, [], 0, 0),
  (94, .iconst 0, 95, 0, 0, [], 0, 0),
  (95, .istore 7, 97, 7, 0, [], 0, 0),
  (97, .iload 7, 99, 7, 0, [], 0, 0),
  (99, .iconst 1, 100, 0, 0, [], 1, 0),
  (100, .iload 5, 102, 5, 0, [], 0, 0),
  (102, .ishl, 103, 0, 0, [], 0, 0),
  (103, .if_icmp .ge 66, 106, 169, 0, [], 0, 0),
  (106, .iload 7, 108, 7, 0, [], 0, 0),
  (108, .iload_n 2, 109, 2, 0, [], 0, 0),
  (109, .invokestatic 212, 112, 140, 0, [], 0, 0),
  (112, .ifCond .ne 51, 115, 163, 0, [], 0, 0),
  (115, .iload 7, 117, 7, 0, [], 0, 0),
  (117, .invokestatic 219, 120, 141, 0, [], 0, 0),
  (120, .istore 8, 122, 8, 0, [], 0, 0),
  (122, .iload 6, 124, 6, 0, [], 0, 0),
  (124, .iload 8, 126, 8, 0, [], 0, 0),
  (126, .invokestatic 222, 129, 142, 0, [], 0, 0),
  (129, .iload 5, 131, 5, 0, [], 0, 0),
  (131, .iconst 1, 132, 0, 0, [], 1, 0),
  (132, .isub, 133, 0, 0, [], 0, 0),
  (133, .iload 8, 135, 8, 0, [], 0, 0),
  (135, .isub, 136, 0, 0, [], 0, 0),
  (136, .invokestatic 222, 139, 142, 0, [], 0, 0),
  (139, .imul, 140, 0, 0, [], 0, 0),
  (140, .aload_n 0, 141, 0, 0, [], 0, 0),
  (141, .getfield 47, 144, 6, 30, [], 0, 0),
  (144, .iload 7, 146, 7, 0, [], 0, 0),
  (146, .iaload, 147, 0, 0, [], 0, 0),
  (147, .aload_n 0, 148, 0, 0, [], 0, 0),
  (148, .getfield 47, 151, 6, 30, [], 0, 0),
  (151, .iload 7, 153, 7, 0, [], 0, 0),
  (153, .iconst 1, 154, 0, 0, [], 1, 0),
  (154, .iload_n 2, 155, 2, 0, [], 0, 0),
  (155, .ishl, 156, 0, 0, [], 0, 0),
  (156, .ior, 157, 0, 0, [], 0, 0),
  (157, .iaload, 158, 0, 0, [], 0, 0),
  (158, .isub, 159, 0, 0, [], 0, 0),
  (159, .imul, 160, 0, 0, [], 0, 0),
  (160, .iadd, 161, 0, 0, [], 0, 0),
  (161, .istore 6, 163, 6, 0, [], 0, 0),
  (163, .iinc 7 1, 166, 7, 0, [], 1, 0),
  (166, .goto (-69), 169, 97, 0, [], 0, 0),
  (169, .iload 6, 171, 6, 0, [], 0, 0),
  (171, .iload 5, 173, 5, 0, [], 0, 0),
  (173, .invokestatic 222, 176, 142, 0, [], 0, 0),
  (176, .iload_n 3, 177, 3, 0, [], 0, 0),
  (177, .invokestatic 225, 180, 143, 0, [], 0, 0),
  (180, .ireturn, 181, 0, 0, [], 0, 0)]
/-- yX6_few -/
def P138 : List En := [(0, .aload_n 0, 1, 0, 0, [], 0, 0),
  (1, .getfield 19, 4, 6, 8, [], 0, 0),
  (4, .iload_n 1, 5, 1, 0, [], 0, 0),
  (5, .iaload, 6, 0, 0, [], 0, 0),
  (6, .iconst 4, 7, 0, 0, [], 4, 0),
  (7, .if_icmp .ge 12, 10, 19, 0, [], 0, 0),
  (10, .aload_n 0, 11, 0, 0, [], 0, 0),
  (11, .getfield 19, 14, 6, 8, [], 0, 0),
  (14, .iload_n 1, 15, 1, 0, [], 0, 0),
  (15, .iaload, 16, 0, 0, [], 0, 0),
  (16, .goto 4, 19, 20, 0, [], 0, 0),
  (19, .iconst 4, 20, 0, 0, [], 4, 0),
  (20, .ireturn, 21, 0, 0, [], 0, 0)]
/-- yX6_without -/
def P139 : List En := [(0, .aload_n 0, 1, 0, 0, [], 0, 0),
  (1, .invokevirtual 174, 4, 129, 0, [], 0, 0),
  (4, .iconst 0, 5, 0, 0, [], 0, 0),
  (5, .istore_n 3, 6, 3, 0, [], 0, 0),
  (6, .iload_n 3, 7, 3, 0, [], 0, 0),
  (7, .aload_n 0, 8, 0, 0, [], 0, 0),
  (8, .iload_n 1, 9, 1, 0, [], 0, 0),
  (9, .invokevirtual 208, 12, 138, 0, [], 0, 0),
  (12, .if_icmp .ge 33, 15, 45, 0, [], 0, 0),
  (15, .iload_n 2, 16, 2, 0, [], 0, 0),
  (16, .iload_n 3, 17, 3, 0, [], 0, 0),
  (17, .invokestatic 212, 20, 140, 0, [], 0, 0),
  (20, .ifCond .eq 19, 23, 39, 0, [], 0, 0),
  (23, .aload_n 0, 24, 0, 0, [], 0, 0),
  (24, .iload_n 1, 25, 1, 0, [], 0, 0),
  (25, .aload_n 0, 26, 0, 0, [], 0, 0),
  (26, .getfield 19, 29, 6, 8, [], 0, 0),
  (29, .iload_n 1, 30, 1, 0, [], 0, 0),
  (30, .iconst 1, 31, 0, 0, [], 1, 0),
  (31, .iadd, 32, 0, 0, [], 0, 0),
  (32, .iload_n 3, 33, 3, 0, [], 0, 0),
  (33, .iadd, 34, 0, 0, [], 0, 0),
  (34, .iaload, 35, 0, 0, [], 0, 0),
  (35, .invokevirtual 190, 38, 136, 0, [], 0, 0),
  (38, .pop, 39, 0, 0, [], 0, 0),
  (39, .iinc 3 1, 42, 3, 0, [], 1, 0),
  (42, .goto (-36), 45, 6, 0, [], 0, 0),
  (45, .return_, 46, 0, 0, [], 0, 0)]
/-- yX6_has -/
def P140 : List En := [(0, .iload_n 0, 1, 0, 0, [], 0, 0),
  (1, .iload_n 1, 2, 1, 0, [], 0, 0),
  (2, .ishr, 3, 0, 0, [], 0, 0),
  (3, .iconst 1, 4, 0, 0, [], 1, 0),
  (4, .iand, 5, 0, 0, [], 0, 0),
  (5, .iconst 1, 6, 0, 0, [], 1, 0),
  (6, .if_icmp .ne 7, 9, 13, 0, [], 0, 0),
  (9, .iconst 1, 10, 0, 0, [], 1, 0),
  (10, .goto 4, 13, 14, 0, [], 0, 0),
  (13, .iconst 0, 14, 0, 0, [], 0, 0),
  (14, .ireturn, 15, 0, 0, [], 0, 0)]
/-- yX6_many -/
def P141 : List En := [(0, .iconst 0, 1, 0, 0, [], 0, 0),
  (1, .istore_n 1, 2, 1, 0, [], 0, 0),
  (2, .iconst 0, 3, 0, 0, [], 0, 0),
  (3, .istore_n 2, 4, 2, 0, [], 0, 0),
  (4, .iload_n 2, 5, 2, 0, [], 0, 0),
  (5, .iconst 4, 6, 0, 0, [], 4, 0),
  (6, .if_icmp .ge 17, 9, 23, 0, [], 0, 0),
  (9, .iload_n 1, 10, 1, 0, [], 0, 0),
  (10, .iload_n 0, 11, 0, 0, [], 0, 0),
  (11, .iload_n 2, 12, 2, 0, [], 0, 0),
  (12, .ishr, 13, 0, 0, [], 0, 0),
  (13, .iconst 1, 14, 0, 0, [], 1, 0),
  (14, .iand, 15, 0, 0, [], 0, 0),
  (15, .iadd, 16, 0, 0, [], 0, 0),
  (16, .istore_n 1, 17, 1, 0, [], 0, 0),
  (17, .iinc 2 1, 20, 2, 0, [], 1, 0),
  (20, .goto (-16), 23, 4, 0, [], 0, 0),
  (23, .iload_n 1, 24, 1, 0, [], 0, 0),
  (24, .ireturn, 25, 0, 0, [], 0, 0)]
/-- yX6_ways -/
def P142 : List En := [(0, .iconst 1, 1, 0, 0, [], 1, 0),
  (1, .istore_n 1, 2, 1, 0, [], 0, 0),
  (2, .iconst 2, 3, 0, 0, [], 2, 0),
  (3, .istore_n 2, 4, 2, 0, [], 0, 0),
  (4, .iload_n 2, 5, 2, 0, [], 0, 0),
  (5, .iload_n 0, 6, 0, 0, [], 0, 0),
  (6, .if_icmp .gt 13, 9, 19, 0, [], 0, 0),
  (9, .iload_n 1, 10, 1, 0, [], 0, 0),
  (10, .iload_n 2, 11, 2, 0, [], 0, 0),
  (11, .imul, 12, 0, 0, [], 0, 0),
  (12, .istore_n 1, 13, 1, 0, [], 0, 0),
  (13, .iinc 2 1, 16, 2, 0, [], 1, 0),
  (16, .goto (-12), 19, 4, 0, [], 0, 0),
  (19, .iload_n 1, 20, 1, 0, [], 0, 0),
  (20, .ireturn, 21, 0, 0, [], 0, 0)]
/-- yX6_fraction -/
def P143 : List En := [(0, .iload_n 0, 1, 0, 0, [], 0, 0),
  (1, .iload_n 1, 2, 1, 0, [], 0, 0),
  (2, .invokestatic 205, 5, 144, 0, [], 0, 0),
  (5, .istore_n 3, 6, 3, 0, [], 0, 0),
  (6, .iload_n 2, 7, 2, 0, [], 0, 0),
  (7, .ifCond .eq 9, 10, 16, 0, [], 0, 0),
  (10, .iload_n 0, 11, 0, 0, [], 0, 0),
  (11, .iload_n 3, 12, 3, 0, [], 0, 0),
  (12, .idiv, 13, 0, 0, [], 0, 0),
  (13, .goto 6, 16, 19, 0, [], 0, 0),
  (16, .iload_n 1, 17, 1, 0, [], 0, 0),
  (17, .iload_n 3, 18, 3, 0, [], 0, 0),
  (18, .idiv, 19, 0, 0, [], 0, 0),
  (19, .ireturn, 20, 0, 0, [], 0, 0)]
/-- yX6_divisor -/
def P144 : List En := [(0, .iload_n 0, 1, 0, 0, [], 0, 0),
  (1, .ifCond .ge 8, 4, 9, 0, [], 0, 0),
  (4, .iload_n 0, 5, 0, 0, [], 0, 0),
  (5, .ineg, 6, 0, 0, [], 0, 0),
  (6, .goto 4, 9, 10, 0, [], 0, 0),
  (9, .iload_n 0, 10, 0, 0, [], 0, 0),
  (10, .istore_n 2, 11, 2, 0, [], 0, 0),
  (11, .iload_n 1, 12, 1, 0, [], 0, 0),
  (12, .istore_n 3, 13, 3, 0, [], 0, 0),
  (13, .iload_n 3, 14, 3, 0, [], 0, 0),
  (14, .ifCond .eq 16, 17, 30, 0, [], 0, 0),
  (17, .iload_n 2, 18, 2, 0, [], 0, 0),
  (18, .iload_n 3, 19, 3, 0, [], 0, 0),
  (19, .irem, 20, 0, 0, [], 0, 0),
  (20, .istore 4, 22, 4, 0, [], 0, 0),
  (22, .iload_n 3, 23, 3, 0, [], 0, 0),
  (23, .istore_n 2, 24, 2, 0, [], 0, 0),
  (24, .iload 4, 26, 4, 0, [], 0, 0),
  (26, .istore_n 3, 27, 3, 0, [], 0, 0),
  (27, .goto (-14), 30, 13, 0, [], 0, 0),
  (30, .iload_n 2, 31, 2, 0, [], 0, 0),
  (31, .ireturn, 32, 0, 0, [], 0, 0)]
/-- yX6_seek -/
def P145 : List En := [(0, .aload_n 0, 1, 0, 0, [], 0, 0),
  (1, .iconst 0, 2, 0, 0, [], 0, 0),
  (2, .putfield 50, 5, 6, 0, [], 0, 0),
  (5, .iload_n 1, 6, 1, 0, [], 0, 0),
  (6, .invokestatic 144, 9, 97, 0, [], 0, 0),
  (9, .ifCond .eq 5, 12, 14, 0, [], 0, 0),
  (12, .iconst (-1), 13, 0, 0, [], (-1), 0),
  (13, .ireturn, 14, 0, 0, [], 0, 0),
  (14, .iload_n 2, 15, 2, 0, [], 0, 0),
  (15, .i2l, 16, 0, 0, [], 0, 0),
  (16, .lconst 0, 17, 0, 0, [], 0, 0),
  (17, .ldc2_w 229, 20, 0, 0, [], 0, 20),
  (20, .invokestatic 54, 23, 89, 0, [], 0, 0),
  (23, .ifCond .eq 13, 26, 36, 0, [], 0, 0),
  (26, .iload_n 3, 27, 3, 0, [], 0, 0),
  (27, .i2l, 28, 0, 0, [], 0, 0),
  (28, .lconst 0, 29, 0, 0, [], 0, 0),
  (29, .lconst 1, 30, 0, 0, [], 0, 1),
  (30, .invokestatic 54, 33, 89, 0, [], 0, 0),
  (33, .ifCond .ne 6, 36, 39, 0, [], 0, 0),
  (36, .bipush (-2), 38, 0, 0, [], (-2), 0),
  (38, .ireturn, 39, 0, 0, [], 0, 0),
  (39, .aload_n 0, 40, 0, 0, [], 0, 0),
  (40, .getfield 231, 43, 6, 14, [], 0, 0),
  (43, .bipush 6, 45, 0, 0, [], 6, 0),
  (45, .if_icmp .ne 6, 48, 51, 0, [], 0, 0),
  (48, .bipush (-4), 50, 0, 0, [], (-4), 0),
  (50, .ireturn, 51, 0, 0, [], 0, 0),
  (51, .aload_n 0, 52, 0, 0, [], 0, 0),
  (52, .getfield 35, 55, 6, 15, [], 0, 0),
  (55, .aload_n 0, 56, 0, 0, [], 0, 0),
  (56, .getfield 231, 59, 6, 14, [], 0, 0),
  (59, .iload_n 1, 60, 1, 0, [], 0, 0),
  (60, .iastore, 61, 0, 0, [], 0, 0),
  (61, .aload_n 0, 62, 0, 0, [], 0, 0),
  (62, .getfield 38, 65, 6, 16, [], 0, 0),
  (65, .aload_n 0, 66, 0, 0, [], 0, 0),
  (66, .getfield 231, 69, 6, 14, [], 0, 0),
  (69, .iload_n 2, 70, 2, 0, [], 0, 0),
  (70, .iastore, 71, 0, 0, [], 0, 0),
  (71, .aload_n 0, 72, 0, 0, [], 0, 0),
  (72, .getfield 41, 75, 6, 17, [], 0, 0),
  (75, .aload_n 0, 76, 0, 0, [], 0, 0),
  (76, .getfield 231, 79, 6, 14, [], 0, 0),
  (79, .iload_n 3, 80, 3, 0, [], 0, 0),
  (80, .iastore, 81, 0, 0, [], 0, 0),
  (81, .aload_n 0, 82, 0, 0, [], 0, 0),
  (82, .dup, 83, 0, 0, [], 0, 0),
  (83, .getfield 231, 86, 6, 14, [], 0, 0),
  (86, .iconst 1, 87, 0, 0, [], 1, 0),
  (87, .iadd, 88, 0, 0, [], 0, 0),
  (88, .putfield 231, 91, 6, 14, [], 0, 0),
  (91, .aload_n 0, 92, 0, 0, [], 0, 0),
  (92, .getfield 231, 95, 6, 14, [], 0, 0),
  (95, .ireturn, 96, 0, 0, [], 0, 0)]
/-- yX6_unseek -/
def P146 : List En := [(0, .aload_n 0, 1, 0, 0, [], 0, 0),
  (1, .iconst 0, 2, 0, 0, [], 0, 0),
  (2, .putfield 50, 5, 6, 0, [], 0, 0),
  (5, .aload_n 0, 6, 0, 0, [], 0, 0),
  (6, .getfield 231, 9, 6, 14, [], 0, 0),
  (9, .istore_n 1, 10, 1, 0, [], 0, 0),
  (10, .aload_n 0, 11, 0, 0, [], 0, 0),
  (11, .iconst 0, 12, 0, 0, [], 0, 0),
  (12, .putfield 231, 15, 6, 14, [], 0, 0),
  (15, .iload_n 1, 16, 1, 0, [], 0, 0),
  (16, .ireturn, 17, 0, 0, [], 0, 0)]
/-- yX6_keys -/
def P147 : List En := [(0, .aload_n 0, 1, 0, 0, [], 0, 0),
  (1, .iconst 0, 2, 0, 0, [], 0, 0),
  (2, .putfield 50, 5, 6, 0, [], 0, 0),
  (5, .iload_n 1, 6, 1, 0, [], 0, 0),
  (6, .i2l, 7, 0, 0, [], 0, 0),
  (7, .lconst 0, 8, 0, 0, [], 0, 0),
  (8, .lconst 1, 9, 0, 0, [], 0, 1),
  (9, .invokestatic 54, 12, 89, 0, [], 0, 0),
  (12, .ifCond .ne 6, 15, 18, 0, [], 0, 0),
  (15, .bipush (-2), 17, 0, 0, [], (-2), 0),
  (17, .ireturn, 18, 0, 0, [], 0, 0),
  (18, .aload_n 0, 19, 0, 0, [], 0, 0),
  (19, .iconst 0, 20, 0, 0, [], 0, 0),
  (20, .putfield 234, 23, 6, 25, [], 0, 0),
  (23, .aload_n 0, 24, 0, 0, [], 0, 0),
  (24, .bipush (-9), 26, 0, 0, [], (-9), 0),
  (26, .putfield 237, 29, 6, 26, [], 0, 0),
  (29, .iconst 0, 30, 0, 0, [], 0, 0),
  (30, .istore_n 2, 31, 2, 0, [], 0, 0),
  (31, .iload_n 2, 32, 2, 0, [], 0, 0),
  (32, .bipush 100, 34, 0, 0, [], 100, 0),
  (34, .if_icmp .ge 136, 37, 170, 0, [], 0, 0),
  (37, .iconst 1, 38, 0, 0, [], 1, 0),
  (38, .istore_n 3, 39, 3, 0, [], 0, 0),
  (39, .iconst 0, 40, 0, 0, [], 0, 0),
  (40, .istore 4, 42, 4, 0, [], 0, 0),
  (42, .iload 4, 44, 4, 0, [], 0, 0),
  (44, .aload_n 0, 45, 0, 0, [], 0, 0),
  (45, .getfield 231, 48, 6, 14, [], 0, 0),
  (48, .if_icmp .ge 75, 51, 123, 0, [], 0, 0),
  (51, .aload_n 0, 52, 0, 0, [], 0, 0),
  (52, .aload_n 0, 53, 0, 0, [], 0, 0),
  (53, .getfield 19, 56, 6, 8, [], 0, 0),
  (56, .bipush 121, 58, 0, 0, [], 121, 0),
  (58, .aload_n 0, 59, 0, 0, [], 0, 0),
  (59, .getfield 35, 62, 6, 15, [], 0, 0),
  (62, .iload 4, 64, 4, 0, [], 0, 0),
  (64, .iaload, 65, 0, 0, [], 0, 0),
  (65, .imul, 66, 0, 0, [], 0, 0),
  (66, .iload_n 2, 67, 2, 0, [], 0, 0),
  (67, .invokevirtual 108, 70, 119, 0, [], 0, 0),
  (70, .istore 5, 72, 5, 0, [], 0, 0),
  (72, .iload_n 3, 73, 3, 0, [], 0, 0),
  (73, .ifCond .eq 42, 76, 115, 0, [], 0, 0),
  (76, .iload 5, 78, 5, 0, [], 0, 0),
  (78, .aload_n 0, 79, 0, 0, [], 0, 0),
  (79, .getfield 38, 82, 6, 16, [], 0, 0),
  (82, .iload 4, 84, 4, 0, [], 0, 0),
  (84, .iaload, 85, 0, 0, [], 0, 0),
  (85, .if_icmp .ne 30, 88, 115, 0, [], 0, 0),
  (88, .aload_n 0, 89, 0, 0, [], 0, 0),
  (89, .getfield 100, 92, 6, 20, [], 0, 0),
  (92, .aload_n 0, 93, 0, 0, [], 0, 0),
  (93, .getfield 41, 96, 6, 17, [], 0, 0),
  (96, .iload 4, 98, 4, 0, [], 0, 0),
  (98, .iaload, 99, 0, 0, [], 0, 0),
  (99, .iconst 1, 100, 0, 0, [], 1, 0),
  (100, .if_icmp .ne 7, 103, 107, 0, [], 0, 0),
  (103, .iconst 1, 104, 0, 0, [], 1, 0),
  (104, .goto 4, 107, 108, 0, [], 0, 0),
  (107, .iconst 0, 108, 0, 0, [], 0, 0),
  (108, .if_icmp .ne 7, 111, 115, 0, [], 0, 0),
  (111, .iconst 1, 112, 0, 0, [], 1, 0),
  (112, .goto 4, 115, 116, 0, [], 0, 0),
  (115, .iconst 0, 116, 0, 0, [], 0, 0),
  (116, .istore_n 3, 117, 3, 0, [], 0, 0),
  (117, .iinc 4 1, 120, 4, 0, [], 1, 0),
  (120, .goto (-78), 123, 42, 0, [], 0, 0),
  (123, .aload_n 0, 124, 0, 0, [], 0, 0),
  (124, .iload_n 3, 125, 3, 0, [], 0, 0),
  (125, .ifCond .eq 14, 128, 139, 0, [], 0, 0),
  (128, .aload_n 0, 129, 0, 0, [], 0, 0),
  (129, .getfield 234, 132, 6, 25, [], 0, 0),
  (132, .ifCond .ne 7, 135, 139, 0, [], 0, 0),
  (135, .iload_n 2, 136, 2, 0, [], 0, 0),
  (136, .goto 7, 139, 143, 0, [], 0, 0),
  (139, .aload_n 0, 140, 0, 0, [], 0, 0),
  (140, .getfield 237, 143, 6, 26, [], 0, 0),
  (143, .putfield 237, 146, 6, 26, [], 0, 0),
  (146, .aload_n 0, 147, 0, 0, [], 0, 0),
  (147, .dup, 148, 0, 0, [], 0, 0),
  (148, .getfield 234, 151, 6, 25, [], 0, 0),
  (151, .iload_n 3, 152, 3, 0, [], 0, 0),
  (152, .ifCond .eq 7, 155, 159, 0, [], 0, 0),
  (155, .iconst 1, 156, 0, 0, [], 1, 0),
  (156, .goto 4, 159, 160, 0, [], 0, 0),
  (159, .iconst 0, 160, 0, 0, [], 0, 0),
  (160, .iadd, 161, 0, 0, [], 0, 0),
  (161, .putfield 234, 164, 6, 25, [], 0, 0),
  (164, .iinc 2 1, 167, 2, 0, [], 1, 0),
  (167, .goto (-136), 170, 31, 0, [], 0, 0),
  (170, .iload_n 1, 171, 1, 0, [], 0, 0),
  (171, .ifCond .ne 10, 174, 181, 0, [], 0, 0),
  (174, .aload_n 0, 175, 0, 0, [], 0, 0),
  (175, .getfield 234, 178, 6, 25, [], 0, 0),
  (178, .goto 7, 181, 185, 0, [], 0, 0),
  (181, .aload_n 0, 182, 0, 0, [], 0, 0),
  (182, .getfield 237, 185, 6, 26, [], 0, 0),
  (185, .ireturn, 186, 0, 0, [], 0, 0)]
/-- yX6_rests -/
def P148 : List En := [(0, .aload_n 0, 1, 0, 0, [], 0, 0),
  (1, .iconst 0, 2, 0, 0, [], 0, 0),
  (2, .putfield 50, 5, 6, 0, [], 0, 0),
  (5, .iload_n 1, 6, 1, 0, [], 0, 0),
  (6, .invokestatic 144, 9, 97, 0, [], 0, 0),
  (9, .ifCond .ne 17, 12, 26, 0, [], 0, 0),
  (12, .iload_n 2, 13, 2, 0, [], 0, 0),
  (13, .invokestatic 150, 16, 100, 0, [], 0, 0),
  (16, .ifCond .ne 10, 19, 26, 0, [], 0, 0),
  (19, .iload_n 3, 20, 3, 0, [], 0, 0),
  (20, .invokestatic 150, 23, 100, 0, [], 0, 0),
  (23, .ifCond .eq 5, 26, 28, 0, [], 0, 0),
  (26, .iconst (-1), 27, 0, 0, [], (-1), 0),
  (27, .ireturn, 28, 0, 0, [], 0, 0),
  (28, .iload_n 2, 29, 2, 0, [], 0, 0),
  (29, .iload_n 3, 30, 3, 0, [], 0, 0),
  (30, .if_icmp .eq 14, 33, 44, 0, [], 0, 0),
  (33, .iload 4, 35, 4, 0, [], 0, 0),
  (35, .i2l, 36, 0, 0, [], 0, 0),
  (36, .lconst 0, 37, 0, 0, [], 0, 0),
  (37, .lconst 1, 38, 0, 0, [], 0, 1),
  (38, .invokestatic 54, 41, 89, 0, [], 0, 0),
  (41, .ifCond .ne 6, 44, 47, 0, [], 0, 0),
  (44, .bipush (-2), 46, 0, 0, [], (-2), 0),
  (46, .ireturn, 47, 0, 0, [], 0, 0),
  (47, .bipush 121, 49, 0, 0, [], 121, 0),
  (49, .iload_n 1, 50, 1, 0, [], 0, 0),
  (50, .imul, 51, 0, 0, [], 0, 0),
  (51, .istore 5, 53, 5, 0, [], 0, 0),
  (53, .aload_n 0, 54, 0, 0, [], 0, 0),
  (54, .getfield 19, 57, 6, 8, [], 0, 0),
  (57, .iload 5, 59, 5, 0, [], 0, 0),
  (59, .iload_n 2, 60, 2, 0, [], 0, 0),
  (60, .invokestatic 90, 63, 101, 0, [], 0, 0),
  (63, .bipush (-9), 65, 0, 0, [], (-9), 0),
  (65, .if_icmp .ne 18, 68, 83, 0, [], 0, 0),
  (68, .aload_n 0, 69, 0, 0, [], 0, 0),
  (69, .getfield 19, 72, 6, 8, [], 0, 0),
  (72, .iload 5, 74, 5, 0, [], 0, 0),
  (74, .iload_n 3, 75, 3, 0, [], 0, 0),
  (75, .invokestatic 90, 78, 101, 0, [], 0, 0),
  (78, .bipush (-9), 80, 0, 0, [], (-9), 0),
  (80, .if_icmp .eq 6, 83, 86, 0, [], 0, 0),
  (83, .bipush (-3), 85, 0, 0, [], (-3), 0),
  (85, .ireturn, 86, 0, 0, [], 0, 0),
  (86, .aload_n 0, 87, 0, 0, [], 0, 0),
  (87, .getfield 19, 90, 6, 8, [], 0, 0),
  (90, .iload 5, 92, 5, 0, [], 0, 0),
  (92, .iaload, 93, 0, 0, [], 0, 0),
  (93, .bipush 38, 95, 0, 0, [], 38, 0),
  (95, .if_icmp .le 6, 98, 101, 0, [], 0, 0),
  (98, .bipush (-4), 100, 0, 0, [], (-4), 0),
  (100, .ireturn, 101, 0, 0, [], 0, 0),
  (101, .aload_n 0, 102, 0, 0, [], 0, 0),
  (102, .iload 5, 104, 5, 0, [], 0, 0),
  (104, .iload_n 2, 105, 2, 0, [], 0, 0),
  (105, .iload_n 3, 106, 3, 0, [], 0, 0),
  (106, .invokevirtual 244, 109, 149, 0, [], 0, 0),
  (109, .aload_n 0, 110, 0, 0, [], 0, 0),
  (110, .iconst 0, 111, 0, 0, [], 0, 0),
  (111, .putfield 248, 114, 6, 27, [], 0, 0),
  (114, .aload_n 0, 115, 0, 0, [], 0, 0),
  (115, .bipush (-9), 117, 0, 0, [], (-9), 0),
  (117, .putfield 251, 120, 6, 28, [], 0, 0),
  (120, .iconst 0, 121, 0, 0, [], 0, 0),
  (121, .istore 6, 123, 6, 0, [], 0, 0),
  (123, .iload 6, 125, 6, 0, [], 0, 0),
  (125, .iconst 4, 126, 0, 0, [], 4, 0),
  (126, .if_icmp .ge 120, 129, 246, 0, [], 0, 0),
  (129, .aload_n 0, 130, 0, 0, [], 0, 0),
  (130, .getfield 44, 133, 6, 29, [], 0, 0),
  (133, .iconst 2, 134, 0, 0, [], 2, 0),
  (134, .iload 6, 136, 6, 0, [], 0, 0),
  (136, .iconst 2, 137, 0, 0, [], 2, 0),
  (137, .ixor, 138, 0, 0, [], 0, 0),
  (138, .imul, 139, 0, 0, [], 0, 0),
  (139, .iaload, 140, 0, 0, [], 0, 0),
  (140, .aload_n 0, 141, 0, 0, [], 0, 0),
  (141, .getfield 44, 144, 6, 29, [], 0, 0),
  (144, .iconst 2, 145, 0, 0, [], 2, 0),
  (145, .iload 6, 147, 6, 0, [], 0, 0),
  (147, .imul, 148, 0, 0, [], 0, 0),
  (148, .iaload, 149, 0, 0, [], 0, 0),
  (149, .if_icmp .gt 34, 152, 183, 0, [], 0, 0),
  (152, .aload_n 0, 153, 0, 0, [], 0, 0),
  (153, .getfield 44, 156, 6, 29, [], 0, 0),
  (156, .iconst 2, 157, 0, 0, [], 2, 0),
  (157, .iload 6, 159, 6, 0, [], 0, 0),
  (159, .iconst 1, 160, 0, 0, [], 1, 0),
  (160, .ixor, 161, 0, 0, [], 0, 0),
  (161, .imul, 162, 0, 0, [], 0, 0),
  (162, .iconst 1, 163, 0, 0, [], 1, 0),
  (163, .iadd, 164, 0, 0, [], 0, 0),
  (164, .iaload, 165, 0, 0, [], 0, 0),
  (165, .aload_n 0, 166, 0, 0, [], 0, 0),
  (166, .getfield 44, 169, 6, 29, [], 0, 0),
  (169, .iconst 2, 170, 0, 0, [], 2, 0),
  (170, .iload 6, 172, 6, 0, [], 0, 0),
  (172, .imul, 173, 0, 0, [], 0, 0),
  (173, .iconst 1, 174, 0, 0, [], 1, 0),
  (174, .iadd, 175, 0, 0, [], 0, 0),
  (175, .iaload, 176, 0, 0, [], 0, 0),
  (176, .if_icmp .gt 7, 179, 183, 0, [], 0, 0),
  (179, .iconst 1, 180, 0, 0, [], 1, 0),
  (180, .goto 4, 183, 184, 0, [], 0, 0),
  (183, .iconst 0, 184, 0, 0, [], 0, 0),
  (184, .istore 7, 186, 7, 0, [], 0, 0),
  (186, .aload_n 0, 187, 0, 0, [], 0, 0),
  (187, .iload 7, 189, 7, 0, [], 0, 0),
  (189, .ifCond .eq 25, 192, 214, 0, [], 0, 0),
  (192, .aload_n 0, 193, 0, 0, [], 0, 0),
  (193, .getfield 248, 196, 6, 27, [], 0, 0),
  (196, .ifCond .ne 18, 199, 214, 0, [], 0, 0),
  (199, .bipush 10, 201, 0, 0, [], 10, 0),
  (201, .iload 6, 203, 6, 0, [], 0, 0),
  (203, .iconst 2, 204, 0, 0, [], 2, 0),
  (204, .idiv, 205, 0, 0, [], 0, 0),
  (205, .imul, 206, 0, 0, [], 0, 0),
  (206, .iload 6, 208, 6, 0, [], 0, 0),
  (208, .iconst 2, 209, 0, 0, [], 2, 0),
  (209, .irem, 210, 0, 0, [], 0, 0),
  (210, .iadd, 211, 0, 0, [], 0, 0),
  (211, .goto 7, 214, 218, 0, [], 0, 0),
  (214, .aload_n 0, 215, 0, 0, [], 0, 0),
  (215, .getfield 251, 218, 6, 28, [], 0, 0),
  (218, .putfield 251, 221, 6, 28, [], 0, 0),
  (221, .aload_n 0, 222, 0, 0, [], 0, 0),
  (222, .dup, 223, 0, 0, [], 0, 0),
  (223, .getfield 248, 226, 6, 27, [], 0, 0),
  (226, .iload 7, 228, 7, 0, [], 0, 0),
  (228, .ifCond .eq 7, 231, 235, 0, [], 0, 0),
  (231, .iconst 1, 232, 0, 0, [], 1, 0),
  (232, .goto 4, 235, 236, 0, [], 0, 0),
  (235, .iconst 0, 236, 0, 0, [], 0, 0),
  (236, .iadd, 237, 0, 0, [], 0, 0),
  (237, .putfield 248, 240, 6, 27, [], 0, 0),
  (240, .iinc 6 1, 243, 6, 0, [], 1, 0),
  (243, .goto (-120), 246, 123, 0, [], 0, 0),
  (246, .iload 4, 248, 4, 0, [], 0, 0),
  (248, .ifCond .ne 10, 251, 258, 0, [], 0, 0),
  (251, .aload_n 0, 252, 0, 0, [], 0, 0),
  (252, .getfield 248, 255, 6, 27, [], 0, 0),
  (255, .goto 7, 258, 262, 0, [], 0, 0),
  (258, .aload_n 0, 259, 0, 0, [], 0, 0),
  (259, .getfield 251, 262, 6, 28, [], 0, 0),
  (262, .ireturn, 263, 0, 0, [], 0, 0)]
/-- yX6_layGains -/
def P149 : List En := [(0, .iconst 0, 1, 0, 0, [], 0, 0),
  (1, .istore 4, 3, 4, 0, [], 0, 0),
  (3, .iload 4, 5, 4, 0, [], 0, 0),
  (5, .iconst 4, 6, 0, 0, [], 4, 0),
  (6, .if_icmp .ge 89, 9, 95, 0, [], 0, 0),
  (9, .aload_n 0, 10, 0, 0, [], 0, 0),
  (10, .invokevirtual 174, 13, 129, 0, [], 0, 0),
  (13, .iload 4, 15, 4, 0, [], 0, 0),
  (15, .iconst 1, 16, 0, 0, [], 1, 0),
  (16, .if_icmp .le 14, 19, 30, 0, [], 0, 0),
  (19, .aload_n 0, 20, 0, 0, [], 0, 0),
  (20, .aload_n 0, 21, 0, 0, [], 0, 0),
  (21, .getfield 22, 24, 6, 9, [], 0, 0),
  (24, .iload_n 1, 25, 1, 0, [], 0, 0),
  (25, .iload_n 2, 26, 2, 0, [], 0, 0),
  (26, .iconst 0, 27, 0, 0, [], 0, 0),
  (27, .invokevirtual 93, 30, 103, 0, [], 0, 0),
  (30, .iload 4, 32, 4, 0, [], 0, 0),
  (32, .iconst 2, 33, 0, 0, [], 2, 0),
  (33, .irem, 34, 0, 0, [], 0, 0),
  (34, .iconst 1, 35, 0, 0, [], 1, 0),
  (35, .if_icmp .ne 14, 38, 49, 0, [], 0, 0),
  (38, .aload_n 0, 39, 0, 0, [], 0, 0),
  (39, .aload_n 0, 40, 0, 0, [], 0, 0),
  (40, .getfield 22, 43, 6, 9, [], 0, 0),
  (43, .iload_n 1, 44, 1, 0, [], 0, 0),
  (44, .iload_n 3, 45, 3, 0, [], 0, 0),
  (45, .iconst 0, 46, 0, 0, [], 0, 0),
  (46, .invokevirtual 93, 49, 103, 0, [], 0, 0),
  (49, .aload_n 0, 50, 0, 0, [], 0, 0),
  (50, .getfield 44, 53, 6, 29, [], 0, 0),
  (53, .iconst 2, 54, 0, 0, [], 2, 0),
  (54, .iload 4, 56, 4, 0, [], 0, 0),
  (56, .imul, 57, 0, 0, [], 0, 0),
  (57, .aload_n 0, 58, 0, 0, [], 0, 0),
  (58, .iload_n 1, 59, 1, 0, [], 0, 0),
  (59, .iload_n 2, 60, 2, 0, [], 0, 0),
  (60, .iload 4, 62, 4, 0, [], 0, 0),
  (62, .iconst 2, 63, 0, 0, [], 2, 0),
  (63, .idiv, 64, 0, 0, [], 0, 0),
  (64, .invokevirtual 240, 67, 150, 0, [], 0, 0),
  (67, .iastore, 68, 0, 0, [], 0, 0),
  (68, .aload_n 0, 69, 0, 0, [], 0, 0),
  (69, .getfield 44, 72, 6, 29, [], 0, 0),
  (72, .iconst 2, 73, 0, 0, [], 2, 0),
  (73, .iload 4, 75, 4, 0, [], 0, 0),
  (75, .imul, 76, 0, 0, [], 0, 0),
  (76, .iconst 1, 77, 0, 0, [], 1, 0),
  (77, .iadd, 78, 0, 0, [], 0, 0),
  (78, .aload_n 0, 79, 0, 0, [], 0, 0),
  (79, .iload_n 1, 80, 1, 0, [], 0, 0),
  (80, .iload_n 3, 81, 3, 0, [], 0, 0),
  (81, .iload 4, 83, 4, 0, [], 0, 0),
  (83, .iconst 2, 84, 0, 0, [], 2, 0),
  (84, .irem, 85, 0, 0, [], 0, 0),
  (85, .invokevirtual 240, 88, 150, 0, [], 0, 0),
  (88, .iastore, 89, 0, 0, [], 0, 0),
  (89, .iinc 4 1, 92, 4, 0, [], 1, 0),
  (92, .goto (-89), 95, 3, 0, [], 0, 0),
  (95, .return_, 96, 0, 0, [], 0, 0)]
/-- yX6_gain -/
def P150 : List En := [(0, .iload_n 3, 1, 3, 0, [], 0, 0),
  (1, .iconst 1, 2, 0, 0, [], 1, 0),
  (2, .if_icmp .ne 19, 5, 21, 0, [], 0, 0),
  (5, .bipush 10, 7, 0, 0, [], 10, 0),
  (7, .aload_n 0, 8, 0, 0, [], 0, 0),
  (8, .aload_n 0, 9, 0, 0, [], 0, 0),
  (9, .getfield 22, 12, 6, 9, [], 0, 0),
  (12, .iload_n 1, 13, 1, 0, [], 0, 0),
  (13, .iload_n 2, 14, 2, 0, [], 0, 0),
  (14, .invokevirtual 108, 17, 119, 0, [], 0, 0),
  (17, .isub, 18, 0, 0, [], 0, 0),
  (18, .goto 4, 21, 22, 0, [], 0, 0),
  (21, .iconst 4, 22, 0, 0, [], 4, 0),
  (22, .ireturn, 23, 0, 0, [], 0, 0)]
/-- yX6_lost -/
def P151 : List En := [(0, .aload_n 0, 1, 0, 0, [], 0, 0),
  (1, .iconst 0, 2, 0, 0, [], 0, 0),
  (2, .putfield 50, 5, 6, 0, [], 0, 0),
  (5, .iload_n 1, 6, 1, 0, [], 0, 0),
  (6, .invokestatic 144, 9, 97, 0, [], 0, 0),
  (9, .ifCond .eq 5, 12, 14, 0, [], 0, 0),
  (12, .iconst (-1), 13, 0, 0, [], (-1), 0),
  (13, .ireturn, 14, 0, 0, [], 0, 0),
  (14, .iload_n 2, 15, 2, 0, [], 0, 0),
  (15, .i2l, 16, 0, 0, [], 0, 0),
  (16, .lconst 0, 17, 0, 0, [], 0, 0),
  (17, .ldc2_w 254, 20, 0, 0, [], 0, 9),
  (20, .invokestatic 54, 23, 89, 0, [], 0, 0),
  (23, .ifCond .eq 15, 26, 38, 0, [], 0, 0),
  (26, .iload_n 3, 27, 3, 0, [], 0, 0),
  (27, .i2l, 28, 0, 0, [], 0, 0),
  (28, .lconst 0, 29, 0, 0, [], 0, 0),
  (29, .ldc2_w 256, 32, 0, 0, [], 0, 10),
  (32, .invokestatic 54, 35, 89, 0, [], 0, 0),
  (35, .ifCond .ne 6, 38, 41, 0, [], 0, 0),
  (38, .bipush (-2), 40, 0, 0, [], (-2), 0),
  (40, .ireturn, 41, 0, 0, [], 0, 0),
  (41, .bipush 121, 43, 0, 0, [], 121, 0),
  (43, .iload_n 1, 44, 1, 0, [], 0, 0),
  (44, .imul, 45, 0, 0, [], 0, 0),
  (45, .istore 5, 47, 5, 0, [], 0, 0),
  (47, .aload_n 0, 48, 0, 0, [], 0, 0),
  (48, .iload 5, 50, 5, 0, [], 0, 0),
  (50, .invokevirtual 208, 53, 138, 0, [], 0, 0),
  (53, .istore 6, 55, 6, 0, [], 0, 0),
  (55, .iconst 0, 56, 0, 0, [], 0, 0),
  (56, .istore 7, 58, 7, 0, [], 0, 0),
  (58, .iconst 0, 59, 0, 0, [], 0, 0),
  (59, .istore 8, 61, 8, 0, [], 0, 0),
  (61, .iload 8, 63, 8, 0, [], 0, 0),
  (63, .iconst 1, 64, 0, 0, [], 1, 0),
  (64, .iload 6, 66, 6, 0, [], 0, 0),
  (66, .ishl, 67, 0, 0, [], 0, 0),
  (67, .if_icmp .ge 65, 70, 132, 0, [], 0, 0),
  (70, .aload_n 0, 71, 0, 0, [], 0, 0),
  (71, .iload 5, 73, 5, 0, [], 0, 0),
  (73, .iload 8, 75, 8, 0, [], 0, 0),
  (75, .invokevirtual 215, 78, 139, 0, [], 0, 0),
  (78, .iload 8, 80, 8, 0, [], 0, 0),
  (80, .invokestatic 219, 83, 141, 0, [], 0, 0),
  (83, .istore 9, 85, 9, 0, [], 0, 0),
  (85, .iload 7, 87, 7, 0, [], 0, 0),
  (87, .aload_n 0, 88, 0, 0, [], 0, 0),
  (88, .getfield 22, 91, 6, 9, [], 0, 0),
  (91, .iload 5, 93, 5, 0, [], 0, 0),
  (93, .invokestatic 70, 96, 105, 0, [], 0, 0),
  (96, .iload_n 2, 97, 2, 0, [], 0, 0),
  (97, .if_icmp .gt 25, 100, 122, 0, [], 0, 0),
  (100, .iload_n 3, 101, 3, 0, [], 0, 0),
  (101, .iload 9, 103, 9, 0, [], 0, 0),
  (103, .invokestatic 258, 106, 152, 0, [], 0, 0),
  (106, .bipush 10, 108, 0, 0, [], 10, 0),
  (108, .iload_n 3, 109, 3, 0, [], 0, 0),
  (109, .isub, 110, 0, 0, [], 0, 0),
  (110, .iload 6, 112, 6, 0, [], 0, 0),
  (112, .iload 9, 114, 9, 0, [], 0, 0),
  (114, .isub, 115, 0, 0, [], 0, 0),
  (115, .invokestatic 258, 118, 152, 0, [], 0, 0),
  (118, .imul, 119, 0, 0, [], 0, 0),
  (119, .goto 4, 122, 123, 0, [], 0, 0),
  (122, .iconst 0, 123, 0, 0, [], 0, 0),
  (123, .iadd, 124, 0, 0, [], 0, 0),
  (124, .istore 7, 126, 7, 0, [], 0, 0),
  (126, .iinc 8 1, 129, 8, 0, [], 1, 0),
  (129, .goto (-68), 132, 61, 0, [], 0, 0),
  (132, .iload 7, 134, 7, 0, [], 0, 0),
  (134, .bipush 10, 136, 0, 0, [], 10, 0),
  (136, .iload 6, 138, 6, 0, [], 0, 0),
  (138, .invokestatic 258, 141, 152, 0, [], 0, 0),
  (141, .iload 4, 143, 4, 0, [], 0, 0),
  (143, .invokestatic 225, 146, 143, 0, [], 0, 0),
  (146, .ireturn, 147, 0, 0, [], 0, 0)]
/-- yX6_power -/
def P152 : List En := [(0, .iconst 1, 1, 0, 0, [], 1, 0),
  (1, .istore_n 2, 2, 2, 0, [], 0, 0),
  (2, .iconst 0, 3, 0, 0, [], 0, 0),
  (3, .istore_n 3, 4, 3, 0, [], 0, 0),
  (4, .iload_n 3, 5, 3, 0, [], 0, 0),
  (5, .iload_n 1, 6, 1, 0, [], 0, 0),
  (6, .if_icmp .ge 13, 9, 19, 0, [], 0, 0),
  (9, .iload_n 2, 10, 2, 0, [], 0, 0),
  (10, .iload_n 0, 11, 0, 0, [], 0, 0),
  (11, .imul, 12, 0, 0, [], 0, 0),
  (12, .istore_n 2, 13, 2, 0, [], 0, 0),
  (13, .iinc 3 1, 16, 3, 0, [], 1, 0),
  (16, .goto (-12), 19, 4, 0, [], 0, 0),
  (19, .iload_n 2, 20, 2, 0, [], 0, 0),
  (20, .ireturn, 21, 0, 0, [], 0, 0)]
/-- yX6_seed -/
def P153 : List En := [(0, .aload_n 0, 1, 0, 0, [], 0, 0),
  (1, .iconst 0, 2, 0, 0, [], 0, 0),
  (2, .putfield 50, 5, 6, 0, [], 0, 0),
  (5, .aload_n 0, 6, 0, 0, [], 0, 0),
  (6, .getfield 261, 9, 6, 18, [], 0, 0),
  (9, .lstore_n 3, 10, 3, 0, [], 0, 0),
  (10, .aload_n 0, 11, 0, 0, [], 0, 0),
  (11, .lload_n 1, 12, 1, 0, [], 0, 0),
  (12, .putfield 261, 15, 6, 18, [], 0, 0),
  (15, .lload_n 3, 16, 3, 0, [], 0, 0),
  (16, .lreturn, 17, 0, 0, [], 0, 0)]
/-- yX6_rounds -/
def P154 : List En := [(0, .aload_n 0, 1, 0, 0, [], 0, 0),
  (1, .iconst 0, 2, 0, 0, [], 0, 0),
  (2, .putfield 50, 5, 6, 0, [], 0, 0),
  (5, .iload_n 1, 6, 1, 0, [], 0, 0),
  (6, .invokestatic 144, 9, 97, 0, [], 0, 0),
  (9, .ifCond .eq 5, 12, 14, 0, [], 0, 0),
  (12, .iconst (-1), 13, 0, 0, [], (-1), 0),
  (13, .ireturn, 14, 0, 0, [], 0, 0),
  (14, .iload_n 2, 15, 2, 0, [], 0, 0),
  (15, .i2l, 16, 0, 0, [], 0, 0),
  (16, .lconst 1, 17, 0, 0, [], 0, 1),
  (17, .ldc2_w 265, 20, 0, 0, [], 0, 30),
  (20, .invokestatic 54, 23, 89, 0, [], 0, 0),
  (23, .ifCond .ne 6, 26, 29, 0, [], 0, 0),
  (26, .bipush (-2), 28, 0, 0, [], (-2), 0),
  (28, .ireturn, 29, 0, 0, [], 0, 0),
  (29, .aload_n 0, 30, 0, 0, [], 0, 0),
  (30, .invokevirtual 174, 33, 129, 0, [], 0, 0),
  (33, .iconst 0, 34, 0, 0, [], 0, 0),
  (34, .istore_n 3, 35, 3, 0, [], 0, 0),
  (35, .iconst 0, 36, 0, 0, [], 0, 0),
  (36, .istore 4, 38, 4, 0, [], 0, 0),
  (38, .iload 4, 40, 4, 0, [], 0, 0),
  (40, .iload_n 2, 41, 2, 0, [], 0, 0),
  (41, .if_icmp .ge 94, 44, 135, 0, [], 0, 0),
  (44, .aload_n 0, 45, 0, 0, [], 0, 0),
  (45, .aload_n 0, 46, 0, 0, [], 0, 0),
  (46, .getfield 261, 49, 6, 18, [], 0, 0),
  (49, .ldc2_w 267, 52, 0, 0, [], 0, 6364136223846793005),
  (52, .lmul, 53, 0, 0, [], 0, 0),
  (53, .ldc2_w 269, 56, 0, 0, [], 0, 1442695040888963407),
  (56, .ladd, 57, 0, 0, [], 0, 0),
  (57, .putfield 261, 60, 6, 18, [], 0, 0),
  (60, .aload_n 0, 61, 0, 0, [], 0, 0),
  (61, .getfield 261, 64, 6, 18, [], 0, 0),
  (64, .bipush 33, 66, 0, 0, [], 33, 0),
  (66, .lushr, 67, 0, 0, [], 0, 0),
  (67, .ldc2_w 271, 70, 0, 0, [], 0, 200),
  (70, .lrem, 71, 0, 0, [], 0, 0),
  (71, .l2i, 72, 0, 0, [], 0, 0),
  (72, .istore 5, 74, 5, 0, [], 0, 0),
  (74, .iload 5, 76, 5, 0, [], 0, 0),
  (76, .bipush 100, 78, 0, 0, [], 100, 0),
  (78, .if_icmp .ge 22, 81, 100, 0, [], 0, 0),
  (81, .aload_n 0, 82, 0, 0, [], 0, 0),
  (82, .aload_n 0, 83, 0, 0, [], 0, 0),
  (83, .getfield 22, 86, 6, 9, [], 0, 0),
  (86, .bipush 121, 88, 0, 0, [], 121, 0),
  (88, .iload_n 1, 89, 1, 0, [], 0, 0),
  (89, .imul, 90, 0, 0, [], 0, 0),
  (90, .iload 5, 92, 5, 0, [], 0, 0),
  (92, .iconst 0, 93, 0, 0, [], 0, 0),
  (93, .invokevirtual 155, 96, 102, 0, [], 0, 0),
  (96, .pop, 97, 0, 0, [], 0, 0),
  (97, .goto 17, 100, 114, 0, [], 0, 0),
  (100, .aload_n 0, 101, 0, 0, [], 0, 0),
  (101, .bipush 121, 103, 0, 0, [], 121, 0),
  (103, .iload_n 1, 104, 1, 0, [], 0, 0),
  (104, .imul, 105, 0, 0, [], 0, 0),
  (105, .iload 5, 107, 5, 0, [], 0, 0),
  (107, .bipush 100, 109, 0, 0, [], 100, 0),
  (109, .isub, 110, 0, 0, [], 0, 0),
  (110, .invokevirtual 190, 113, 136, 0, [], 0, 0),
  (113, .pop, 114, 0, 0, [], 0, 0),
  (114, .iload_n 3, 115, 3, 0, [], 0, 0),
  (115, .aload_n 0, 116, 0, 0, [], 0, 0),
  (116, .aload_n 0, 117, 0, 0, [], 0, 0),
  (117, .getfield 22, 120, 6, 9, [], 0, 0),
  (120, .bipush 121, 122, 0, 0, [], 121, 0),
  (122, .iload_n 1, 123, 1, 0, [], 0, 0),
  (123, .imul, 124, 0, 0, [], 0, 0),
  (124, .invokevirtual 169, 127, 118, 0, [], 0, 0),
  (127, .iadd, 128, 0, 0, [], 0, 0),
  (128, .istore_n 3, 129, 3, 0, [], 0, 0),
  (129, .iinc 4 1, 132, 4, 0, [], 1, 0),
  (132, .goto (-94), 135, 38, 0, [], 0, 0),
  (135, .iload_n 3, 136, 3, 0, [], 0, 0),
  (136, .ireturn, 137, 0, 0, [], 0, 0)]
/-- yX6_keep -/
def P155 : List En := [(0, .aload_n 0, 1, 0, 0, [], 0, 0),
  (1, .iconst 0, 2, 0, 0, [], 0, 0),
  (2, .putfield 50, 5, 6, 0, [], 0, 0),
  (5, .iload_n 1, 6, 1, 0, [], 0, 0),
  (6, .i2l, 7, 0, 0, [], 0, 0),
  (7, .lconst 0, 8, 0, 0, [], 0, 0),
  (8, .lconst 1, 9, 0, 0, [], 0, 1),
  (9, .invokestatic 54, 12, 89, 0, [], 0, 0),
  (12, .ifCond .ne 5, 15, 17, 0, [], 0, 0),
  (15, .iconst (-1), 16, 0, 0, [], (-1), 0),
  (16, .ireturn, 17, 0, 0, [], 0, 0),
  (17, .aload_n 0, 18, 0, 0, [], 0, 0),
  (18, .getfield 31, 21, 6, 13, [], 0, 0),
  (21, .iload_n 1, 22, 1, 0, [], 0, 0),
  (22, .iconst 1, 23, 0, 0, [], 1, 0),
  (23, .bastore, 24, 0, 0, [], 0, 0),
  (24, .iconst 0, 25, 0, 0, [], 0, 0),
  (25, .istore_n 2, 26, 2, 0, [], 0, 0),
  (26, .iload_n 2, 27, 2, 0, [], 0, 0),
  (27, .sipush 242, 30, 0, 0, [], 242, 0),
  (30, .if_icmp .ge 27, 33, 57, 0, [], 0, 0),
  (33, .aload_n 0, 34, 0, 0, [], 0, 0),
  (34, .getfield 28, 37, 6, 12, [], 0, 0),
  (37, .sipush 242, 40, 0, 0, [], 242, 0),
  (40, .iload_n 1, 41, 1, 0, [], 0, 0),
  (41, .imul, 42, 0, 0, [], 0, 0),
  (42, .iload_n 2, 43, 2, 0, [], 0, 0),
  (43, .iadd, 44, 0, 0, [], 0, 0),
  (44, .aload_n 0, 45, 0, 0, [], 0, 0),
  (45, .getfield 19, 48, 6, 8, [], 0, 0),
  (48, .iload_n 2, 49, 2, 0, [], 0, 0),
  (49, .iaload, 50, 0, 0, [], 0, 0),
  (50, .iastore, 51, 0, 0, [], 0, 0),
  (51, .iinc 2 1, 54, 2, 0, [], 1, 0),
  (54, .goto (-28), 57, 26, 0, [], 0, 0),
  (57, .aload_n 0, 58, 0, 0, [], 0, 0),
  (58, .getfield 19, 61, 6, 8, [], 0, 0),
  (61, .iconst 0, 62, 0, 0, [], 0, 0),
  (62, .iaload, 63, 0, 0, [], 0, 0),
  (63, .aload_n 0, 64, 0, 0, [], 0, 0),
  (64, .getfield 19, 67, 6, 8, [], 0, 0),
  (67, .bipush 121, 69, 0, 0, [], 121, 0),
  (69, .iaload, 70, 0, 0, [], 0, 0),
  (70, .iadd, 71, 0, 0, [], 0, 0),
  (71, .ireturn, 72, 0, 0, [], 0, 0)]
/-- yX6_again -/
def P156 : List En := [(0, .aload_n 0, 1, 0, 0, [], 0, 0),
  (1, .iconst 0, 2, 0, 0, [], 0, 0),
  (2, .putfield 50, 5, 6, 0, [], 0, 0),
  (5, .iload_n 1, 6, 1, 0, [], 0, 0),
  (6, .i2l, 7, 0, 0, [], 0, 0),
  (7, .lconst 0, 8, 0, 0, [], 0, 0),
  (8, .lconst 1, 9, 0, 0, [], 0, 1),
  (9, .invokestatic 54, 12, 89, 0, [], 0, 0),
  (12, .ifCond .ne 5, 15, 17, 0, [], 0, 0),
  (15, .iconst (-1), 16, 0, 0, [], (-1), 0),
  (16, .ireturn, 17, 0, 0, [], 0, 0),
  (17, .aload_n 0, 18, 0, 0, [], 0, 0),
  (18, .getfield 31, 21, 6, 13, [], 0, 0),
  (21, .iload_n 1, 22, 1, 0, [], 0, 0),
  (22, .baload, 23, 0, 0, [], 0, 0),
  (23, .ifCond .ne 6, 26, 29, 0, [], 0, 0),
  (26, .bipush (-3), 28, 0, 0, [], (-3), 0),
  (28, .ireturn, 29, 0, 0, [], 0, 0),
  (29, .iconst 0, 30, 0, 0, [], 0, 0),
  (30, .istore_n 2, 31, 2, 0, [], 0, 0),
  (31, .iload_n 2, 32, 2, 0, [], 0, 0),
  (32, .sipush 242, 35, 0, 0, [], 242, 0),
  (35, .if_icmp .ge 27, 38, 62, 0, [], 0, 0),
  (38, .aload_n 0, 39, 0, 0, [], 0, 0),
  (39, .getfield 19, 42, 6, 8, [], 0, 0),
  (42, .iload_n 2, 43, 2, 0, [], 0, 0),
  (43, .aload_n 0, 44, 0, 0, [], 0, 0),
  (44, .getfield 28, 47, 6, 12, [], 0, 0),
  (47, .sipush 242, 50, 0, 0, [], 242, 0),
  (50, .iload_n 1, 51, 1, 0, [], 0, 0),
  (51, .imul, 52, 0, 0, [], 0, 0),
  (52, .iload_n 2, 53, 2, 0, [], 0, 0),
  (53, .iadd, 54, 0, 0, [], 0, 0),
  (54, .iaload, 55, 0, 0, [], 0, 0),
  (55, .iastore, 56, 0, 0, [], 0, 0),
  (56, .iinc 2 1, 59, 2, 0, [], 1, 0),
  (59, .goto (-28), 62, 31, 0, [], 0, 0),
  (62, .aload_n 0, 63, 0, 0, [], 0, 0),
  (63, .iconst 0, 64, 0, 0, [], 0, 0),
  (64, .putfield 141, 67, 6, 11, [], 0, 0),
  (67, .aload_n 0, 68, 0, 0, [], 0, 0),
  (68, .getfield 19, 71, 6, 8, [], 0, 0),
  (71, .iconst 0, 72, 0, 0, [], 0, 0),
  (72, .iaload, 73, 0, 0, [], 0, 0),
  (73, .aload_n 0, 74, 0, 0, [], 0, 0),
  (74, .getfield 19, 77, 6, 8, [], 0, 0),
  (77, .bipush 121, 79, 0, 0, [], 121, 0),
  (79, .iaload, 80, 0, 0, [], 0, 0),
  (80, .iadd, 81, 0, 0, [], 0, 0),
  (81, .ireturn, 82, 0, 0, [], 0, 0)]
/-- yX6_count -/
def P157 : List En := [(0, .aload_n 0, 1, 0, 0, [], 0, 0),
  (1, .iconst 0, 2, 0, 0, [], 0, 0),
  (2, .putfield 50, 5, 6, 0, [], 0, 0),
  (5, .iload_n 1, 6, 1, 0, [], 0, 0),
  (6, .ifCond .ne 10, 9, 16, 0, [], 0, 0),
  (9, .aload_n 0, 10, 0, 0, [], 0, 0),
  (10, .getfield 141, 13, 6, 11, [], 0, 0),
  (13, .goto 29, 16, 42, 0, [], 0, 0),
  (16, .iload_n 1, 17, 1, 0, [], 0, 0),
  (17, .iconst 1, 18, 0, 0, [], 1, 0),
  (18, .if_icmp .ne 10, 21, 28, 0, [], 0, 0),
  (21, .aload_n 0, 22, 0, 0, [], 0, 0),
  (22, .getfield 231, 25, 6, 14, [], 0, 0),
  (25, .goto 17, 28, 42, 0, [], 0, 0),
  (28, .iload_n 1, 29, 1, 0, [], 0, 0),
  (29, .iconst 2, 30, 0, 0, [], 2, 0),
  (30, .if_icmp .ne 10, 33, 40, 0, [], 0, 0),
  (33, .aload_n 0, 34, 0, 0, [], 0, 0),
  (34, .getfield 113, 37, 6, 2, [], 0, 0),
  (37, .goto 5, 40, 42, 0, [], 0, 0),
  (40, .bipush (-2), 42, 0, 0, [], (-2), 0),
  (42, .ireturn, 43, 0, 0, [], 0, 0)]
/-- yJ6_bitCount_0f7a4 -/
def P158 : List En := [(0, .iload_n 0, 1, 0, 0, [], 0, 0),
  (1, .iload_n 0, 2, 0, 0, [], 0, 0),
  (2, .iconst 1, 3, 0, 0, [], 1, 0),
  (3, .iushr, 4, 0, 0, [], 0, 0),
  (4, .ldc_w 265, 7, 0, 0, [], 1431655765, 0),
  (7, .iand, 8, 0, 0, [], 0, 0),
  (8, .isub, 9, 0, 0, [], 0, 0),
  (9, .istore_n 0, 10, 0, 0, [], 0, 0),
  (10, .iload_n 0, 11, 0, 0, [], 0, 0),
  (11, .ldc_w 266, 14, 0, 0, [], 858993459, 0),
  (14, .iand, 15, 0, 0, [], 0, 0),
  (15, .iload_n 0, 16, 0, 0, [], 0, 0),
  (16, .iconst 2, 17, 0, 0, [], 2, 0),
  (17, .iushr, 18, 0, 0, [], 0, 0),
  (18, .ldc_w 266, 21, 0, 0, [], 858993459, 0),
  (21, .iand, 22, 0, 0, [], 0, 0),
  (22, .iadd, 23, 0, 0, [], 0, 0),
  (23, .istore_n 0, 24, 0, 0, [], 0, 0),
  (24, .iload_n 0, 25, 0, 0, [], 0, 0),
  (25, .iload_n 0, 26, 0, 0, [], 0, 0),
  (26, .iconst 4, 27, 0, 0, [], 4, 0),
  (27, .iushr, 28, 0, 0, [], 0, 0),
  (28, .iadd, 29, 0, 0, [], 0, 0),
  (29, .ldc_w 267, 32, 0, 0, [], 252645135, 0),
  (32, .iand, 33, 0, 0, [], 0, 0),
  (33, .istore_n 0, 34, 0, 0, [], 0, 0),
  (34, .iload_n 0, 35, 0, 0, [], 0, 0),
  (35, .iload_n 0, 36, 0, 0, [], 0, 0),
  (36, .bipush 8, 38, 0, 0, [], 8, 0),
  (38, .iushr, 39, 0, 0, [], 0, 0),
  (39, .iadd, 40, 0, 0, [], 0, 0),
  (40, .istore_n 0, 41, 0, 0, [], 0, 0),
  (41, .iload_n 0, 42, 0, 0, [], 0, 0),
  (42, .iload_n 0, 43, 0, 0, [], 0, 0),
  (43, .bipush 16, 45, 0, 0, [], 16, 0),
  (45, .iushr, 46, 0, 0, [], 0, 0),
  (46, .iadd, 47, 0, 0, [], 0, 0),
  (47, .istore_n 0, 48, 0, 0, [], 0, 0),
  (48, .iload_n 0, 49, 0, 0, [], 0, 0),
  (49, .bipush 63, 51, 0, 0, [], 63, 0),
  (51, .iand, 52, 0, 0, [], 0, 0),
  (52, .ireturn, 53, 0, 0, [], 0, 0)]
/-- yL_law -/
def P159 : List En := [(16, .iconst 0, 17, 0, 0, [], 0, 0),
  (17, .istore_n 3, 18, 3, 0, [], 0, 0),
  (18, .iload_n 3, 19, 3, 0, [], 0, 0),
  (19, .aload_n 0, 20, 0, 0, [], 0, 0),
  (20, .arraylength, 21, 0, 0, [], 0, 0),
  (21, .iconst 5, 22, 0, 0, [], 5, 0),
  (22, .isub, 23, 0, 0, [], 0, 0),
  (23, .if_icmp .gt 1214, 26, 1237, 0, [], 0, 0),
  (26, .aload_n 0, 27, 0, 0, [], 0, 0),
  (27, .iload_n 3, 28, 3, 0, [], 0, 0),
  (28, .iaload, 29, 0, 0, [], 0, 0),
  (29, .bipush 31, 31, 0, 0, [], 31, 0),
  (31, .iand, 32, 0, 0, [], 0, 0),
  (32, .tableswitch 1199 0 29 #[136, 159, 172, 185, 208, 251, 284, 327, 340, 373, 416, 449, 492, 525, 568, 601, 644, 687, 720, 783, 842, 885, 898, 921, 974, 1043, 1097, 1130, 1153, 1176], 168, 1231, 0, [168, 191, 204, 217, 240, 283, 316, 359, 372, 405, 448, 481, 524, 557, 600, 633, 676, 719, 752, 815, 874, 917, 930, 953, 1006, 1075, 1129, 1162, 1185, 1208], 0, 0),
  (168, .aload_n 1, 169, 1, 0, [], 0, 0),
  (169, .aload_n 0, 170, 0, 0, [], 0, 0),
  (170, .iload_n 3, 171, 3, 0, [], 0, 0),
  (171, .iconst 1, 172, 0, 0, [], 1, 0),
  (172, .iadd, 173, 0, 0, [], 0, 0),
  (173, .iaload, 174, 0, 0, [], 0, 0),
  (174, .invokevirtual 13, 177, 42, 0, [], 0, 0),
  (177, .aload_n 2, 178, 2, 0, [], 0, 0),
  (178, .aload_n 0, 179, 0, 0, [], 0, 0),
  (179, .iload_n 3, 180, 3, 0, [], 0, 0),
  (180, .iconst 1, 181, 0, 0, [], 1, 0),
  (181, .iadd, 182, 0, 0, [], 0, 0),
  (182, .iaload, 183, 0, 0, [], 0, 0),
  (183, .invokevirtual 17, 186, 88, 0, [], 0, 0),
  (186, .if_icmp .eq 1045, 189, 1231, 0, [], 0, 0),
  (189, .iconst 0, 190, 0, 0, [], 0, 0),
  (190, .ireturn, 191, 0, 0, [], 0, 0),
  (191, .aload_n 1, 192, 1, 0, [], 0, 0),
  (192, .invokevirtual 18, 195, 43, 0, [], 0, 0),
  (195, .aload_n 2, 196, 2, 0, [], 0, 0),
  (196, .invokevirtual 22, 199, 90, 0, [], 0, 0),
  (199, .if_icmp .eq 1032, 202, 1231, 0, [], 0, 0),
  (202, .iconst 0, 203, 0, 0, [], 0, 0),
  (203, .ireturn, 204, 0, 0, [], 0, 0),
  (204, .aload_n 1, 205, 1, 0, [], 0, 0),
  (205, .invokevirtual 23, 208, 44, 0, [], 0, 0),
  (208, .aload_n 2, 209, 2, 0, [], 0, 0),
  (209, .invokevirtual 26, 212, 91, 0, [], 0, 0),
  (212, .if_icmp .eq 1019, 215, 1231, 0, [], 0, 0),
  (215, .iconst 0, 216, 0, 0, [], 0, 0),
  (216, .ireturn, 217, 0, 0, [], 0, 0),
  (217, .aload_n 1, 218, 1, 0, [], 0, 0),
  (218, .aload_n 0, 219, 0, 0, [], 0, 0),
  (219, .iload_n 3, 220, 3, 0, [], 0, 0),
  (220, .iconst 1, 221, 0, 0, [], 1, 0),
  (221, .iadd, 222, 0, 0, [], 0, 0),
  (222, .iaload, 223, 0, 0, [], 0, 0),
  (223, .invokevirtual 27, 226, 45, 0, [], 0, 0),
  (226, .aload_n 2, 227, 2, 0, [], 0, 0),
  (227, .aload_n 0, 228, 0, 0, [], 0, 0),
  (228, .iload_n 3, 229, 3, 0, [], 0, 0),
  (229, .iconst 1, 230, 0, 0, [], 1, 0),
  (230, .iadd, 231, 0, 0, [], 0, 0),
  (231, .iaload, 232, 0, 0, [], 0, 0),
  (232, .invokevirtual 30, 235, 96, 0, [], 0, 0),
  (235, .if_icmp .eq 996, 238, 1231, 0, [], 0, 0),
  (238, .iconst 0, 239, 0, 0, [], 0, 0),
  (239, .ireturn, 240, 0, 0, [], 0, 0),
  (240, .aload_n 1, 241, 1, 0, [], 0, 0),
  (241, .aload_n 0, 242, 0, 0, [], 0, 0),
  (242, .iload_n 3, 243, 3, 0, [], 0, 0),
  (243, .iconst 1, 244, 0, 0, [], 1, 0),
  (244, .iadd, 245, 0, 0, [], 0, 0),
  (245, .iaload, 246, 0, 0, [], 0, 0),
  (246, .aload_n 0, 247, 0, 0, [], 0, 0),
  (247, .iload_n 3, 248, 3, 0, [], 0, 0),
  (248, .iconst 2, 249, 0, 0, [], 2, 0),
  (249, .iadd, 250, 0, 0, [], 0, 0),
  (250, .iaload, 251, 0, 0, [], 0, 0),
  (251, .aload_n 0, 252, 0, 0, [], 0, 0),
  (252, .iload_n 3, 253, 3, 0, [], 0, 0),
  (253, .iconst 3, 254, 0, 0, [], 3, 0),
  (254, .iadd, 255, 0, 0, [], 0, 0),
  (255, .iaload, 256, 0, 0, [], 0, 0),
  (256, .invokevirtual 31, 259, 47, 0, [], 0, 0),
  (259, .aload_n 2, 260, 2, 0, [], 0, 0),
  (260, .aload_n 0, 261, 0, 0, [], 0, 0),
  (261, .iload_n 3, 262, 3, 0, [], 0, 0),
  (262, .iconst 1, 263, 0, 0, [], 1, 0),
  (263, .iadd, 264, 0, 0, [], 0, 0),
  (264, .iaload, 265, 0, 0, [], 0, 0),
  (265, .aload_n 0, 266, 0, 0, [], 0, 0),
  (266, .iload_n 3, 267, 3, 0, [], 0, 0),
  (267, .iconst 2, 268, 0, 0, [], 2, 0),
  (268, .iadd, 269, 0, 0, [], 0, 0),
  (269, .iaload, 270, 0, 0, [], 0, 0),
  (270, .aload_n 0, 271, 0, 0, [], 0, 0),
  (271, .iload_n 3, 272, 3, 0, [], 0, 0),
  (272, .iconst 3, 273, 0, 0, [], 3, 0),
  (273, .iadd, 274, 0, 0, [], 0, 0),
  (274, .iaload, 275, 0, 0, [], 0, 0),
  (275, .invokevirtual 35, 278, 99, 0, [], 0, 0),
  (278, .if_icmp .eq 953, 281, 1231, 0, [], 0, 0),
  (281, .iconst 0, 282, 0, 0, [], 0, 0),
  (282, .ireturn, 283, 0, 0, [], 0, 0),
  (283, .aload_n 1, 284, 1, 0, [], 0, 0),
  (284, .aload_n 0, 285, 0, 0, [], 0, 0),
  (285, .iload_n 3, 286, 3, 0, [], 0, 0),
  (286, .iconst 1, 287, 0, 0, [], 1, 0),
  (287, .iadd, 288, 0, 0, [], 0, 0),
  (288, .iaload, 289, 0, 0, [], 0, 0),
  (289, .aload_n 0, 290, 0, 0, [], 0, 0),
  (290, .iload_n 3, 291, 3, 0, [], 0, 0),
  (291, .iconst 2, 292, 0, 0, [], 2, 0),
  (292, .iadd, 293, 0, 0, [], 0, 0),
  (293, .iaload, 294, 0, 0, [], 0, 0),
  (294, .invokevirtual 36, 297, 49, 0, [], 0, 0),
  (297, .aload_n 2, 298, 2, 0, [], 0, 0),
  (298, .aload_n 0, 299, 0, 0, [], 0, 0),
  (299, .iload_n 3, 300, 3, 0, [], 0, 0),
  (300, .iconst 1, 301, 0, 0, [], 1, 0),
  (301, .iadd, 302, 0, 0, [], 0, 0),
  (302, .iaload, 303, 0, 0, [], 0, 0),
  (303, .aload_n 0, 304, 0, 0, [], 0, 0),
  (304, .iload_n 3, 305, 3, 0, [], 0, 0),
  (305, .iconst 2, 306, 0, 0, [], 2, 0),
  (306, .iadd, 307, 0, 0, [], 0, 0),
  (307, .iaload, 308, 0, 0, [], 0, 0),
  (308, .invokevirtual 40, 311, 110, 0, [], 0, 0),
  (311, .if_icmp .eq 920, 314, 1231, 0, [], 0, 0),
  (314, .iconst 0, 315, 0, 0, [], 0, 0),
  (315, .ireturn, 316, 0, 0, [], 0, 0),
  (316, .aload_n 1, 317, 1, 0, [], 0, 0),
  (317, .aload_n 0, 318, 0, 0, [], 0, 0),
  (318, .iload_n 3, 319, 3, 0, [], 0, 0),
  (319, .iconst 1, 320, 0, 0, [], 1, 0),
  (320, .iadd, 321, 0, 0, [], 0, 0),
  (321, .iaload, 322, 0, 0, [], 0, 0),
  (322, .aload_n 0, 323, 0, 0, [], 0, 0),
  (323, .iload_n 3, 324, 3, 0, [], 0, 0),
  (324, .iconst 2, 325, 0, 0, [], 2, 0),
  (325, .iadd, 326, 0, 0, [], 0, 0),
  (326, .iaload, 327, 0, 0, [], 0, 0),
  (327, .aload_n 0, 328, 0, 0, [], 0, 0),
  (328, .iload_n 3, 329, 3, 0, [], 0, 0),
  (329, .iconst 3, 330, 0, 0, [], 3, 0),
  (330, .iadd, 331, 0, 0, [], 0, 0),
  (331, .iaload, 332, 0, 0, [], 0, 0),
  (332, .invokevirtual 41, 335, 50, 0, [], 0, 0),
  (335, .aload_n 2, 336, 2, 0, [], 0, 0),
  (336, .aload_n 0, 337, 0, 0, [], 0, 0),
  (337, .iload_n 3, 338, 3, 0, [], 0, 0),
  (338, .iconst 1, 339, 0, 0, [], 1, 0),
  (339, .iadd, 340, 0, 0, [], 0, 0),
  (340, .iaload, 341, 0, 0, [], 0, 0),
  (341, .aload_n 0, 342, 0, 0, [], 0, 0),
  (342, .iload_n 3, 343, 3, 0, [], 0, 0),
  (343, .iconst 2, 344, 0, 0, [], 2, 0),
  (344, .iadd, 345, 0, 0, [], 0, 0),
  (345, .iaload, 346, 0, 0, [], 0, 0),
  (346, .aload_n 0, 347, 0, 0, [], 0, 0),
  (347, .iload_n 3, 348, 3, 0, [], 0, 0),
  (348, .iconst 3, 349, 0, 0, [], 3, 0),
  (349, .iadd, 350, 0, 0, [], 0, 0),
  (350, .iaload, 351, 0, 0, [], 0, 0),
  (351, .invokevirtual 44, 354, 113, 0, [], 0, 0),
  (354, .if_icmp .eq 877, 357, 1231, 0, [], 0, 0),
  (357, .iconst 0, 358, 0, 0, [], 0, 0),
  (358, .ireturn, 359, 0, 0, [], 0, 0),
  (359, .aload_n 1, 360, 1, 0, [], 0, 0),
  (360, .invokevirtual 45, 363, 51, 0, [], 0, 0),
  (363, .aload_n 2, 364, 2, 0, [], 0, 0),
  (364, .invokevirtual 48, 367, 115, 0, [], 0, 0),
  (367, .if_icmp .eq 864, 370, 1231, 0, [], 0, 0),
  (370, .iconst 0, 371, 0, 0, [], 0, 0),
  (371, .ireturn, 372, 0, 0, [], 0, 0),
  (372, .aload_n 1, 373, 1, 0, [], 0, 0),
  (373, .aload_n 0, 374, 0, 0, [], 0, 0),
  (374, .iload_n 3, 375, 3, 0, [], 0, 0),
  (375, .iconst 1, 376, 0, 0, [], 1, 0),
  (376, .iadd, 377, 0, 0, [], 0, 0),
  (377, .iaload, 378, 0, 0, [], 0, 0),
  (378, .aload_n 0, 379, 0, 0, [], 0, 0),
  (379, .iload_n 3, 380, 3, 0, [], 0, 0),
  (380, .iconst 2, 381, 0, 0, [], 2, 0),
  (381, .iadd, 382, 0, 0, [], 0, 0),
  (382, .iaload, 383, 0, 0, [], 0, 0),
  (383, .invokevirtual 49, 386, 52, 0, [], 0, 0),
  (386, .aload_n 2, 387, 2, 0, [], 0, 0),
  (387, .aload_n 0, 388, 0, 0, [], 0, 0),
  (388, .iload_n 3, 389, 3, 0, [], 0, 0),
  (389, .iconst 1, 390, 0, 0, [], 1, 0),
  (390, .iadd, 391, 0, 0, [], 0, 0),
  (391, .iaload, 392, 0, 0, [], 0, 0),
  (392, .aload_n 0, 393, 0, 0, [], 0, 0),
  (393, .iload_n 3, 394, 3, 0, [], 0, 0),
  (394, .iconst 2, 395, 0, 0, [], 2, 0),
  (395, .iadd, 396, 0, 0, [], 0, 0),
  (396, .iaload, 397, 0, 0, [], 0, 0),
  (397, .invokevirtual 52, 400, 116, 0, [], 0, 0),
  (400, .if_icmp .eq 831, 403, 1231, 0, [], 0, 0),
  (403, .iconst 0, 404, 0, 0, [], 0, 0),
  (404, .ireturn, 405, 0, 0, [], 0, 0),
  (405, .aload_n 1, 406, 1, 0, [], 0, 0),
  (406, .aload_n 0, 407, 0, 0, [], 0, 0),
  (407, .iload_n 3, 408, 3, 0, [], 0, 0),
  (408, .iconst 1, 409, 0, 0, [], 1, 0),
  (409, .iadd, 410, 0, 0, [], 0, 0),
  (410, .iaload, 411, 0, 0, [], 0, 0),
  (411, .aload_n 0, 412, 0, 0, [], 0, 0),
  (412, .iload_n 3, 413, 3, 0, [], 0, 0),
  (413, .iconst 2, 414, 0, 0, [], 2, 0),
  (414, .iadd, 415, 0, 0, [], 0, 0),
  (415, .iaload, 416, 0, 0, [], 0, 0),
  (416, .aload_n 0, 417, 0, 0, [], 0, 0),
  (417, .iload_n 3, 418, 3, 0, [], 0, 0),
  (418, .iconst 3, 419, 0, 0, [], 3, 0),
  (419, .iadd, 420, 0, 0, [], 0, 0),
  (420, .iaload, 421, 0, 0, [], 0, 0),
  (421, .invokevirtual 53, 424, 53, 0, [], 0, 0),
  (424, .aload_n 2, 425, 2, 0, [], 0, 0),
  (425, .aload_n 0, 426, 0, 0, [], 0, 0),
  (426, .iload_n 3, 427, 3, 0, [], 0, 0),
  (427, .iconst 1, 428, 0, 0, [], 1, 0),
  (428, .iadd, 429, 0, 0, [], 0, 0),
  (429, .iaload, 430, 0, 0, [], 0, 0),
  (430, .aload_n 0, 431, 0, 0, [], 0, 0),
  (431, .iload_n 3, 432, 3, 0, [], 0, 0),
  (432, .iconst 2, 433, 0, 0, [], 2, 0),
  (433, .iadd, 434, 0, 0, [], 0, 0),
  (434, .iaload, 435, 0, 0, [], 0, 0),
  (435, .aload_n 0, 436, 0, 0, [], 0, 0),
  (436, .iload_n 3, 437, 3, 0, [], 0, 0),
  (437, .iconst 3, 438, 0, 0, [], 3, 0),
  (438, .iadd, 439, 0, 0, [], 0, 0),
  (439, .iaload, 440, 0, 0, [], 0, 0),
  (440, .invokevirtual 56, 443, 121, 0, [], 0, 0),
  (443, .if_icmp .eq 788, 446, 1231, 0, [], 0, 0),
  (446, .iconst 0, 447, 0, 0, [], 0, 0),
  (447, .ireturn, 448, 0, 0, [], 0, 0),
  (448, .aload_n 1, 449, 1, 0, [], 0, 0),
  (449, .aload_n 0, 450, 0, 0, [], 0, 0),
  (450, .iload_n 3, 451, 3, 0, [], 0, 0),
  (451, .iconst 1, 452, 0, 0, [], 1, 0),
  (452, .iadd, 453, 0, 0, [], 0, 0),
  (453, .iaload, 454, 0, 0, [], 0, 0),
  (454, .aload_n 0, 455, 0, 0, [], 0, 0),
  (455, .iload_n 3, 456, 3, 0, [], 0, 0),
  (456, .iconst 2, 457, 0, 0, [], 2, 0),
  (457, .iadd, 458, 0, 0, [], 0, 0),
  (458, .iaload, 459, 0, 0, [], 0, 0),
  (459, .invokevirtual 57, 462, 54, 0, [], 0, 0),
  (462, .aload_n 2, 463, 2, 0, [], 0, 0),
  (463, .aload_n 0, 464, 0, 0, [], 0, 0),
  (464, .iload_n 3, 465, 3, 0, [], 0, 0),
  (465, .iconst 1, 466, 0, 0, [], 1, 0),
  (466, .iadd, 467, 0, 0, [], 0, 0),
  (467, .iaload, 468, 0, 0, [], 0, 0),
  (468, .aload_n 0, 469, 0, 0, [], 0, 0),
  (469, .iload_n 3, 470, 3, 0, [], 0, 0),
  (470, .iconst 2, 471, 0, 0, [], 2, 0),
  (471, .iadd, 472, 0, 0, [], 0, 0),
  (472, .iaload, 473, 0, 0, [], 0, 0),
  (473, .invokevirtual 60, 476, 122, 0, [], 0, 0),
  (476, .if_icmp .eq 755, 479, 1231, 0, [], 0, 0),
  (479, .iconst 0, 480, 0, 0, [], 0, 0),
  (480, .ireturn, 481, 0, 0, [], 0, 0),
  (481, .aload_n 1, 482, 1, 0, [], 0, 0),
  (482, .aload_n 0, 483, 0, 0, [], 0, 0),
  (483, .iload_n 3, 484, 3, 0, [], 0, 0),
  (484, .iconst 1, 485, 0, 0, [], 1, 0),
  (485, .iadd, 486, 0, 0, [], 0, 0),
  (486, .iaload, 487, 0, 0, [], 0, 0),
  (487, .aload_n 0, 488, 0, 0, [], 0, 0),
  (488, .iload_n 3, 489, 3, 0, [], 0, 0),
  (489, .iconst 2, 490, 0, 0, [], 2, 0),
  (490, .iadd, 491, 0, 0, [], 0, 0),
  (491, .iaload, 492, 0, 0, [], 0, 0),
  (492, .aload_n 0, 493, 0, 0, [], 0, 0),
  (493, .iload_n 3, 494, 3, 0, [], 0, 0),
  (494, .iconst 3, 495, 0, 0, [], 3, 0),
  (495, .iadd, 496, 0, 0, [], 0, 0),
  (496, .iaload, 497, 0, 0, [], 0, 0),
  (497, .invokevirtual 61, 500, 55, 0, [], 0, 0),
  (500, .aload_n 2, 501, 2, 0, [], 0, 0),
  (501, .aload_n 0, 502, 0, 0, [], 0, 0),
  (502, .iload_n 3, 503, 3, 0, [], 0, 0),
  (503, .iconst 1, 504, 0, 0, [], 1, 0),
  (504, .iadd, 505, 0, 0, [], 0, 0),
  (505, .iaload, 506, 0, 0, [], 0, 0),
  (506, .aload_n 0, 507, 0, 0, [], 0, 0),
  (507, .iload_n 3, 508, 3, 0, [], 0, 0),
  (508, .iconst 2, 509, 0, 0, [], 2, 0),
  (509, .iadd, 510, 0, 0, [], 0, 0),
  (510, .iaload, 511, 0, 0, [], 0, 0),
  (511, .aload_n 0, 512, 0, 0, [], 0, 0),
  (512, .iload_n 3, 513, 3, 0, [], 0, 0),
  (513, .iconst 3, 514, 0, 0, [], 3, 0),
  (514, .iadd, 515, 0, 0, [], 0, 0),
  (515, .iaload, 516, 0, 0, [], 0, 0),
  (516, .invokevirtual 64, 519, 123, 0, [], 0, 0),
  (519, .if_icmp .eq 712, 522, 1231, 0, [], 0, 0),
  (522, .iconst 0, 523, 0, 0, [], 0, 0),
  (523, .ireturn, 524, 0, 0, [], 0, 0),
  (524, .aload_n 1, 525, 1, 0, [], 0, 0),
  (525, .aload_n 0, 526, 0, 0, [], 0, 0),
  (526, .iload_n 3, 527, 3, 0, [], 0, 0),
  (527, .iconst 1, 528, 0, 0, [], 1, 0),
  (528, .iadd, 529, 0, 0, [], 0, 0),
  (529, .iaload, 530, 0, 0, [], 0, 0),
  (530, .aload_n 0, 531, 0, 0, [], 0, 0),
  (531, .iload_n 3, 532, 3, 0, [], 0, 0),
  (532, .iconst 2, 533, 0, 0, [], 2, 0),
  (533, .iadd, 534, 0, 0, [], 0, 0),
  (534, .iaload, 535, 0, 0, [], 0, 0),
  (535, .invokevirtual 65, 538, 56, 0, [], 0, 0),
  (538, .aload_n 2, 539, 2, 0, [], 0, 0),
  (539, .aload_n 0, 540, 0, 0, [], 0, 0),
  (540, .iload_n 3, 541, 3, 0, [], 0, 0),
  (541, .iconst 1, 542, 0, 0, [], 1, 0),
  (542, .iadd, 543, 0, 0, [], 0, 0),
  (543, .iaload, 544, 0, 0, [], 0, 0),
  (544, .aload_n 0, 545, 0, 0, [], 0, 0),
  (545, .iload_n 3, 546, 3, 0, [], 0, 0),
  (546, .iconst 2, 547, 0, 0, [], 2, 0),
  (547, .iadd, 548, 0, 0, [], 0, 0),
  (548, .iaload, 549, 0, 0, [], 0, 0),
  (549, .invokevirtual 68, 552, 124, 0, [], 0, 0),
  (552, .if_icmp .eq 679, 555, 1231, 0, [], 0, 0),
  (555, .iconst 0, 556, 0, 0, [], 0, 0),
  (556, .ireturn, 557, 0, 0, [], 0, 0),
  (557, .aload_n 1, 558, 1, 0, [], 0, 0),
  (558, .aload_n 0, 559, 0, 0, [], 0, 0),
  (559, .iload_n 3, 560, 3, 0, [], 0, 0),
  (560, .iconst 1, 561, 0, 0, [], 1, 0),
  (561, .iadd, 562, 0, 0, [], 0, 0),
  (562, .iaload, 563, 0, 0, [], 0, 0),
  (563, .aload_n 0, 564, 0, 0, [], 0, 0),
  (564, .iload_n 3, 565, 3, 0, [], 0, 0),
  (565, .iconst 2, 566, 0, 0, [], 2, 0),
  (566, .iadd, 567, 0, 0, [], 0, 0),
  (567, .iaload, 568, 0, 0, [], 0, 0),
  (568, .aload_n 0, 569, 0, 0, [], 0, 0),
  (569, .iload_n 3, 570, 3, 0, [], 0, 0),
  (570, .iconst 3, 571, 0, 0, [], 3, 0),
  (571, .iadd, 572, 0, 0, [], 0, 0),
  (572, .iaload, 573, 0, 0, [], 0, 0),
  (573, .invokevirtual 69, 576, 57, 0, [], 0, 0),
  (576, .aload_n 2, 577, 2, 0, [], 0, 0),
  (577, .aload_n 0, 578, 0, 0, [], 0, 0),
  (578, .iload_n 3, 579, 3, 0, [], 0, 0),
  (579, .iconst 1, 580, 0, 0, [], 1, 0),
  (580, .iadd, 581, 0, 0, [], 0, 0),
  (581, .iaload, 582, 0, 0, [], 0, 0),
  (582, .aload_n 0, 583, 0, 0, [], 0, 0),
  (583, .iload_n 3, 584, 3, 0, [], 0, 0),
  (584, .iconst 2, 585, 0, 0, [], 2, 0),
  (585, .iadd, 586, 0, 0, [], 0, 0),
  (586, .iaload, 587, 0, 0, [], 0, 0),
  (587, .aload_n 0, 588, 0, 0, [], 0, 0),
  (588, .iload_n 3, 589, 3, 0, [], 0, 0),
  (589, .iconst 3, 590, 0, 0, [], 3, 0),
  (590, .iadd, 591, 0, 0, [], 0, 0),
  (591, .iaload, 592, 0, 0, [], 0, 0),
  (592, .invokevirtual 72, 595, 125, 0, [], 0, 0),
  (595, .if_icmp .eq 636, 598, 1231, 0, [], 0, 0),
  (598, .iconst 0, 599, 0, 0, [], 0, 0),
  (599, .ireturn, 600, 0, 0, [], 0, 0),
  (600, .aload_n 1, 601, 1, 0, [], 0, 0),
  (601, .aload_n 0, 602, 0, 0, [], 0, 0),
  (602, .iload_n 3, 603, 3, 0, [], 0, 0),
  (603, .iconst 1, 604, 0, 0, [], 1, 0),
  (604, .iadd, 605, 0, 0, [], 0, 0),
  (605, .iaload, 606, 0, 0, [], 0, 0),
  (606, .aload_n 0, 607, 0, 0, [], 0, 0),
  (607, .iload_n 3, 608, 3, 0, [], 0, 0),
  (608, .iconst 2, 609, 0, 0, [], 2, 0),
  (609, .iadd, 610, 0, 0, [], 0, 0),
  (610, .iaload, 611, 0, 0, [], 0, 0),
  (611, .invokevirtual 73, 614, 58, 0, [], 0, 0),
  (614, .aload_n 2, 615, 2, 0, [], 0, 0),
  (615, .aload_n 0, 616, 0, 0, [], 0, 0),
  (616, .iload_n 3, 617, 3, 0, [], 0, 0),
  (617, .iconst 1, 618, 0, 0, [], 1, 0),
  (618, .iadd, 619, 0, 0, [], 0, 0),
  (619, .iaload, 620, 0, 0, [], 0, 0),
  (620, .aload_n 0, 621, 0, 0, [], 0, 0),
  (621, .iload_n 3, 622, 3, 0, [], 0, 0),
  (622, .iconst 2, 623, 0, 0, [], 2, 0),
  (623, .iadd, 624, 0, 0, [], 0, 0),
  (624, .iaload, 625, 0, 0, [], 0, 0),
  (625, .invokevirtual 76, 628, 126, 0, [], 0, 0),
  (628, .if_icmp .eq 603, 631, 1231, 0, [], 0, 0),
  (631, .iconst 0, 632, 0, 0, [], 0, 0),
  (632, .ireturn, 633, 0, 0, [], 0, 0),
  (633, .aload_n 1, 634, 1, 0, [], 0, 0),
  (634, .aload_n 0, 635, 0, 0, [], 0, 0),
  (635, .iload_n 3, 636, 3, 0, [], 0, 0),
  (636, .iconst 1, 637, 0, 0, [], 1, 0),
  (637, .iadd, 638, 0, 0, [], 0, 0),
  (638, .iaload, 639, 0, 0, [], 0, 0),
  (639, .aload_n 0, 640, 0, 0, [], 0, 0),
  (640, .iload_n 3, 641, 3, 0, [], 0, 0),
  (641, .iconst 2, 642, 0, 0, [], 2, 0),
  (642, .iadd, 643, 0, 0, [], 0, 0),
  (643, .iaload, 644, 0, 0, [], 0, 0),
  (644, .aload_n 0, 645, 0, 0, [], 0, 0),
  (645, .iload_n 3, 646, 3, 0, [], 0, 0),
  (646, .iconst 3, 647, 0, 0, [], 3, 0),
  (647, .iadd, 648, 0, 0, [], 0, 0),
  (648, .iaload, 649, 0, 0, [], 0, 0),
  (649, .invokevirtual 77, 652, 59, 0, [], 0, 0),
  (652, .aload_n 2, 653, 2, 0, [], 0, 0),
  (653, .aload_n 0, 654, 0, 0, [], 0, 0),
  (654, .iload_n 3, 655, 3, 0, [], 0, 0),
  (655, .iconst 1, 656, 0, 0, [], 1, 0),
  (656, .iadd, 657, 0, 0, [], 0, 0),
  (657, .iaload, 658, 0, 0, [], 0, 0),
  (658, .aload_n 0, 659, 0, 0, [], 0, 0),
  (659, .iload_n 3, 660, 3, 0, [], 0, 0),
  (660, .iconst 2, 661, 0, 0, [], 2, 0),
  (661, .iadd, 662, 0, 0, [], 0, 0),
  (662, .iaload, 663, 0, 0, [], 0, 0),
  (663, .aload_n 0, 664, 0, 0, [], 0, 0),
  (664, .iload_n 3, 665, 3, 0, [], 0, 0),
  (665, .iconst 3, 666, 0, 0, [], 3, 0),
  (666, .iadd, 667, 0, 0, [], 0, 0),
  (667, .iaload, 668, 0, 0, [], 0, 0),
  (668, .invokevirtual 80, 671, 127, 0, [], 0, 0),
  (671, .if_icmp .eq 560, 674, 1231, 0, [], 0, 0),
  (674, .iconst 0, 675, 0, 0, [], 0, 0),
  (675, .ireturn, 676, 0, 0, [], 0, 0),
  (676, .aload_n 1, 677, 1, 0, [], 0, 0),
  (677, .aload_n 0, 678, 0, 0, [], 0, 0),
  (678, .iload_n 3, 679, 3, 0, [], 0, 0),
  (679, .iconst 1, 680, 0, 0, [], 1, 0),
  (680, .iadd, 681, 0, 0, [], 0, 0),
  (681, .iaload, 682, 0, 0, [], 0, 0),
  (682, .aload_n 0, 683, 0, 0, [], 0, 0),
  (683, .iload_n 3, 684, 3, 0, [], 0, 0),
  (684, .iconst 2, 685, 0, 0, [], 2, 0),
  (685, .iadd, 686, 0, 0, [], 0, 0),
  (686, .iaload, 687, 0, 0, [], 0, 0),
  (687, .aload_n 0, 688, 0, 0, [], 0, 0),
  (688, .iload_n 3, 689, 3, 0, [], 0, 0),
  (689, .iconst 3, 690, 0, 0, [], 3, 0),
  (690, .iadd, 691, 0, 0, [], 0, 0),
  (691, .iaload, 692, 0, 0, [], 0, 0),
  (692, .invokevirtual 81, 695, 60, 0, [], 0, 0),
  (695, .aload_n 2, 696, 2, 0, [], 0, 0),
  (696, .aload_n 0, 697, 0, 0, [], 0, 0),
  (697, .iload_n 3, 698, 3, 0, [], 0, 0),
  (698, .iconst 1, 699, 0, 0, [], 1, 0),
  (699, .iadd, 700, 0, 0, [], 0, 0),
  (700, .iaload, 701, 0, 0, [], 0, 0),
  (701, .aload_n 0, 702, 0, 0, [], 0, 0),
  (702, .iload_n 3, 703, 3, 0, [], 0, 0),
  (703, .iconst 2, 704, 0, 0, [], 2, 0),
  (704, .iadd, 705, 0, 0, [], 0, 0),
  (705, .iaload, 706, 0, 0, [], 0, 0),
  (706, .aload_n 0, 707, 0, 0, [], 0, 0),
  (707, .iload_n 3, 708, 3, 0, [], 0, 0),
  (708, .iconst 3, 709, 0, 0, [], 3, 0),
  (709, .iadd, 710, 0, 0, [], 0, 0),
  (710, .iaload, 711, 0, 0, [], 0, 0),
  (711, .invokevirtual 84, 714, 128, 0, [], 0, 0),
  (714, .if_icmp .eq 517, 717, 1231, 0, [], 0, 0),
  (717, .iconst 0, 718, 0, 0, [], 0, 0),
  (718, .ireturn, 719, 0, 0, [], 0, 0),
  (719, .aload_n 1, 720, 1, 0, [], 0, 0),
  (720, .aload_n 0, 721, 0, 0, [], 0, 0),
  (721, .iload_n 3, 722, 3, 0, [], 0, 0),
  (722, .iconst 1, 723, 0, 0, [], 1, 0),
  (723, .iadd, 724, 0, 0, [], 0, 0),
  (724, .iaload, 725, 0, 0, [], 0, 0),
  (725, .aload_n 0, 726, 0, 0, [], 0, 0),
  (726, .iload_n 3, 727, 3, 0, [], 0, 0),
  (727, .iconst 2, 728, 0, 0, [], 2, 0),
  (728, .iadd, 729, 0, 0, [], 0, 0),
  (729, .iaload, 730, 0, 0, [], 0, 0),
  (730, .invokevirtual 85, 733, 62, 0, [], 0, 0),
  (733, .aload_n 2, 734, 2, 0, [], 0, 0),
  (734, .aload_n 0, 735, 0, 0, [], 0, 0),
  (735, .iload_n 3, 736, 3, 0, [], 0, 0),
  (736, .iconst 1, 737, 0, 0, [], 1, 0),
  (737, .iadd, 738, 0, 0, [], 0, 0),
  (738, .iaload, 739, 0, 0, [], 0, 0),
  (739, .aload_n 0, 740, 0, 0, [], 0, 0),
  (740, .iload_n 3, 741, 3, 0, [], 0, 0),
  (741, .iconst 2, 742, 0, 0, [], 2, 0),
  (742, .iadd, 743, 0, 0, [], 0, 0),
  (743, .iaload, 744, 0, 0, [], 0, 0),
  (744, .invokevirtual 88, 747, 131, 0, [], 0, 0),
  (747, .if_icmp .eq 484, 750, 1231, 0, [], 0, 0),
  (750, .iconst 0, 751, 0, 0, [], 0, 0),
  (751, .ireturn, 752, 0, 0, [], 0, 0),
  (752, .aload_n 1, 753, 1, 0, [], 0, 0),
  (753, .aload_n 0, 754, 0, 0, [], 0, 0),
  (754, .iload_n 3, 755, 3, 0, [], 0, 0),
  (755, .iconst 1, 756, 0, 0, [], 1, 0),
  (756, .iadd, 757, 0, 0, [], 0, 0),
  (757, .iaload, 758, 0, 0, [], 0, 0),
  (758, .aload_n 0, 759, 0, 0, [], 0, 0),
  (759, .iload_n 3, 760, 3, 0, [], 0, 0),
  (760, .iconst 2, 761, 0, 0, [], 2, 0),
  (761, .iadd, 762, 0, 0, [], 0, 0),
  (762, .iaload, 763, 0, 0, [], 0, 0),
  (763, .i2l, 764, 0, 0, [], 0, 0),
  (764, .bipush 32, 766, 0, 0, [], 32, 0),
  (766, .lshl, 767, 0, 0, [], 0, 0),
  (767, .aload_n 0, 768, 0, 0, [], 0, 0),
  (768, .iload_n 3, 769, 3, 0, [], 0, 0),
  (769, .iconst 3, 770, 0, 0, [], 3, 0),
  (770, .iadd, 771, 0, 0, [], 0, 0),
  (771, .iaload, 772, 0, 0, [], 0, 0),
  (772, .i2l, 773, 0, 0, [], 0, 0),
  (773, .ldc2_w 89, 776, 0, 0, [], 0, 4294967295),
  (776, .land, 777, 0, 0, [], 0, 0),
  (777, .lor, 778, 0, 0, [], 0, 0),
  (778, .invokevirtual 91, 781, 65, 0, [], 0, 0),
  (781, .aload_n 2, 782, 2, 0, [], 0, 0),
  (782, .aload_n 0, 783, 0, 0, [], 0, 0),
  (783, .iload_n 3, 784, 3, 0, [], 0, 0),
  (784, .iconst 1, 785, 0, 0, [], 1, 0),
  (785, .iadd, 786, 0, 0, [], 0, 0),
  (786, .iaload, 787, 0, 0, [], 0, 0),
  (787, .aload_n 0, 788, 0, 0, [], 0, 0),
  (788, .iload_n 3, 789, 3, 0, [], 0, 0),
  (789, .iconst 2, 790, 0, 0, [], 2, 0),
  (790, .iadd, 791, 0, 0, [], 0, 0),
  (791, .iaload, 792, 0, 0, [], 0, 0),
  (792, .i2l, 793, 0, 0, [], 0, 0),
  (793, .bipush 32, 795, 0, 0, [], 32, 0),
  (795, .lshl, 796, 0, 0, [], 0, 0),
  (796, .aload_n 0, 797, 0, 0, [], 0, 0),
  (797, .iload_n 3, 798, 3, 0, [], 0, 0),
  (798, .iconst 3, 799, 0, 0, [], 3, 0),
  (799, .iadd, 800, 0, 0, [], 0, 0),
  (800, .iaload, 801, 0, 0, [], 0, 0),
  (801, .i2l, 802, 0, 0, [], 0, 0),
  (802, .ldc2_w 89, 805, 0, 0, [], 0, 4294967295),
  (805, .land, 806, 0, 0, [], 0, 0),
  (806, .lor, 807, 0, 0, [], 0, 0),
  (807, .invokevirtual 95, 810, 133, 0, [], 0, 0),
  (810, .if_icmp .eq 421, 813, 1231, 0, [], 0, 0),
  (813, .iconst 0, 814, 0, 0, [], 0, 0),
  (814, .ireturn, 815, 0, 0, [], 0, 0),
  (815, .aload_n 1, 816, 1, 0, [], 0, 0),
  (816, .aload_n 0, 817, 0, 0, [], 0, 0),
  (817, .iload_n 3, 818, 3, 0, [], 0, 0),
  (818, .iconst 1, 819, 0, 0, [], 1, 0),
  (819, .iadd, 820, 0, 0, [], 0, 0),
  (820, .iaload, 821, 0, 0, [], 0, 0),
  (821, .aload_n 0, 822, 0, 0, [], 0, 0),
  (822, .iload_n 3, 823, 3, 0, [], 0, 0),
  (823, .iconst 2, 824, 0, 0, [], 2, 0),
  (824, .iadd, 825, 0, 0, [], 0, 0),
  (825, .iaload, 826, 0, 0, [], 0, 0),
  (826, .aload_n 0, 827, 0, 0, [], 0, 0),
  (827, .iload_n 3, 828, 3, 0, [], 0, 0),
  (828, .iconst 3, 829, 0, 0, [], 3, 0),
  (829, .iadd, 830, 0, 0, [], 0, 0),
  (830, .iaload, 831, 0, 0, [], 0, 0),
  (831, .ifCond .eq 7, 834, 838, 0, [], 0, 0),
  (834, .iconst 1, 835, 0, 0, [], 1, 0),
  (835, .goto 4, 838, 839, 0, [], 0, 0),
  (838, .iconst 0, 839, 0, 0, [], 0, 0),
  (839, .invokevirtual 96, 842, 67, 0, [], 0, 0),
  (842, .aload_n 2, 843, 2, 0, [], 0, 0),
  (843, .aload_n 0, 844, 0, 0, [], 0, 0),
  (844, .iload_n 3, 845, 3, 0, [], 0, 0),
  (845, .iconst 1, 846, 0, 0, [], 1, 0),
  (846, .iadd, 847, 0, 0, [], 0, 0),
  (847, .iaload, 848, 0, 0, [], 0, 0),
  (848, .aload_n 0, 849, 0, 0, [], 0, 0),
  (849, .iload_n 3, 850, 3, 0, [], 0, 0),
  (850, .iconst 2, 851, 0, 0, [], 2, 0),
  (851, .iadd, 852, 0, 0, [], 0, 0),
  (852, .iaload, 853, 0, 0, [], 0, 0),
  (853, .aload_n 0, 854, 0, 0, [], 0, 0),
  (854, .iload_n 3, 855, 3, 0, [], 0, 0),
  (855, .iconst 3, 856, 0, 0, [], 3, 0),
  (856, .iadd, 857, 0, 0, [], 0, 0),
  (857, .iaload, 858, 0, 0, [], 0, 0),
  (858, .ifCond .eq 7, 861, 865, 0, [], 0, 0),
  (861, .iconst 1, 862, 0, 0, [], 1, 0),
  (862, .goto 4, 865, 866, 0, [], 0, 0),
  (865, .iconst 0, 866, 0, 0, [], 0, 0),
  (866, .invokevirtual 100, 869, 137, 0, [], 0, 0),
  (869, .if_icmp .eq 362, 872, 1231, 0, [], 0, 0),
  (872, .iconst 0, 873, 0, 0, [], 0, 0),
  (873, .ireturn, 874, 0, 0, [], 0, 0),
  (874, .aload_n 1, 875, 1, 0, [], 0, 0),
  (875, .aload_n 0, 876, 0, 0, [], 0, 0),
  (876, .iload_n 3, 877, 3, 0, [], 0, 0),
  (877, .iconst 1, 878, 0, 0, [], 1, 0),
  (878, .iadd, 879, 0, 0, [], 0, 0),
  (879, .iaload, 880, 0, 0, [], 0, 0),
  (880, .aload_n 0, 881, 0, 0, [], 0, 0),
  (881, .iload_n 3, 882, 3, 0, [], 0, 0),
  (882, .iconst 2, 883, 0, 0, [], 2, 0),
  (883, .iadd, 884, 0, 0, [], 0, 0),
  (884, .iaload, 885, 0, 0, [], 0, 0),
  (885, .aload_n 0, 886, 0, 0, [], 0, 0),
  (886, .iload_n 3, 887, 3, 0, [], 0, 0),
  (887, .iconst 3, 888, 0, 0, [], 3, 0),
  (888, .iadd, 889, 0, 0, [], 0, 0),
  (889, .iaload, 890, 0, 0, [], 0, 0),
  (890, .invokevirtual 101, 893, 74, 0, [], 0, 0),
  (893, .aload_n 2, 894, 2, 0, [], 0, 0),
  (894, .aload_n 0, 895, 0, 0, [], 0, 0),
  (895, .iload_n 3, 896, 3, 0, [], 0, 0),
  (896, .iconst 1, 897, 0, 0, [], 1, 0),
  (897, .iadd, 898, 0, 0, [], 0, 0),
  (898, .iaload, 899, 0, 0, [], 0, 0),
  (899, .aload_n 0, 900, 0, 0, [], 0, 0),
  (900, .iload_n 3, 901, 3, 0, [], 0, 0),
  (901, .iconst 2, 902, 0, 0, [], 2, 0),
  (902, .iadd, 903, 0, 0, [], 0, 0),
  (903, .iaload, 904, 0, 0, [], 0, 0),
  (904, .aload_n 0, 905, 0, 0, [], 0, 0),
  (905, .iload_n 3, 906, 3, 0, [], 0, 0),
  (906, .iconst 3, 907, 0, 0, [], 3, 0),
  (907, .iadd, 908, 0, 0, [], 0, 0),
  (908, .iaload, 909, 0, 0, [], 0, 0),
  (909, .invokevirtual 104, 912, 145, 0, [], 0, 0),
  (912, .if_icmp .eq 319, 915, 1231, 0, [], 0, 0),
  (915, .iconst 0, 916, 0, 0, [], 0, 0),
  (916, .ireturn, 917, 0, 0, [], 0, 0),
  (917, .aload_n 1, 918, 1, 0, [], 0, 0),
  (918, .invokevirtual 105, 921, 75, 0, [], 0, 0),
  (921, .aload_n 2, 922, 2, 0, [], 0, 0),
  (922, .invokevirtual 108, 925, 146, 0, [], 0, 0),
  (925, .if_icmp .eq 306, 928, 1231, 0, [], 0, 0),
  (928, .iconst 0, 929, 0, 0, [], 0, 0),
  (929, .ireturn, 930, 0, 0, [], 0, 0),
  (930, .aload_n 1, 931, 1, 0, [], 0, 0),
  (931, .aload_n 0, 932, 0, 0, [], 0, 0),
  (932, .iload_n 3, 933, 3, 0, [], 0, 0),
  (933, .iconst 1, 934, 0, 0, [], 1, 0),
  (934, .iadd, 935, 0, 0, [], 0, 0),
  (935, .iaload, 936, 0, 0, [], 0, 0),
  (936, .invokevirtual 109, 939, 76, 0, [], 0, 0),
  (939, .aload_n 2, 940, 2, 0, [], 0, 0),
  (940, .aload_n 0, 941, 0, 0, [], 0, 0),
  (941, .iload_n 3, 942, 3, 0, [], 0, 0),
  (942, .iconst 1, 943, 0, 0, [], 1, 0),
  (943, .iadd, 944, 0, 0, [], 0, 0),
  (944, .iaload, 945, 0, 0, [], 0, 0),
  (945, .invokevirtual 112, 948, 147, 0, [], 0, 0),
  (948, .if_icmp .eq 283, 951, 1231, 0, [], 0, 0),
  (951, .iconst 0, 952, 0, 0, [], 0, 0),
  (952, .ireturn, 953, 0, 0, [], 0, 0),
  (953, .aload_n 1, 954, 1, 0, [], 0, 0),
  (954, .aload_n 0, 955, 0, 0, [], 0, 0),
  (955, .iload_n 3, 956, 3, 0, [], 0, 0),
  (956, .iconst 1, 957, 0, 0, [], 1, 0),
  (957, .iadd, 958, 0, 0, [], 0, 0),
  (958, .iaload, 959, 0, 0, [], 0, 0),
  (959, .aload_n 0, 960, 0, 0, [], 0, 0),
  (960, .iload_n 3, 961, 3, 0, [], 0, 0),
  (961, .iconst 2, 962, 0, 0, [], 2, 0),
  (962, .iadd, 963, 0, 0, [], 0, 0),
  (963, .iaload, 964, 0, 0, [], 0, 0),
  (964, .aload_n 0, 965, 0, 0, [], 0, 0),
  (965, .iload_n 3, 966, 3, 0, [], 0, 0),
  (966, .iconst 3, 967, 0, 0, [], 3, 0),
  (967, .iadd, 968, 0, 0, [], 0, 0),
  (968, .iaload, 969, 0, 0, [], 0, 0),
  (969, .aload_n 0, 970, 0, 0, [], 0, 0),
  (970, .iload_n 3, 971, 3, 0, [], 0, 0),
  (971, .iconst 4, 972, 0, 0, [], 4, 0),
  (972, .iadd, 973, 0, 0, [], 0, 0),
  (973, .iaload, 974, 0, 0, [], 0, 0),
  (974, .invokevirtual 113, 977, 77, 0, [], 0, 0),
  (977, .aload_n 2, 978, 2, 0, [], 0, 0),
  (978, .aload_n 0, 979, 0, 0, [], 0, 0),
  (979, .iload_n 3, 980, 3, 0, [], 0, 0),
  (980, .iconst 1, 981, 0, 0, [], 1, 0),
  (981, .iadd, 982, 0, 0, [], 0, 0),
  (982, .iaload, 983, 0, 0, [], 0, 0),
  (983, .aload_n 0, 984, 0, 0, [], 0, 0),
  (984, .iload_n 3, 985, 3, 0, [], 0, 0),
  (985, .iconst 2, 986, 0, 0, [], 2, 0),
  (986, .iadd, 987, 0, 0, [], 0, 0),
  (987, .iaload, 988, 0, 0, [], 0, 0),
  (988, .aload_n 0, 989, 0, 0, [], 0, 0),
  (989, .iload_n 3, 990, 3, 0, [], 0, 0),
  (990, .iconst 3, 991, 0, 0, [], 3, 0),
  (991, .iadd, 992, 0, 0, [], 0, 0),
  (992, .iaload, 993, 0, 0, [], 0, 0),
  (993, .aload_n 0, 994, 0, 0, [], 0, 0),
  (994, .iload_n 3, 995, 3, 0, [], 0, 0),
  (995, .iconst 4, 996, 0, 0, [], 4, 0),
  (996, .iadd, 997, 0, 0, [], 0, 0),
  (997, .iaload, 998, 0, 0, [], 0, 0),
  (998, .invokevirtual 117, 1001, 148, 0, [], 0, 0),
  (1001, .if_icmp .eq 230, 1004, 1231, 0, [], 0, 0),
  (1004, .iconst 0, 1005, 0, 0, [], 0, 0),
  (1005, .ireturn, 1006, 0, 0, [], 0, 0),
  (1006, .aload_n 1, 1007, 1, 0, [], 0, 0),
  (1007, .aload_n 0, 1008, 0, 0, [], 0, 0),
  (1008, .iload_n 3, 1009, 3, 0, [], 0, 0),
  (1009, .iconst 1, 1010, 0, 0, [], 1, 0),
  (1010, .iadd, 1011, 0, 0, [], 0, 0),
  (1011, .iaload, 1012, 0, 0, [], 0, 0),
  (1012, .aload_n 0, 1013, 0, 0, [], 0, 0),
  (1013, .iload_n 3, 1014, 3, 0, [], 0, 0),
  (1014, .iconst 2, 1015, 0, 0, [], 2, 0),
  (1015, .iadd, 1016, 0, 0, [], 0, 0),
  (1016, .iaload, 1017, 0, 0, [], 0, 0),
  (1017, .aload_n 0, 1018, 0, 0, [], 0, 0),
  (1018, .iload_n 3, 1019, 3, 0, [], 0, 0),
  (1019, .iconst 3, 1020, 0, 0, [], 3, 0),
  (1020, .iadd, 1021, 0, 0, [], 0, 0),
  (1021, .iaload, 1022, 0, 0, [], 0, 0),
  (1022, .aload_n 0, 1023, 0, 0, [], 0, 0),
  (1023, .iload_n 3, 1024, 3, 0, [], 0, 0),
  (1024, .iconst 4, 1025, 0, 0, [], 4, 0),
  (1025, .iadd, 1026, 0, 0, [], 0, 0),
  (1026, .iaload, 1027, 0, 0, [], 0, 0),
  (1027, .ifCond .eq 7, 1030, 1034, 0, [], 0, 0),
  (1030, .iconst 1, 1031, 0, 0, [], 1, 0),
  (1031, .goto 4, 1034, 1035, 0, [], 0, 0),
  (1034, .iconst 0, 1035, 0, 0, [], 0, 0),
  (1035, .invokevirtual 118, 1038, 80, 0, [], 0, 0),
  (1038, .aload_n 2, 1039, 2, 0, [], 0, 0),
  (1039, .aload_n 0, 1040, 0, 0, [], 0, 0),
  (1040, .iload_n 3, 1041, 3, 0, [], 0, 0),
  (1041, .iconst 1, 1042, 0, 0, [], 1, 0),
  (1042, .iadd, 1043, 0, 0, [], 0, 0),
  (1043, .iaload, 1044, 0, 0, [], 0, 0),
  (1044, .aload_n 0, 1045, 0, 0, [], 0, 0),
  (1045, .iload_n 3, 1046, 3, 0, [], 0, 0),
  (1046, .iconst 2, 1047, 0, 0, [], 2, 0),
  (1047, .iadd, 1048, 0, 0, [], 0, 0),
  (1048, .iaload, 1049, 0, 0, [], 0, 0),
  (1049, .aload_n 0, 1050, 0, 0, [], 0, 0),
  (1050, .iload_n 3, 1051, 3, 0, [], 0, 0),
  (1051, .iconst 3, 1052, 0, 0, [], 3, 0),
  (1052, .iadd, 1053, 0, 0, [], 0, 0),
  (1053, .iaload, 1054, 0, 0, [], 0, 0),
  (1054, .aload_n 0, 1055, 0, 0, [], 0, 0),
  (1055, .iload_n 3, 1056, 3, 0, [], 0, 0),
  (1056, .iconst 4, 1057, 0, 0, [], 4, 0),
  (1057, .iadd, 1058, 0, 0, [], 0, 0),
  (1058, .iaload, 1059, 0, 0, [], 0, 0),
  (1059, .ifCond .eq 7, 1062, 1066, 0, [], 0, 0),
  (1062, .iconst 1, 1063, 0, 0, [], 1, 0),
  (1063, .goto 4, 1066, 1067, 0, [], 0, 0),
  (1066, .iconst 0, 1067, 0, 0, [], 0, 0),
  (1067, .invokevirtual 122, 1070, 151, 0, [], 0, 0),
  (1070, .if_icmp .eq 161, 1073, 1231, 0, [], 0, 0),
  (1073, .iconst 0, 1074, 0, 0, [], 0, 0),
  (1074, .ireturn, 1075, 0, 0, [], 0, 0),
  (1075, .aload_n 1, 1076, 1, 0, [], 0, 0),
  (1076, .aload_n 0, 1077, 0, 0, [], 0, 0),
  (1077, .iload_n 3, 1078, 3, 0, [], 0, 0),
  (1078, .iconst 1, 1079, 0, 0, [], 1, 0),
  (1079, .iadd, 1080, 0, 0, [], 0, 0),
  (1080, .iaload, 1081, 0, 0, [], 0, 0),
  (1081, .i2l, 1082, 0, 0, [], 0, 0),
  (1082, .bipush 32, 1084, 0, 0, [], 32, 0),
  (1084, .lshl, 1085, 0, 0, [], 0, 0),
  (1085, .aload_n 0, 1086, 0, 0, [], 0, 0),
  (1086, .iload_n 3, 1087, 3, 0, [], 0, 0),
  (1087, .iconst 2, 1088, 0, 0, [], 2, 0),
  (1088, .iadd, 1089, 0, 0, [], 0, 0),
  (1089, .iaload, 1090, 0, 0, [], 0, 0),
  (1090, .i2l, 1091, 0, 0, [], 0, 0),
  (1091, .ldc2_w 89, 1094, 0, 0, [], 0, 4294967295),
  (1094, .land, 1095, 0, 0, [], 0, 0),
  (1095, .lor, 1096, 0, 0, [], 0, 0),
  (1096, .invokevirtual 123, 1099, 82, 0, [], 0, 0),
  (1099, .aload_n 2, 1100, 2, 0, [], 0, 0),
  (1100, .aload_n 0, 1101, 0, 0, [], 0, 0),
  (1101, .iload_n 3, 1102, 3, 0, [], 0, 0),
  (1102, .iconst 1, 1103, 0, 0, [], 1, 0),
  (1103, .iadd, 1104, 0, 0, [], 0, 0),
  (1104, .iaload, 1105, 0, 0, [], 0, 0),
  (1105, .i2l, 1106, 0, 0, [], 0, 0),
  (1106, .bipush 32, 1108, 0, 0, [], 32, 0),
  (1108, .lshl, 1109, 0, 0, [], 0, 0),
  (1109, .aload_n 0, 1110, 0, 0, [], 0, 0),
  (1110, .iload_n 3, 1111, 3, 0, [], 0, 0),
  (1111, .iconst 2, 1112, 0, 0, [], 2, 0),
  (1112, .iadd, 1113, 0, 0, [], 0, 0),
  (1113, .iaload, 1114, 0, 0, [], 0, 0),
  (1114, .i2l, 1115, 0, 0, [], 0, 0),
  (1115, .ldc2_w 89, 1118, 0, 0, [], 0, 4294967295),
  (1118, .land, 1119, 0, 0, [], 0, 0),
  (1119, .lor, 1120, 0, 0, [], 0, 0),
  (1120, .invokevirtual 127, 1123, 153, 0, [], 0, 0),
  (1123, .lcmp, 1124, 0, 0, [], 0, 0),
  (1124, .ifCond .eq 107, 1127, 1231, 0, [], 0, 0),
  (1127, .iconst 0, 1128, 0, 0, [], 0, 0),
  (1128, .ireturn, 1129, 0, 0, [], 0, 0),
  (1129, .aload_n 1, 1130, 1, 0, [], 0, 0),
  (1130, .aload_n 0, 1131, 0, 0, [], 0, 0),
  (1131, .iload_n 3, 1132, 3, 0, [], 0, 0),
  (1132, .iconst 1, 1133, 0, 0, [], 1, 0),
  (1133, .iadd, 1134, 0, 0, [], 0, 0),
  (1134, .iaload, 1135, 0, 0, [], 0, 0),
  (1135, .aload_n 0, 1136, 0, 0, [], 0, 0),
  (1136, .iload_n 3, 1137, 3, 0, [], 0, 0),
  (1137, .iconst 2, 1138, 0, 0, [], 2, 0),
  (1138, .iadd, 1139, 0, 0, [], 0, 0),
  (1139, .iaload, 1140, 0, 0, [], 0, 0),
  (1140, .invokevirtual 128, 1143, 83, 0, [], 0, 0),
  (1143, .aload_n 2, 1144, 2, 0, [], 0, 0),
  (1144, .aload_n 0, 1145, 0, 0, [], 0, 0),
  (1145, .iload_n 3, 1146, 3, 0, [], 0, 0),
  (1146, .iconst 1, 1147, 0, 0, [], 1, 0),
  (1147, .iadd, 1148, 0, 0, [], 0, 0),
  (1148, .iaload, 1149, 0, 0, [], 0, 0),
  (1149, .aload_n 0, 1150, 0, 0, [], 0, 0),
  (1150, .iload_n 3, 1151, 3, 0, [], 0, 0),
  (1151, .iconst 2, 1152, 0, 0, [], 2, 0),
  (1152, .iadd, 1153, 0, 0, [], 0, 0),
  (1153, .iaload, 1154, 0, 0, [], 0, 0),
  (1154, .invokevirtual 131, 1157, 154, 0, [], 0, 0),
  (1157, .if_icmp .eq 74, 1160, 1231, 0, [], 0, 0),
  (1160, .iconst 0, 1161, 0, 0, [], 0, 0),
  (1161, .ireturn, 1162, 0, 0, [], 0, 0),
  (1162, .aload_n 1, 1163, 1, 0, [], 0, 0),
  (1163, .aload_n 0, 1164, 0, 0, [], 0, 0),
  (1164, .iload_n 3, 1165, 3, 0, [], 0, 0),
  (1165, .iconst 1, 1166, 0, 0, [], 1, 0),
  (1166, .iadd, 1167, 0, 0, [], 0, 0),
  (1167, .iaload, 1168, 0, 0, [], 0, 0),
  (1168, .invokevirtual 132, 1171, 84, 0, [], 0, 0),
  (1171, .aload_n 2, 1172, 2, 0, [], 0, 0),
  (1172, .aload_n 0, 1173, 0, 0, [], 0, 0),
  (1173, .iload_n 3, 1174, 3, 0, [], 0, 0),
  (1174, .iconst 1, 1175, 0, 0, [], 1, 0),
  (1175, .iadd, 1176, 0, 0, [], 0, 0),
  (1176, .iaload, 1177, 0, 0, [], 0, 0),
  (1177, .invokevirtual 135, 1180, 155, 0, [], 0, 0),
  (1180, .if_icmp .eq 51, 1183, 1231, 0, [], 0, 0),
  (1183, .iconst 0, 1184, 0, 0, [], 0, 0),
  (1184, .ireturn, 1185, 0, 0, [], 0, 0),
  (1185, .aload_n 1, 1186, 1, 0, [], 0, 0),
  (1186, .aload_n 0, 1187, 0, 0, [], 0, 0),
  (1187, .iload_n 3, 1188, 3, 0, [], 0, 0),
  (1188, .iconst 1, 1189, 0, 0, [], 1, 0),
  (1189, .iadd, 1190, 0, 0, [], 0, 0),
  (1190, .iaload, 1191, 0, 0, [], 0, 0),
  (1191, .invokevirtual 136, 1194, 86, 0, [], 0, 0),
  (1194, .aload_n 2, 1195, 2, 0, [], 0, 0),
  (1195, .aload_n 0, 1196, 0, 0, [], 0, 0),
  (1196, .iload_n 3, 1197, 3, 0, [], 0, 0),
  (1197, .iconst 1, 1198, 0, 0, [], 1, 0),
  (1198, .iadd, 1199, 0, 0, [], 0, 0),
  (1199, .iaload, 1200, 0, 0, [], 0, 0),
  (1200, .invokevirtual 139, 1203, 156, 0, [], 0, 0),
  (1203, .if_icmp .eq 28, 1206, 1231, 0, [], 0, 0),
  (1206, .iconst 0, 1207, 0, 0, [], 0, 0),
  (1207, .ireturn, 1208, 0, 0, [], 0, 0),
  (1208, .aload_n 1, 1209, 1, 0, [], 0, 0),
  (1209, .aload_n 0, 1210, 0, 0, [], 0, 0),
  (1210, .iload_n 3, 1211, 3, 0, [], 0, 0),
  (1211, .iconst 1, 1212, 0, 0, [], 1, 0),
  (1212, .iadd, 1213, 0, 0, [], 0, 0),
  (1213, .iaload, 1214, 0, 0, [], 0, 0),
  (1214, .invokevirtual 140, 1217, 87, 0, [], 0, 0),
  (1217, .aload_n 2, 1218, 2, 0, [], 0, 0),
  (1218, .aload_n 0, 1219, 0, 0, [], 0, 0),
  (1219, .iload_n 3, 1220, 3, 0, [], 0, 0),
  (1220, .iconst 1, 1221, 0, 0, [], 1, 0),
  (1221, .iadd, 1222, 0, 0, [], 0, 0),
  (1222, .iaload, 1223, 0, 0, [], 0, 0),
  (1223, .invokevirtual 143, 1226, 157, 0, [], 0, 0),
  (1226, .if_icmp .eq 5, 1229, 1231, 0, [], 0, 0),
  (1229, .iconst 0, 1230, 0, 0, [], 0, 0),
  (1230, .ireturn, 1231, 0, 0, [], 0, 0),
  (1231, .iinc 3 5, 1234, 3, 0, [], 5, 0),
  (1234, .goto (-1216), 1237, 18, 0, [], 0, 0),
  (1237, .iconst 1, 1238, 0, 0, [], 1, 0),
  (1238, .ireturn, 1239, 0, 0, [], 0, 0)]
def progs : List (List En) := [P0, P1, P2, P3, P4, P5, P6, P7, P8, P9, P10, P11, P12, P13, P14, P15, P16, P17, P18, P19, P20, P21, P22, P23, P24, P25, P26, P27, P28, P29, P30, P31, P32, P33, P34, P35, P36, P37, P38, P39, P40, P41, P42, P43, P44, P45, P46, P47, P48, P49, P50, P51, P52, P53, P54, P55, P56, P57, P58, P59, P60, P61, P62, P63, P64, P65, P66, P67, P68, P69, P70, P71, P72, P73, P74, P75, P76, P77, P78, P79, P80, P81, P82, P83, P84, P85, P86, P87, P88, P89, P90, P91, P92, P93, P94, P95, P96, P97, P98, P99, P100, P101, P102, P103, P104, P105, P106, P107, P108, P109, P110, P111, P112, P113, P114, P115, P116, P117, P118, P119, P120, P121, P122, P123, P124, P125, P126, P127, P128, P129, P130, P131, P132, P133, P134, P135, P136, P137, P138, P139, P140, P141, P142, P143, P144, P145, P146, P147, P148, P149, P150, P151, P152, P153, P154, P155, P156, P157, P158, P159]
def prog (y : Nat) : List En := progs.getD y []
end
section
/-! What the table says is so: links by their places among the tables' words, decode rows. Laid by wip/whole/gen.py. -/
def oNs : List String := [RX0, RX1, RX2, RX3, RX4, RX5, RX6, RJ6, RL]
def oN (o : Nat) : String := oNs.getD o RL
def tNs : List u_T := [TX0, TX1, TX2, TX3, TX4, TX5, TX6]
def tN (c : Nat) : u_T := tNs.getD c TX0
def fldT : List (Nat × (Nat × (Nat × (Nat × Nat)))) := [(0, 11, 0, 0, 111), (0, 15, 0, 1, 112), (0, 19, 0, 2, 113), (1, 10, 1, 0, 95), (1, 16, 1, 1, 96), (1, 23, 2, 3, 83), (2, 11, 2, 0, 75), (2, 15, 2, 1, 77), (2, 18, 2, 2, 79), (2, 21, 2, 3, 81), (3, 9, 3, 0, 145), (3, 13, 3, 1, 146), (3, 16, 3, 2, 147), (3, 19, 3, 3, 148), (4, 11, 4, 0, 128), (4, 15, 4, 1, 129), (4, 18, 4, 2, 130), (4, 30, 2, 3, 82), (5, 10, 5, 0, 159), (5, 16, 5, 1, 160), (5, 22, 5, 2, 161), (5, 29, 5, 3, 162), (5, 36, 5, 4, 163), (5, 40, 5, 5, 164), (5, 44, 5, 6, 165), (5, 48, 5, 7, 166), (5, 56, 4, 2, 131), (5, 79, 2, 3, 84), (5, 99, 2, 1, 78), (5, 117, 0, 2, 114), (5, 132, 2, 0, 76), (5, 135, 2, 2, 80), (5, 198, 3, 3, 149), (6, 7, 6, 1, 574), (6, 13, 6, 4, 577), (6, 16, 6, 7, 580), (6, 19, 6, 8, 581), (6, 22, 6, 9, 582), (6, 25, 6, 10, 583), (6, 28, 6, 12, 585), (6, 31, 6, 13, 586), (6, 35, 6, 15, 588), (6, 38, 6, 16, 589), (6, 41, 6, 17, 590), (6, 44, 6, 29, 601), (6, 47, 6, 30, 602), (6, 50, 6, 0, 573), (6, 60, 6, 21, 593), (6, 63, 6, 22, 594), (6, 100, 6, 20, 592), (6, 113, 6, 2, 575), (6, 116, 6, 3, 576), (6, 127, 6, 6, 579), (6, 130, 6, 5, 578), (6, 141, 6, 11, 584), (6, 180, 6, 23, 595), (6, 183, 6, 24, 596), (6, 231, 6, 14, 587), (6, 234, 6, 25, 597), (6, 237, 6, 26, 598), (6, 248, 6, 27, 599), (6, 251, 6, 28, 600), (6, 261, 6, 18, 591)]
def cIT : List (Nat × (Nat × (Int32 × Nat))) := [(5, 87, 999999, 269), (7, 265, 1431655765, 475), (7, 266, 858993459, 476), (7, 267, 252645135, 477)]
def cJT : List (Nat × (Nat × (Int64 × Nat))) := [(5, 164, 10000, 453), (5, 211, 6364136223846793005, 545), (5, 213, 1442695040888963407, 546), (5, 215, 200, 547), (6, 58, 99, 716), (6, 111, 255, 670), (6, 153, 999999, 717), (6, 172, 2, 822), (6, 194, 4, 843), (6, 196, 10000, 844), (6, 229, 20, 887), (6, 254, 9, 912), (6, 256, 10, 913), (6, 265, 30, 925), (6, 267, 6364136223846793005, 926), (6, 269, 1442695040888963407, 927), (6, 271, 200, 928), (8, 89, 4294967295, 941)]
def csT : List (Nat × (Nat × (Nat × Nat))) := [(5, 64, 46, 225), (5, 84, 48, 266), (5, 179, 158, 472), (5, 184, 70, 478), (5, 187, 71, 481), (5, 190, 72, 486), (5, 207, 81, 534), (5, 217, 85, 552), (5, 236, 73, 492), (6, 54, 89, 671), (6, 66, 104, 729), (6, 70, 105, 732), (6, 78, 107, 739), (6, 82, 108, 742), (6, 86, 109, 745), (6, 90, 101, 718), (6, 104, 120, 787), (6, 144, 97, 702), (6, 150, 100, 713), (6, 166, 117, 776), (6, 198, 134, 845), (6, 205, 144, 880), (6, 212, 140, 868), (6, 219, 141, 871), (6, 222, 142, 874), (6, 225, 143, 877), (6, 258, 152, 914)]
def cvT : List (Nat × (Nat × (Nat × Nat))) := [(0, 23, 2, 232), (1, 19, 5, 236), (2, 31, 7, 258), (2, 35, 10, 278), (2, 39, 9, 274), (2, 51, 12, 286), (2, 55, 14, 297), (2, 58, 13, 293), (2, 62, 20, 327), (2, 66, 21, 331), (2, 69, 24, 343), (2, 72, 19, 359), (2, 76, 11, 360), (2, 80, 15, 302), (2, 83, 16, 306), (2, 87, 17, 310), (2, 91, 18, 314), (2, 94, 22, 335), (2, 97, 23, 339), (3, 23, 3, 515), (3, 29, 9, 516), (3, 35, 30, 517), (4, 22, 37, 205), (4, 26, 40, 217), (4, 35, 38, 209), (4, 39, 6, 254), (4, 43, 39, 213), (5, 52, 35, 189), (5, 60, 36, 201), (5, 67, 0, 228), (5, 71, 3, 246), (5, 75, 41, 250), (5, 88, 8, 270), (5, 91, 11, 282), (5, 95, 9, 322), (5, 103, 19, 323), (5, 106, 25, 351), (5, 110, 26, 355), (5, 113, 1, 365), (5, 120, 12, 373), (5, 123, 27, 374), (5, 126, 28, 378), (5, 129, 29, 382), (5, 138, 15, 398), (5, 142, 10, 403), (5, 145, 30, 412), (5, 148, 31, 420), (5, 151, 61, 428), (5, 154, 32, 433), (5, 158, 63, 441), (5, 161, 64, 445), (5, 166, 2, 454), (5, 169, 66, 455), (5, 172, 68, 463), (5, 175, 69, 468), (5, 194, 33, 499), (5, 199, 34, 511), (5, 203, 78, 522), (5, 220, 4, 555), (5, 223, 5, 432), (5, 239, 79, 526), (6, 74, 106, 735), (6, 93, 103, 725), (6, 96, 112, 756), (6, 108, 119, 783), (6, 119, 94, 690), (6, 123, 95, 694), (6, 133, 93, 686), (6, 137, 92, 682), (6, 147, 98, 705), (6, 155, 102, 721), (6, 159, 111, 752), (6, 162, 114, 764), (6, 169, 118, 779), (6, 174, 129, 823), (6, 177, 130, 827), (6, 186, 132, 835), (6, 190, 136, 852), (6, 202, 135, 848), (6, 208, 138, 860), (6, 215, 139, 864), (6, 240, 150, 904), (6, 244, 149, 900), (8, 13, 42, 185), (8, 17, 88, 666), (8, 18, 43, 193), (8, 22, 90, 674), (8, 23, 44, 197), (8, 26, 91, 678), (8, 27, 45, 221), (8, 30, 96, 698), (8, 31, 47, 262), (8, 35, 99, 709), (8, 36, 49, 318), (8, 40, 110, 748), (8, 41, 50, 347), (8, 44, 113, 760), (8, 45, 51, 361), (8, 48, 115, 768), (8, 49, 52, 369), (8, 52, 116, 772), (8, 53, 53, 386), (8, 56, 121, 790), (8, 57, 54, 390), (8, 60, 122, 794), (8, 61, 55, 394), (8, 64, 123, 798), (8, 65, 56, 399), (8, 68, 124, 802), (8, 69, 57, 404), (8, 72, 125, 806), (8, 73, 58, 408), (8, 76, 126, 810), (8, 77, 59, 416), (8, 80, 127, 814), (8, 81, 60, 424), (8, 84, 128, 818), (8, 85, 62, 437), (8, 88, 131, 831), (8, 91, 65, 449), (8, 95, 133, 839), (8, 96, 67, 459), (8, 100, 137, 856), (8, 101, 74, 495), (8, 104, 145, 883), (8, 105, 75, 503), (8, 108, 146, 888), (8, 109, 76, 507), (8, 112, 147, 892), (8, 113, 77, 518), (8, 117, 148, 896), (8, 118, 80, 530), (8, 122, 151, 908), (8, 123, 82, 537), (8, 127, 153, 917), (8, 128, 83, 541), (8, 131, 154, 921), (8, 132, 84, 548), (8, 135, 155, 929), (8, 136, 86, 559), (8, 139, 156, 933), (8, 140, 87, 563), (8, 143, 157, 937)]
def inT : List (Nat × (Nat × (Nat × Nat))) := [(0, 27, 2, 243), (2, 25, 4, 240), (2, 42, 1, 290), (2, 48, 2, 301), (5, 225, 2, 467), (5, 233, 3, 489)]
theorem fldT_ok : fldT.all (fun q => decide (lw_tbl[q.2.2.2.2]? = some (.fieldLink (oN q.1) q.2.1 (tN q.2.2.1 q.2.2.2.1).1 (tN q.2.2.1 q.2.2.2.1).2.1 (tN q.2.2.1 q.2.2.2.1).2.2.1))) = true := by decide +kernel
theorem cIT_ok : cIT.all (fun q => decide (lw_tbl[q.2.2.2]? = some (.constant (oN q.1) q.2.1 q.2.2.1))) = true := by decide +kernel
theorem cJT_ok : cJT.all (fun q => decide (lw_tbl[q.2.2.2]? = some (.constantLong (oN q.1) q.2.1 q.2.2.1))) = true := by decide +kernel
theorem csT_ok : csT.all (fun q => decide (lw_tbl[q.2.2.2]? = some (.methodLink (oN q.1) q.2.1 (mY q.2.2.1)))) = true := by decide +kernel
theorem cvT_ok : cvT.all (fun q => decide (lw_tbl[q.2.2.2]? = some (.methodLink (oN q.1) q.2.1 (mY q.2.2.1)))) = true := by decide +kernel
def iN (b : Nat) : MethodName := match b with
  | 1 => Lib.Math.max.name
  | 2 => Lib.Math.min.name
  | 3 => Lib.Math.abs.name
  | _ => arraycopyName
theorem inT_ok : inT.all (fun q => decide (lw_tbl[q.2.2.2]? = some (.methodLink (oN q.1) q.2.1 (iN q.2.2.1)))) = true := by decide +kernel
def swT_ : List (Nat × (Nat × (Nat × Nat))) := [(46, 226, 45, 227), (48, 267, 45, 268), (70, 479, 45, 480), (71, 482, 45, 483), (72, 487, 45, 488), (73, 493, 45, 494), (81, 535, 45, 536), (85, 553, 45, 554), (89, 672, 51, 673), (97, 703, 51, 704), (100, 714, 51, 715), (101, 719, 51, 720), (104, 730, 51, 731), (105, 733, 51, 734), (107, 740, 51, 741), (108, 743, 51, 744), (109, 746, 51, 747), (117, 777, 51, 778), (120, 788, 51, 789), (134, 846, 51, 847), (140, 869, 51, 870), (141, 872, 51, 873), (142, 875, 51, 876), (143, 878, 51, 879), (144, 881, 51, 882), (152, 915, 51, 916), (158, 473, 54, 474)]
def vwT : List (Nat × (Nat × (Nat × (Nat × Nat)))) := [(0, 229, 230, 48, 231), (1, 366, 367, 48, 368), (2, 233, 234, 46, 235), (3, 247, 248, 46, 249), (4, 556, 557, 46, 558), (5, 237, 238, 47, 239), (6, 255, 256, 47, 257), (7, 260, 4, 47, 261), (8, 271, 272, 47, 273), (9, 275, 276, 47, 277), (10, 279, 280, 47, 281), (11, 283, 284, 47, 285), (12, 287, 288, 47, 289), (13, 295, 5, 47, 296), (14, 298, 299, 47, 300), (15, 303, 304, 47, 305), (16, 308, 6, 47, 309), (17, 312, 7, 47, 313), (18, 316, 8, 47, 317), (19, 324, 325, 47, 326), (20, 329, 9, 47, 330), (21, 333, 10, 47, 334), (22, 337, 11, 47, 338), (23, 341, 12, 47, 342), (24, 345, 13, 47, 346), (25, 352, 353, 47, 354), (26, 356, 357, 47, 358), (27, 375, 376, 47, 377), (28, 379, 380, 47, 381), (29, 383, 384, 47, 385), (30, 413, 414, 47, 415), (31, 421, 422, 47, 423), (32, 434, 435, 47, 436), (33, 500, 501, 50, 502), (34, 512, 513, 50, 514), (35, 190, 191, 49, 192), (36, 202, 203, 49, 204), (37, 207, 0, 49, 208), (38, 211, 1, 49, 212), (39, 215, 2, 49, 216), (40, 219, 3, 49, 220), (41, 251, 252, 49, 253), (42, 186, 187, 45, 188), (43, 194, 195, 45, 196), (44, 198, 199, 45, 200), (45, 222, 223, 45, 224), (47, 263, 264, 45, 265), (49, 319, 320, 45, 321), (50, 348, 349, 45, 350), (51, 362, 363, 45, 364), (52, 370, 371, 45, 372), (53, 387, 388, 45, 389), (54, 391, 392, 45, 393), (55, 395, 396, 45, 397), (56, 400, 401, 45, 402), (57, 405, 406, 45, 407), (58, 409, 410, 45, 411), (59, 417, 418, 45, 419), (60, 425, 426, 45, 427), (61, 430, 14, 45, 431), (62, 438, 439, 45, 440), (63, 443, 15, 45, 444), (64, 447, 16, 45, 448), (65, 450, 451, 45, 452), (66, 457, 17, 45, 458), (67, 460, 461, 45, 462), (68, 465, 18, 45, 466), (69, 470, 19, 45, 471), (74, 496, 497, 45, 498), (75, 504, 505, 45, 506), (76, 508, 509, 45, 510), (77, 519, 520, 45, 521), (78, 524, 20, 45, 525), (79, 528, 21, 45, 529), (80, 531, 532, 45, 533), (82, 538, 539, 45, 540), (83, 542, 543, 45, 544), (84, 549, 550, 45, 551), (86, 560, 561, 45, 562), (87, 564, 565, 45, 566), (88, 667, 668, 51, 669), (90, 675, 676, 51, 677), (91, 679, 680, 51, 681), (92, 684, 22, 51, 685), (93, 688, 23, 51, 689), (94, 692, 24, 51, 693), (95, 696, 25, 51, 697), (96, 699, 700, 51, 701), (98, 707, 26, 51, 708), (99, 710, 711, 51, 712), (102, 723, 27, 51, 724), (103, 727, 28, 51, 728), (106, 737, 29, 51, 738), (110, 749, 750, 51, 751), (111, 754, 30, 51, 755), (112, 758, 31, 51, 759), (113, 761, 762, 51, 763), (114, 766, 32, 51, 767), (115, 769, 770, 51, 771), (116, 773, 774, 51, 775), (118, 781, 33, 51, 782), (119, 785, 34, 51, 786), (121, 791, 792, 51, 793), (122, 795, 796, 51, 797), (123, 799, 800, 51, 801), (124, 803, 804, 51, 805), (125, 807, 808, 51, 809), (126, 811, 812, 51, 813), (127, 815, 816, 51, 817), (128, 819, 820, 51, 821), (129, 825, 35, 51, 826), (130, 829, 36, 51, 830), (131, 832, 833, 51, 834), (132, 837, 37, 51, 838), (133, 840, 841, 51, 842), (135, 850, 38, 51, 851), (136, 854, 39, 51, 855), (137, 857, 858, 51, 859), (138, 862, 40, 51, 863), (139, 866, 41, 51, 867), (145, 884, 885, 51, 886), (146, 889, 890, 51, 891), (147, 893, 894, 51, 895), (148, 897, 898, 51, 899), (149, 902, 42, 51, 903), (150, 906, 43, 51, 907), (151, 909, 910, 51, 911), (153, 918, 919, 51, 920), (154, 922, 923, 51, 924), (155, 930, 931, 51, 932), (156, 934, 935, 51, 936), (157, 938, 939, 51, 940)]
def cdW (y : Nat) : Cond := .code (mY y) (mI y).1 (mI y).2.1 (mI y).2.2.1
def dsc (y n : Nat) : Bool := decide ((mY y).cls ≠ "java/lang/invoke/MethodHandle" ∧ (mY y).cls ≠ "java/lang/invoke/VarHandle" ∧ (parseMethodDescriptor (mY y).desc).map (fun d => d.parameters.length) = some n ∧ plainName (mY y).cls = true)
theorem swT_ok : swT_.all (fun q => decide (lw_tbl[q.2.1]? = some (.static (mY q.1)) ∧ lw_tbl[q.2.2.1]? = some (.initialized (mY q.1).cls) ∧ lw_tbl[q.2.2.2]? = some (cdW q.1)) && dsc q.1 (cn q.1).1) = true := by decide +kernel
def vwT_0 : List (Nat × (Nat × (Nat × (Nat × Nat)))) := [(0, 229, 230, 48, 231), (1, 366, 367, 48, 368), (2, 233, 234, 46, 235), (3, 247, 248, 46, 249), (4, 556, 557, 46, 558), (5, 237, 238, 47, 239), (6, 255, 256, 47, 257), (7, 260, 4, 47, 261), (8, 271, 272, 47, 273), (9, 275, 276, 47, 277), (10, 279, 280, 47, 281)]
theorem vwT_0_ok : vwT_0.all (fun q => decide (lw_tbl[q.2.1]? = some (.instanceMethod (mY q.1)) ∧ lw_tbl[q.2.2.1]? = some (.selects (mY q.1).cls (mY q.1) (mY q.1)) ∧ lw_tbl[q.2.2.2.1]? = some (.initialized (mY q.1).cls) ∧ lw_tbl[q.2.2.2.2]? = some (cdW q.1) ∧ (mY q.1).cls = oN (cn q.1).2.1 ∧ (mI q.1).2.2.2.1 = (cn q.1).2.1) && dsc q.1 ((cn q.1).1 - 1)) = true := by decide +kernel
def vwT_11 : List (Nat × (Nat × (Nat × (Nat × Nat)))) := [(11, 283, 284, 47, 285), (12, 287, 288, 47, 289), (13, 295, 5, 47, 296), (14, 298, 299, 47, 300), (15, 303, 304, 47, 305), (16, 308, 6, 47, 309), (17, 312, 7, 47, 313), (18, 316, 8, 47, 317), (19, 324, 325, 47, 326), (20, 329, 9, 47, 330), (21, 333, 10, 47, 334)]
theorem vwT_11_ok : vwT_11.all (fun q => decide (lw_tbl[q.2.1]? = some (.instanceMethod (mY q.1)) ∧ lw_tbl[q.2.2.1]? = some (.selects (mY q.1).cls (mY q.1) (mY q.1)) ∧ lw_tbl[q.2.2.2.1]? = some (.initialized (mY q.1).cls) ∧ lw_tbl[q.2.2.2.2]? = some (cdW q.1) ∧ (mY q.1).cls = oN (cn q.1).2.1 ∧ (mI q.1).2.2.2.1 = (cn q.1).2.1) && dsc q.1 ((cn q.1).1 - 1)) = true := by decide +kernel
def vwT_22 : List (Nat × (Nat × (Nat × (Nat × Nat)))) := [(22, 337, 11, 47, 338), (23, 341, 12, 47, 342), (24, 345, 13, 47, 346), (25, 352, 353, 47, 354), (26, 356, 357, 47, 358), (27, 375, 376, 47, 377), (28, 379, 380, 47, 381), (29, 383, 384, 47, 385), (30, 413, 414, 47, 415), (31, 421, 422, 47, 423), (32, 434, 435, 47, 436)]
theorem vwT_22_ok : vwT_22.all (fun q => decide (lw_tbl[q.2.1]? = some (.instanceMethod (mY q.1)) ∧ lw_tbl[q.2.2.1]? = some (.selects (mY q.1).cls (mY q.1) (mY q.1)) ∧ lw_tbl[q.2.2.2.1]? = some (.initialized (mY q.1).cls) ∧ lw_tbl[q.2.2.2.2]? = some (cdW q.1) ∧ (mY q.1).cls = oN (cn q.1).2.1 ∧ (mI q.1).2.2.2.1 = (cn q.1).2.1) && dsc q.1 ((cn q.1).1 - 1)) = true := by decide +kernel
def vwT_33 : List (Nat × (Nat × (Nat × (Nat × Nat)))) := [(33, 500, 501, 50, 502), (34, 512, 513, 50, 514), (35, 190, 191, 49, 192), (36, 202, 203, 49, 204), (37, 207, 0, 49, 208), (38, 211, 1, 49, 212), (39, 215, 2, 49, 216), (40, 219, 3, 49, 220), (41, 251, 252, 49, 253), (42, 186, 187, 45, 188), (43, 194, 195, 45, 196)]
theorem vwT_33_ok : vwT_33.all (fun q => decide (lw_tbl[q.2.1]? = some (.instanceMethod (mY q.1)) ∧ lw_tbl[q.2.2.1]? = some (.selects (mY q.1).cls (mY q.1) (mY q.1)) ∧ lw_tbl[q.2.2.2.1]? = some (.initialized (mY q.1).cls) ∧ lw_tbl[q.2.2.2.2]? = some (cdW q.1) ∧ (mY q.1).cls = oN (cn q.1).2.1 ∧ (mI q.1).2.2.2.1 = (cn q.1).2.1) && dsc q.1 ((cn q.1).1 - 1)) = true := by decide +kernel
def vwT_44 : List (Nat × (Nat × (Nat × (Nat × Nat)))) := [(44, 198, 199, 45, 200), (45, 222, 223, 45, 224), (47, 263, 264, 45, 265), (49, 319, 320, 45, 321), (50, 348, 349, 45, 350), (51, 362, 363, 45, 364), (52, 370, 371, 45, 372), (53, 387, 388, 45, 389), (54, 391, 392, 45, 393), (55, 395, 396, 45, 397), (56, 400, 401, 45, 402)]
theorem vwT_44_ok : vwT_44.all (fun q => decide (lw_tbl[q.2.1]? = some (.instanceMethod (mY q.1)) ∧ lw_tbl[q.2.2.1]? = some (.selects (mY q.1).cls (mY q.1) (mY q.1)) ∧ lw_tbl[q.2.2.2.1]? = some (.initialized (mY q.1).cls) ∧ lw_tbl[q.2.2.2.2]? = some (cdW q.1) ∧ (mY q.1).cls = oN (cn q.1).2.1 ∧ (mI q.1).2.2.2.1 = (cn q.1).2.1) && dsc q.1 ((cn q.1).1 - 1)) = true := by decide +kernel
def vwT_55 : List (Nat × (Nat × (Nat × (Nat × Nat)))) := [(57, 405, 406, 45, 407), (58, 409, 410, 45, 411), (59, 417, 418, 45, 419), (60, 425, 426, 45, 427), (61, 430, 14, 45, 431), (62, 438, 439, 45, 440), (63, 443, 15, 45, 444), (64, 447, 16, 45, 448), (65, 450, 451, 45, 452), (66, 457, 17, 45, 458), (67, 460, 461, 45, 462)]
theorem vwT_55_ok : vwT_55.all (fun q => decide (lw_tbl[q.2.1]? = some (.instanceMethod (mY q.1)) ∧ lw_tbl[q.2.2.1]? = some (.selects (mY q.1).cls (mY q.1) (mY q.1)) ∧ lw_tbl[q.2.2.2.1]? = some (.initialized (mY q.1).cls) ∧ lw_tbl[q.2.2.2.2]? = some (cdW q.1) ∧ (mY q.1).cls = oN (cn q.1).2.1 ∧ (mI q.1).2.2.2.1 = (cn q.1).2.1) && dsc q.1 ((cn q.1).1 - 1)) = true := by decide +kernel
def vwT_66 : List (Nat × (Nat × (Nat × (Nat × Nat)))) := [(68, 465, 18, 45, 466), (69, 470, 19, 45, 471), (74, 496, 497, 45, 498), (75, 504, 505, 45, 506), (76, 508, 509, 45, 510), (77, 519, 520, 45, 521), (78, 524, 20, 45, 525), (79, 528, 21, 45, 529), (80, 531, 532, 45, 533), (82, 538, 539, 45, 540), (83, 542, 543, 45, 544)]
theorem vwT_66_ok : vwT_66.all (fun q => decide (lw_tbl[q.2.1]? = some (.instanceMethod (mY q.1)) ∧ lw_tbl[q.2.2.1]? = some (.selects (mY q.1).cls (mY q.1) (mY q.1)) ∧ lw_tbl[q.2.2.2.1]? = some (.initialized (mY q.1).cls) ∧ lw_tbl[q.2.2.2.2]? = some (cdW q.1) ∧ (mY q.1).cls = oN (cn q.1).2.1 ∧ (mI q.1).2.2.2.1 = (cn q.1).2.1) && dsc q.1 ((cn q.1).1 - 1)) = true := by decide +kernel
def vwT_77 : List (Nat × (Nat × (Nat × (Nat × Nat)))) := [(84, 549, 550, 45, 551), (86, 560, 561, 45, 562), (87, 564, 565, 45, 566), (88, 667, 668, 51, 669), (90, 675, 676, 51, 677), (91, 679, 680, 51, 681), (92, 684, 22, 51, 685), (93, 688, 23, 51, 689), (94, 692, 24, 51, 693), (95, 696, 25, 51, 697), (96, 699, 700, 51, 701)]
theorem vwT_77_ok : vwT_77.all (fun q => decide (lw_tbl[q.2.1]? = some (.instanceMethod (mY q.1)) ∧ lw_tbl[q.2.2.1]? = some (.selects (mY q.1).cls (mY q.1) (mY q.1)) ∧ lw_tbl[q.2.2.2.1]? = some (.initialized (mY q.1).cls) ∧ lw_tbl[q.2.2.2.2]? = some (cdW q.1) ∧ (mY q.1).cls = oN (cn q.1).2.1 ∧ (mI q.1).2.2.2.1 = (cn q.1).2.1) && dsc q.1 ((cn q.1).1 - 1)) = true := by decide +kernel
def vwT_88 : List (Nat × (Nat × (Nat × (Nat × Nat)))) := [(98, 707, 26, 51, 708), (99, 710, 711, 51, 712), (102, 723, 27, 51, 724), (103, 727, 28, 51, 728), (106, 737, 29, 51, 738), (110, 749, 750, 51, 751), (111, 754, 30, 51, 755), (112, 758, 31, 51, 759), (113, 761, 762, 51, 763), (114, 766, 32, 51, 767), (115, 769, 770, 51, 771)]
theorem vwT_88_ok : vwT_88.all (fun q => decide (lw_tbl[q.2.1]? = some (.instanceMethod (mY q.1)) ∧ lw_tbl[q.2.2.1]? = some (.selects (mY q.1).cls (mY q.1) (mY q.1)) ∧ lw_tbl[q.2.2.2.1]? = some (.initialized (mY q.1).cls) ∧ lw_tbl[q.2.2.2.2]? = some (cdW q.1) ∧ (mY q.1).cls = oN (cn q.1).2.1 ∧ (mI q.1).2.2.2.1 = (cn q.1).2.1) && dsc q.1 ((cn q.1).1 - 1)) = true := by decide +kernel
def vwT_99 : List (Nat × (Nat × (Nat × (Nat × Nat)))) := [(116, 773, 774, 51, 775), (118, 781, 33, 51, 782), (119, 785, 34, 51, 786), (121, 791, 792, 51, 793), (122, 795, 796, 51, 797), (123, 799, 800, 51, 801), (124, 803, 804, 51, 805), (125, 807, 808, 51, 809), (126, 811, 812, 51, 813), (127, 815, 816, 51, 817), (128, 819, 820, 51, 821)]
theorem vwT_99_ok : vwT_99.all (fun q => decide (lw_tbl[q.2.1]? = some (.instanceMethod (mY q.1)) ∧ lw_tbl[q.2.2.1]? = some (.selects (mY q.1).cls (mY q.1) (mY q.1)) ∧ lw_tbl[q.2.2.2.1]? = some (.initialized (mY q.1).cls) ∧ lw_tbl[q.2.2.2.2]? = some (cdW q.1) ∧ (mY q.1).cls = oN (cn q.1).2.1 ∧ (mI q.1).2.2.2.1 = (cn q.1).2.1) && dsc q.1 ((cn q.1).1 - 1)) = true := by decide +kernel
def vwT_110 : List (Nat × (Nat × (Nat × (Nat × Nat)))) := [(129, 825, 35, 51, 826), (130, 829, 36, 51, 830), (131, 832, 833, 51, 834), (132, 837, 37, 51, 838), (133, 840, 841, 51, 842), (135, 850, 38, 51, 851), (136, 854, 39, 51, 855), (137, 857, 858, 51, 859), (138, 862, 40, 51, 863), (139, 866, 41, 51, 867), (145, 884, 885, 51, 886)]
theorem vwT_110_ok : vwT_110.all (fun q => decide (lw_tbl[q.2.1]? = some (.instanceMethod (mY q.1)) ∧ lw_tbl[q.2.2.1]? = some (.selects (mY q.1).cls (mY q.1) (mY q.1)) ∧ lw_tbl[q.2.2.2.1]? = some (.initialized (mY q.1).cls) ∧ lw_tbl[q.2.2.2.2]? = some (cdW q.1) ∧ (mY q.1).cls = oN (cn q.1).2.1 ∧ (mI q.1).2.2.2.1 = (cn q.1).2.1) && dsc q.1 ((cn q.1).1 - 1)) = true := by decide +kernel
def vwT_121 : List (Nat × (Nat × (Nat × (Nat × Nat)))) := [(146, 889, 890, 51, 891), (147, 893, 894, 51, 895), (148, 897, 898, 51, 899), (149, 902, 42, 51, 903), (150, 906, 43, 51, 907), (151, 909, 910, 51, 911), (153, 918, 919, 51, 920), (154, 922, 923, 51, 924), (155, 930, 931, 51, 932), (156, 934, 935, 51, 936), (157, 938, 939, 51, 940)]
theorem vwT_121_ok : vwT_121.all (fun q => decide (lw_tbl[q.2.1]? = some (.instanceMethod (mY q.1)) ∧ lw_tbl[q.2.2.1]? = some (.selects (mY q.1).cls (mY q.1) (mY q.1)) ∧ lw_tbl[q.2.2.2.1]? = some (.initialized (mY q.1).cls) ∧ lw_tbl[q.2.2.2.2]? = some (cdW q.1) ∧ (mY q.1).cls = oN (cn q.1).2.1 ∧ (mI q.1).2.2.2.1 = (cn q.1).2.1) && dsc q.1 ((cn q.1).1 - 1)) = true := by decide +kernel
theorem vwT_eq : vwT = vwT_0 ++ vwT_11 ++ vwT_22 ++ vwT_33 ++ vwT_44 ++ vwT_55 ++ vwT_66 ++ vwT_77 ++ vwT_88 ++ vwT_99 ++ vwT_110 ++ vwT_121 := by decide +kernel
theorem in_pl {ws : List Cond} (ps : List Nat) (hp : ws = ps.filterMap (fun i => lw_tbl[i]?)) (hg : ws.all goodWord = true) : ∀ w ∈ ws, w ∈ lw_tbl ∧ goodWord w = true := by
  intro w hw
  have h1 := List.all_eq_true.mp hg w hw
  rw [hp] at hw
  obtain ⟨i, -, hi⟩ := List.mem_filterMap.mp hw
  exact ⟨List.mem_of_getElem? hi, h1⟩
theorem lay_0 : ∀ w ∈ u_ws RX0 TX0 3, w ∈ lw_tbl ∧ goodWord w = true := in_pl [115, 117, 119] (by decide +kernel) (by decide +kernel)
theorem lay_1 : ∀ w ∈ u_ws RX1 TX1 2, w ∈ lw_tbl ∧ goodWord w = true := in_pl [97, 99] (by decide +kernel) (by decide +kernel)
theorem lay_2 : ∀ w ∈ u_ws RX2 TX2 4, w ∈ lw_tbl ∧ goodWord w = true := in_pl [85, 87, 89, 91] (by decide +kernel) (by decide +kernel)
theorem lay_3 : ∀ w ∈ u_ws RX3 TX3 4, w ∈ lw_tbl ∧ goodWord w = true := in_pl [150, 152, 154, 156] (by decide +kernel) (by decide +kernel)
theorem lay_4 : ∀ w ∈ u_ws RX4 TX4 3, w ∈ lw_tbl ∧ goodWord w = true := in_pl [132, 134, 136] (by decide +kernel) (by decide +kernel)
theorem lay_5 : ∀ w ∈ u_ws RX5 TX5 8, w ∈ lw_tbl ∧ goodWord w = true := in_pl [167, 169, 171, 173, 175, 177, 179, 181] (by decide +kernel) (by decide +kernel)
theorem lay_6 : ∀ w ∈ u_ws RX6 TX6 31, w ∈ lw_tbl ∧ goodWord w = true := in_pl [603, 605, 607, 609, 611, 613, 615, 617, 619, 621, 623, 625, 627, 629, 631, 633, 635, 637, 639, 641, 643, 645, 647, 649, 651, 653, 655, 657, 659, 661, 663] (by decide +kernel) (by decide +kernel)
end
section
def nbeq (a b : Nat) : Bool := Nat.beq a b
/-- an entry is what its instruction says -/
def chk (y : Nat) (e : En) : Bool := match e with
  | (pc, I, nxt, a, b, sw, v, l) => match I with
    | .iconst n => decide (Int32.ofInt n = v)
    | .bipush n => decide ((Int8.ofInt n).toInt32 = v)
    | .sipush n => decide ((Int16.ofInt n).toInt32 = v)
    | .ldc i => cIT.any (fun q => nbeq q.1 (mI y).2.2.2.1 && nbeq q.2.1 i && decide (q.2.2.1 = v))
    | .ldc_w i => cIT.any (fun q => nbeq q.1 (mI y).2.2.2.1 && nbeq q.2.1 i && decide (q.2.2.1 = v))
    | .lconst n => decide (Int64.ofNat (n : Nat) = l)
    | .ldc2_w i => cJT.any (fun q => nbeq q.1 (mI y).2.2.2.1 && nbeq q.2.1 i && decide (q.2.2.1 = l))
    | .iload i => nbeq i a
    | .iload_n i => nbeq (i : Nat) a
    | .lload i => nbeq i a
    | .lload_n i => nbeq (i : Nat) a
    | .aload i => nbeq i a
    | .aload_n i => nbeq (i : Nat) a
    | .istore i => nbeq i a
    | .istore_n i => nbeq (i : Nat) a
    | .lstore i => nbeq i a
    | .lstore_n i => nbeq (i : Nat) a
    | .astore i => nbeq i a
    | .astore_n i => nbeq (i : Nat) a
    | .iinc i n => nbeq i a && decide (Int32.ofInt n = v)
    | .if_icmp _ off => decide ((pc : Int) + off = (a : Int))
    | .ifCond _ off => decide ((pc : Int) + off = (a : Int))
    | .goto off => decide ((pc : Int) + off = (a : Int))
    | .tableswitch d lo hi offs => decide ((pc : Int) + d = (a : Int)) && decide (offs.toList.map (fun o => (pc : Int) + o) = sw.map (fun (t : Nat) => (t : Int))) && decide ((sw.length : Int) = hi - lo + 1)
    | .lookupswitch d ps => decide ((pc : Int) + d = (a : Int)) && decide (ps.toList.map (fun o => (pc : Int) + o.2) = sw.map (fun (t : Nat) => (t : Int))) && (ps.toList.zip (ps.toList.drop 1)).all (fun (a, next) => a.1 < next.1)
    | .getfield i => fldT.any (fun q => nbeq q.1 (mI y).2.2.2.1 && nbeq q.2.1 i && nbeq q.2.2.1 a && nbeq q.2.2.2.1 b)
    | .putfield i => fldT.any (fun q => nbeq q.1 (mI y).2.2.2.1 && nbeq q.2.1 i && nbeq q.2.2.1 a && nbeq q.2.2.2.1 b) && decide ((tN a b).2.2.2 = false)
    | .getstatic i => nbeq (mI y).2.2.2.1 5 && nbeq i 230
    | .invokestatic i => match b with
      | 0 => csT.any (fun q => nbeq q.1 (mI y).2.2.2.1 && nbeq q.2.1 i && nbeq q.2.2.1 a) && Nat.ble ((mI a).2.2.2.2.1 + 1) (mI y).2.2.2.2.1 && Nat.ble (8 + ((mI a).2.1 + 11) + (mI a).2.2.2.2.2) (mI y).2.2.2.2.2
      | _ => inT.any (fun q => nbeq q.1 (mI y).2.2.2.1 && nbeq q.2.1 i && nbeq q.2.2.1 b) && Nat.ble 1 (mI y).2.2.2.2.1 && Nat.ble 26 (mI y).2.2.2.2.2
    | .invokevirtual i => cvT.any (fun q => nbeq q.1 (mI y).2.2.2.1 && nbeq q.2.1 i && nbeq q.2.2.1 a) && Nat.ble ((mI a).2.2.2.2.1 + 1) (mI y).2.2.2.2.1 && Nat.ble (8 + ((mI a).2.1 + 11) + (mI a).2.2.2.2.2) (mI y).2.2.2.2.2
    | .ireturn => match (cn y).2.2 with
      | true => decide ((mI y).2.2.1 = some .boolean)
      | false => decide ((mI y).2.2.1 = some .int)
    | .lreturn => decide ((mI y).2.2.1 = some .long)
    | .areturn => decide ((mI y).2.2.1 = some (.object "ThreeGaps$Items"))
    | .return_ => decide ((mI y).2.2.1 = none)
    | _ => true
/-- how long an instruction is -/
def ilen (d : Nat) (I : Jvm.ClassFile.Instr) : Nat := match I with
  | .bipush _ => 2
  | .sipush _ => 3
  | .ldc _ => 2
  | .ldc_w _ => 3
  | .ldc2_w _ => 3
  | .iload _ => 2
  | .lload _ => 2
  | .aload _ => 2
  | .istore _ => 2
  | .lstore _ => 2
  | .astore _ => 2
  | .iinc _ _ => 3
  | .if_icmp _ _ => 3
  | .ifCond _ _ => 3
  | .goto _ => 3
  | .tableswitch _ _ _ _ => d
  | .lookupswitch _ _ => d
  | .getfield _ => 3
  | .putfield _ => 3
  | .getstatic _ => 3
  | .invokestatic _ => 3
  | .invokevirtual _ => 3
  | _ => 1
def chkD (cd : ByteArray) (y : Nat) (e : En) : Bool := decide (decode cd e.1 = .ok (e.2.1, ilen (e.2.2.1 - e.1) e.2.1)) && (nbeq e.2.2.1 (e.1 + ilen (e.2.2.1 - e.1) e.2.1) && chk y e)
end
section
theorem dk_0 : P0.all (chkD cX0_remember 0) = true := by decide +kernel
theorem dk_1 : P1.all (chkD cX0_bringBack 1) = true := by decide +kernel
theorem dk_2 : P2.all (chkD cX1_copyFrom 2) = true := by decide +kernel
theorem dk_3 : P3.all (chkD cX1_of 3) = true := by decide +kernel
theorem dk_4 : P4.all (chkD cX1_items 4) = true := by decide +kernel
theorem dk_5 : P5.all (chkD cX2_copyFrom 5) = true := by decide +kernel
theorem dk_6 : P6.all (chkD cX2_add 6) = true := by decide +kernel
theorem dk_7 : P7.all (chkD cX2_openAt 7) = true := by decide +kernel
theorem dk_8 : P8.all (chkD cX2_canTake 8) = true := by decide +kernel
theorem dk_9 : P9.all (chkD cX2_indexOf 9) = true := by decide +kernel
theorem dk_10 : P10.all (chkD cX2_lesser 10) = true := by decide +kernel
theorem dk_11 : P11.all (chkD cX2_place 11) = true := by decide +kernel
theorem dk_12 : P12.all (chkD cX2_top 12) = true := by decide +kernel
theorem dk_13 : P13.all (chkD cX2_partIfFull 13) = true := by decide +kernel
theorem dk_14 : P14.all (chkD cX2_ahead 14) = true := by decide +kernel
theorem dk_15 : P15.all (chkD cX2_behind 15) = true := by decide +kernel
theorem dk_16 : P16.all (chkD cX2_countOf 16) = true := by decide +kernel
theorem dk_17 : P17.all (chkD cX2_nth 17) = true := by decide +kernel
theorem dk_18 : P18.all (chkD cX2_raise 18) = true := by decide +kernel
theorem dk_19 : P19.all (chkD cX2_takeOut 19) = true := by decide +kernel
theorem dk_20 : P20.all (chkD cX2_changePlaces 20) = true := by decide +kernel
theorem dk_21 : P21.all (chkD cX2_helpIfPoor 21) = true := by decide +kernel
theorem dk_22 : P22.all (chkD cX2_helpFromBehind 22) = true := by decide +kernel
theorem dk_23 : P23.all (chkD cX2_helpFromAhead 23) = true := by decide +kernel
theorem dk_24 : P24.all (chkD cX2_closeAt 24) = true := by decide +kernel
theorem dk_25 : P25.all (chkD cX2_newTo 25) = true := by decide +kernel
theorem dk_26 : P26.all (chkD cX2_moveTo 26) = true := by decide +kernel
theorem dk_27 : P27.all (chkD cX2_allHeights 27) = true := by decide +kernel
theorem dk_28 : P28.all (chkD cX2_keyAt 28) = true := by decide +kernel
theorem dk_29 : P29.all (chkD cX2_allLooks 29) = true := by decide +kernel
theorem dk_30 : P30.all (chkD cX2_looksFor 30) = true := by decide +kernel
end
section
theorem dk_31 : P31.all (chkD cX2_valuesWithin 31) = true := by decide +kernel
theorem dk_32 : P32.all (chkD cX2_otherHeights 32) = true := by decide +kernel
theorem dk_33 : P33.all (chkD cX3_add 33) = true := by decide +kernel
theorem dk_34 : P34.all (chkD cX3_isSo 34) = true := by decide +kernel
theorem dk_35 : P35.all (chkD cX4_append 35) = true := by decide +kernel
theorem dk_36 : P36.all (chkD cX4_firstFault 36) = true := by decide +kernel
theorem dk_37 : P37.all (chkD cX4_fits 37) = true := by decide +kernel
theorem dk_38 : P38.all (chkD cX4_figure 38) = true := by decide +kernel
theorem dk_39 : P39.all (chkD cX4_takesHeight 39) = true := by decide +kernel
theorem dk_40 : P40.all (chkD cX4_isClosed 40) = true := by decide +kernel
theorem dk_41 : P41.all (chkD cX4_tellTo 41) = true := by decide +kernel
theorem dk_42 : P42.all (chkD cX5_write 42) = true := by decide +kernel
theorem dk_43 : P43.all (chkD cX5_wipe 43) = true := by decide +kernel
theorem dk_44 : P44.all (chkD cX5_fault 44) = true := by decide +kernel
theorem dk_45 : P45.all (chkD cX5_shape 45) = true := by decide +kernel
theorem dk_46 : P46.all (chkD cX5_isMap 46) = true := by decide +kernel
theorem dk_47 : P47.all (chkD cX5_put 47) = true := by decide +kernel
theorem dk_48 : P48.all (chkD cX5_isKey 48) = true := by decide +kernel
theorem dk_49 : P49.all (chkD cX5_remove 49) = true := by decide +kernel
theorem dk_50 : P50.all (chkD cX5_cut 50) = true := by decide +kernel
theorem dk_51 : P51.all (chkD cX5_undo 51) = true := by decide +kernel
theorem dk_52 : P52.all (chkD cX5_about 52) = true := by decide +kernel
theorem dk_53 : P53.all (chkD cX5_item 53) = true := by decide +kernel
theorem dk_54 : P54.all (chkD cX5_get 54) = true := by decide +kernel
theorem dk_55 : P55.all (chkD cX5_span 55) = true := by decide +kernel
theorem dk_56 : P56.all (chkD cX5_rank 56) = true := by decide +kernel
theorem dk_57 : P57.all (chkD cX5_near 57) = true := by decide +kernel
theorem dk_58 : P58.all (chkD cX5_looks 58) = true := by decide +kernel
theorem dk_59 : P59.all (chkD cX5_sum 59) = true := by decide +kernel
theorem dk_60 : P60.all (chkD cX5_would 60) = true := by decide +kernel
theorem dk_61 : P61.all (chkD cX5_tryOn 61) = true := by decide +kernel
theorem dk_62 : P62.all (chkD cX5_best 62) = true := by decide +kernel
end
section
theorem dk_63 : P63.all (chkD cX5_isWorthTrying 63) = true := by decide +kernel
theorem dk_64 : P64.all (chkD cX5_looksWith 64) = true := by decide +kernel
theorem dk_65 : P65.all (chkD cX5_judge 65) = true := by decide +kernel
theorem dk_66 : P66.all (chkD cX5_canBe 66) = true := by decide +kernel
theorem dk_67 : P67.all (chkD cX5_share 67) = true := by decide +kernel
theorem dk_68 : P68.all (chkD cX5_chanced 68) = true := by decide +kernel
theorem dk_69 : P69.all (chkD cX5_without 69) = true := by decide +kernel
theorem dk_70 : P70.all (chkD cX5_ordersAround 70) = true := by decide +kernel
theorem dk_71 : P71.all (chkD cX5_factorial 71) = true := by decide +kernel
theorem dk_72 : P72.all (chkD cX5_fraction 72) = true := by decide +kernel
theorem dk_73 : P73.all (chkD cX5_commonDivisor 73) = true := by decide +kernel
theorem dk_74 : P74.all (chkD cX5_seek 74) = true := by decide +kernel
theorem dk_75 : P75.all (chkD cX5_unseek 75) = true := by decide +kernel
theorem dk_76 : P76.all (chkD cX5_keys 76) = true := by decide +kernel
theorem dk_77 : P77.all (chkD cX5_rests 77) = true := by decide +kernel
theorem dk_78 : P78.all (chkD cX5_isAtRest 78) = true := by decide +kernel
theorem dk_79 : P79.all (chkD cX5_gain 79) = true := by decide +kernel
theorem dk_80 : P80.all (chkD cX5_lost 80) = true := by decide +kernel
theorem dk_81 : P81.all (chkD cX5_weight 81) = true := by decide +kernel
theorem dk_82 : P82.all (chkD cX5_seed 82) = true := by decide +kernel
theorem dk_83 : P83.all (chkD cX5_rounds 83) = true := by decide +kernel
theorem dk_84 : P84.all (chkD cX5_keep 84) = true := by decide +kernel
theorem dk_85 : P85.all (chkD cX5_isSlot 85) = true := by decide +kernel
theorem dk_86 : P86.all (chkD cX5_again 86) = true := by decide +kernel
theorem dk_87 : P87.all (chkD cX5_count 87) = true := by decide +kernel
theorem dk_88 : P88.all (chkD cX6_write 88) = true := by decide +kernel
theorem dk_89 : P89.all (chkD cX6_in 89) = true := by decide +kernel
theorem dk_90 : P90.all (chkD cX6_wipe 90) = true := by decide +kernel
theorem dk_91 : P91.all (chkD cX6_fault 91) = true := by decide +kernel
theorem dk_92 : P92.all (chkD cX6_readShape 92) = true := by decide +kernel
end
section
def P93_0 : List En := (P93.drop 0).take 60
theorem dk_93_0 : P93_0.all (chkD cX6_readItem 93) = true := by decide +kernel
def P93_60 : List En := (P93.drop 60).take 60
theorem dk_93_60 : P93_60.all (chkD cX6_readItem 93) = true := by decide +kernel
def P93_120 : List En := (P93.drop 120).take 60
theorem dk_93_120 : P93_120.all (chkD cX6_readItem 93) = true := by decide +kernel
theorem dk_94 : P94.all (chkD cX6_figure 94) = true := by decide +kernel
theorem dk_95 : P95.all (chkD cX6_mayCome 95) = true := by decide +kernel
theorem dk_96 : P96.all (chkD cX6_shape 96) = true := by decide +kernel
theorem dk_97 : P97.all (chkD cX6_noMap 97) = true := by decide +kernel
theorem dk_98 : P98.all (chkD cX6_note 98) = true := by decide +kernel
theorem dk_99 : P99.all (chkD cX6_put 99) = true := by decide +kernel
theorem dk_100 : P100.all (chkD cX6_noKey 100) = true := by decide +kernel
theorem dk_101 : P101.all (chkD cX6_find 101) = true := by decide +kernel
theorem dk_102 : P102.all (chkD cX6_goPut 102) = true := by decide +kernel
theorem dk_103 : P103.all (chkD cX6_goNew 103) = true := by decide +kernel
theorem dk_104 : P104.all (chkD cX6_lesser 104) = true := by decide +kernel
theorem dk_105 : P105.all (chkD cX6_top 105) = true := by decide +kernel
theorem dk_106 : P106.all (chkD cX6_layGap 106) = true := by decide +kernel
theorem dk_107 : P107.all (chkD cX6_between 107) = true := by decide +kernel
theorem dk_108 : P108.all (chkD cX6_placeOf 108) = true := by decide +kernel
theorem dk_109 : P109.all (chkD cX6_move 109) = true := by decide +kernel
theorem dk_110 : P110.all (chkD cX6_remove 110) = true := by decide +kernel
theorem dk_111 : P111.all (chkD cX6_goRemove 111) = true := by decide +kernel
end
section
theorem dk_112 : P112.all (chkD cX6_help 112) = true := by decide +kernel
theorem dk_113 : P113.all (chkD cX6_cut 113) = true := by decide +kernel
theorem dk_114 : P114.all (chkD cX6_inRange 114) = true := by decide +kernel
theorem dk_115 : P115.all (chkD cX6_undo 115) = true := by decide +kernel
theorem dk_116 : P116.all (chkD cX6_about 116) = true := by decide +kernel
theorem dk_117 : P117.all (chkD cX6_heights 117) = true := by decide +kernel
theorem dk_118 : P118.all (chkD cX6_allLooks 118) = true := by decide +kernel
theorem dk_119 : P119.all (chkD cX6_search 119) = true := by decide +kernel
theorem dk_120 : P120.all (chkD cX6_nextOn 120) = true := by decide +kernel
theorem dk_121 : P121.all (chkD cX6_item 121) = true := by decide +kernel
theorem dk_122 : P122.all (chkD cX6_get 122) = true := by decide +kernel
theorem dk_123 : P123.all (chkD cX6_span 123) = true := by decide +kernel
theorem dk_124 : P124.all (chkD cX6_rank 124) = true := by decide +kernel
theorem dk_125 : P125.all (chkD cX6_near 125) = true := by decide +kernel
theorem dk_126 : P126.all (chkD cX6_looks 126) = true := by decide +kernel
theorem dk_127 : P127.all (chkD cX6_sum 127) = true := by decide +kernel
theorem dk_128 : P128.all (chkD cX6_would 128) = true := by decide +kernel
theorem dk_129 : P129.all (chkD cX6_begin 129) = true := by decide +kernel
end
section
theorem dk_130 : P130.all (chkD cX6_otherHeights 130) = true := by decide +kernel
theorem dk_131 : P131.all (chkD cX6_best 131) = true := by decide +kernel
theorem dk_132 : P132.all (chkD cX6_findBest 132) = true := by decide +kernel
theorem dk_133 : P133.all (chkD cX6_judge 133) = true := by decide +kernel
theorem dk_134 : P134.all (chkD cX6_longPower 134) = true := by decide +kernel
theorem dk_135 : P135.all (chkD cX6_does 135) = true := by decide +kernel
theorem dk_136 : P136.all (chkD cX6_removes 136) = true := by decide +kernel
theorem dk_137 : P137.all (chkD cX6_share 137) = true := by decide +kernel
theorem dk_138 : P138.all (chkD cX6_few 138) = true := by decide +kernel
theorem dk_139 : P139.all (chkD cX6_without 139) = true := by decide +kernel
theorem dk_140 : P140.all (chkD cX6_has 140) = true := by decide +kernel
theorem dk_141 : P141.all (chkD cX6_many 141) = true := by decide +kernel
theorem dk_142 : P142.all (chkD cX6_ways 142) = true := by decide +kernel
theorem dk_143 : P143.all (chkD cX6_fraction 143) = true := by decide +kernel
theorem dk_144 : P144.all (chkD cX6_divisor 144) = true := by decide +kernel
theorem dk_145 : P145.all (chkD cX6_seek 145) = true := by decide +kernel
theorem dk_146 : P146.all (chkD cX6_unseek 146) = true := by decide +kernel
theorem dk_147 : P147.all (chkD cX6_keys 147) = true := by decide +kernel
def P148_0 : List En := (P148.drop 0).take 60
theorem dk_148_0 : P148_0.all (chkD cX6_rests 148) = true := by decide +kernel
def P148_60 : List En := (P148.drop 60).take 60
theorem dk_148_60 : P148_60.all (chkD cX6_rests 148) = true := by decide +kernel
def P148_120 : List En := (P148.drop 120).take 60
theorem dk_148_120 : P148_120.all (chkD cX6_rests 148) = true := by decide +kernel
theorem dk_149 : P149.all (chkD cX6_layGains 149) = true := by decide +kernel
end
section
theorem dk_150 : P150.all (chkD cX6_gain 150) = true := by decide +kernel
theorem dk_151 : P151.all (chkD cX6_lost 151) = true := by decide +kernel
theorem dk_152 : P152.all (chkD cX6_power 152) = true := by decide +kernel
theorem dk_153 : P153.all (chkD cX6_seed 153) = true := by decide +kernel
theorem dk_154 : P154.all (chkD cX6_rounds 154) = true := by decide +kernel
theorem dk_155 : P155.all (chkD cX6_keep 155) = true := by decide +kernel
theorem dk_156 : P156.all (chkD cX6_again 156) = true := by decide +kernel
theorem dk_157 : P157.all (chkD cX6_count 157) = true := by decide +kernel
theorem dk_158 : P158.all (chkD cJ6_bitCount_0f7a4 158) = true := by decide +kernel
def P159_0 : List En := (P159.drop 0).take 60
theorem dk_159_0 : P159_0.all (chkD code 159) = true := by decide +kernel
def P159_60 : List En := (P159.drop 60).take 60
theorem dk_159_60 : P159_60.all (chkD code 159) = true := by decide +kernel
def P159_120 : List En := (P159.drop 120).take 60
theorem dk_159_120 : P159_120.all (chkD code 159) = true := by decide +kernel
def P159_180 : List En := (P159.drop 180).take 60
theorem dk_159_180 : P159_180.all (chkD code 159) = true := by decide +kernel
def P159_240 : List En := (P159.drop 240).take 60
theorem dk_159_240 : P159_240.all (chkD code 159) = true := by decide +kernel
def P159_300 : List En := (P159.drop 300).take 60
theorem dk_159_300 : P159_300.all (chkD code 159) = true := by decide +kernel
def P159_360 : List En := (P159.drop 360).take 60
theorem dk_159_360 : P159_360.all (chkD code 159) = true := by decide +kernel
def P159_420 : List En := (P159.drop 420).take 60
theorem dk_159_420 : P159_420.all (chkD code 159) = true := by decide +kernel
def P159_480 : List En := (P159.drop 480).take 60
theorem dk_159_480 : P159_480.all (chkD code 159) = true := by decide +kernel
def P159_540 : List En := (P159.drop 540).take 60
theorem dk_159_540 : P159_540.all (chkD code 159) = true := by decide +kernel
def P159_600 : List En := (P159.drop 600).take 60
theorem dk_159_600 : P159_600.all (chkD code 159) = true := by decide +kernel
def P159_660 : List En := (P159.drop 660).take 60
theorem dk_159_660 : P159_660.all (chkD code 159) = true := by decide +kernel
def P159_720 : List En := (P159.drop 720).take 60
theorem dk_159_720 : P159_720.all (chkD code 159) = true := by decide +kernel
def P159_780 : List En := (P159.drop 780).take 60
theorem dk_159_780 : P159_780.all (chkD code 159) = true := by decide +kernel
def P159_840 : List En := (P159.drop 840).take 60
theorem dk_159_840 : P159_840.all (chkD code 159) = true := by decide +kernel
end
section
/-! The small machine: the same bytecode over a plain heap (kind, number, place) whose references never change. -/
abbrev PV : Type := Int32 ⊕ (Int64 ⊕ (Nat × Nat))
abbrev Hp : Type := (Nat → Nat → Nat → Int32) × ((Nat → Int64) × Nat)
abbrev Lc : Type := List (Option PV)
abbrev Sr : Type := (Nat × (Lc × (List PV × Hp))) ⊕ ((Nat × (List PV × (List PV × Nat))) ⊕ Option PV)
/-- a field: none an int, some none a long, some (some g) a reference -/
abbrev FD : Type := Option (Option (Nat → Nat × Nat))
def fI : FD := none
def fL : FD := some none
def fR (g : Nat → Nat × Nat) : FD := some (some g)
def rk (k : Nat) : FD := fR (fun _ => (k, 0))
def ftab : List (List FD) :=
  [[rk 10, fI, fI],
   [fR (fun i => (2, 2 * i)), fR (fun i => (2, 2 * i + 1))],
   [fR (fun i => (7, i)), fR (fun i => (8, i)), fR (fun i => (9, i)), fI],
   [rk 15, rk 16, rk 17, fI],
   [rk 13, rk 14, fI],
   [fR (fun _ => (1, 0)), fR (fun _ => (1, 1)), rk 0, rk 4, rk 3, rk 11, rk 12, fL],
   [fI, rk 18, fI, fI, rk 19, fI, fI, rk 20, rk 21, rk 22, rk 23, fI, rk 24, rk 25, fI, rk 26, rk 27, rk 28, fL, fI, fI, fI, fI, fI, fI, fI, fI, fI, fI, rk 29, rk 30]]
/-- an array: its sort (0 ints, 1 booleans, 2 references from a number on, 3 ints that nobody writes), how long -/
def atab : List (Nat × Nat) :=
  [(0, 40), (0, 40), (0, 40), (2, 14), (2, 2), (1, 2), (0, 64), (0, 6), (0, 6), (0, 6), (0, 6), (0, 64), (0, 8), (0, 121), (0, 242), (0, 242), (0, 3388), (0, 484), (1, 2), (0, 6), (0, 6), (0, 6), (0, 8), (0, 16)]
def fdOf (kd k : Nat) : Option FD := (ftab.getD kd [])[k]?
/-- which sort of array a kind is, and its length: kinds 7 .. 30, 31 the factorials, 32 the script -/
def arr (σ : Hp) (kd : Nat) : Option (Nat × Nat) := match kd with
  | 31 => some (3, 5)
  | 32 => some (3, σ.2.2)
  | 0 => none
  | 1 => none
  | 2 => none
  | 3 => none
  | 4 => none
  | 5 => none
  | 6 => none
  | _ => atab[kd - 7]?
def hset (f : Nat → Nat → Nat → Int32) (a b c : Nat) (v : Int32) : Nat → Nat → Nat → Int32 := fun x y z => if x = a ∧ y = b ∧ z = c then v else f x y z
def hrow (f : Nat → Nat → Nat → Int32) (a b : Nat) (g : Nat → Int32) : Nat → Nat → Nat → Int32 := fun x y z => if x = a ∧ y = b then g z else f x y z
def lset (f : Nat → Int64) (a : Nat) (v : Int64) : Nat → Int64 := fun x => if x = a then v else f x
def nx (pc : Nat) (ls : Lc) (stk : List PV) (σ : Hp) : Option Sr := some (.inl (pc, ls, stk, σ))
def catP (v : PV) : Nat := match v with
  | .inr (.inl _) => 2
  | _ => 1
/-- whether a place may be stored at: no long just ahead of it -/
def okst (ls : Lc) (a : Nat) : Bool := match a with
  | 0 => true
  | k + 1 => match ls[k]? with
    | some (some (.inr (.inl _))) => false
    | _ => true
def bIf (c : Bool) (t f : Option Sr) : Option Sr := match c with
  | true => t
  | false => f
def cmpI (c : Jvm.ClassFile.Cond) (x y : Int32) : Prop := match c with
  | .eq => x = y
  | .ne => ¬ x = y
  | .lt => x < y
  | .ge => y ≤ x
  | .gt => y < x
  | .le => x ≤ y
def cmpD (c : Jvm.ClassFile.Cond) (x y : Int32) : Decidable (cmpI c x y) := match c with
  | .eq => inferInstanceAs (Decidable (x = y))
  | .ne => inferInstanceAs (Decidable (¬ x = y))
  | .lt => inferInstanceAs (Decidable (x < y))
  | .ge => inferInstanceAs (Decidable (y ≤ x))
  | .gt => inferInstanceAs (Decidable (y < x))
  | .le => inferInstanceAs (Decidable (x ≤ y))
def jrem (x y : Int32) : Int32 := x - x / y * y
def jshl (x y : Int32) : Int32 := x <<< (y &&& 31)
def jshr (x y : Int32) : Int32 := x >>> (y &&& 31)
def jushr (x y : Int32) : Int32 := (x.toUInt32 >>> (y.toUInt32 &&& Int32.toUInt32 31)).toInt32
def jlrem (x y : Int64) : Int64 := x - x / y * y
/-- a boolean's int -/
def zOk (v : Int32) : Prop := v = 0 ∨ v = 1
def zOkD (v : Int32) : Decidable (zOk v) := inferInstanceAs (Decidable (v = 0 ∨ v = 1))
def inD (i : Int32) (n : Nat) : Decidable (vp_in i n) := inferInstanceAs (Decidable (¬ (i < 0 ∨ n ≤ i.toNatClampNeg)))
def xload (nxt : Nat) (t a : Nat) (ls : Lc) (stk : List PV) (σ : Hp) : Option Sr := match t, ls[a]? with
  | 0, some (some (.inl x)) => nx nxt ls (.inl x :: stk) σ
  | 1, some (some (.inr (.inl x))) => nx nxt ls (.inr (.inl x) :: stk) σ
  | 2, some (some (.inr (.inr x))) => nx nxt ls (.inr (.inr x) :: stk) σ
  | _, _ => none
def xstore (nxt : Nat) (t a : Nat) (ls : Lc) (stk : List PV) (σ : Hp) : Option Sr := match t, stk with
  | 0, .inl x :: r => bIf (okst ls a && Nat.blt a ls.length) (nx nxt (ls.set a (some (.inl x))) r σ) none
  | 1, .inr (.inl x) :: r => bIf (okst ls a && Nat.blt (a + 1) ls.length) (nx nxt ((ls.set a (some (.inr (.inl x)))).set (a + 1) none) r σ) none
  | 2, .inr (.inr x) :: r => bIf (okst ls a && Nat.blt a ls.length) (nx nxt (ls.set a (some (.inr (.inr x)))) r σ) none
  | _, _ => none
def xii (f : Int32 → Int32 → Int32) (nxt : Nat) (ls : Lc) (stk : List PV) (σ : Hp) : Option Sr := match stk with
  | .inl y :: .inl x :: r => nx nxt ls (.inl (f x y) :: r) σ
  | _ => none
def xll (f : Int64 → Int64 → Int64) (nxt : Nat) (ls : Lc) (stk : List PV) (σ : Hp) : Option Sr := match stk with
  | .inr (.inl y) :: .inr (.inl x) :: r => nx nxt ls (.inr (.inl (f x y)) :: r) σ
  | _ => none
def xdiv (f : Int32 → Int32 → Int32) (nxt : Nat) (ls : Lc) (stk : List PV) (σ : Hp) : Option Sr := match stk with
  | .inl y :: .inl x :: r => if y = 0 then none else nx nxt ls (.inl (f x y) :: r) σ
  | _ => none
def xldiv (f : Int64 → Int64 → Int64) (nxt : Nat) (ls : Lc) (stk : List PV) (σ : Hp) : Option Sr := match stk with
  | .inr (.inl y) :: .inr (.inl x) :: r => if y = 0 then none else nx nxt ls (.inr (.inl (f x y)) :: r) σ
  | _ => none
def xget (nxt a b : Nat) (ls : Lc) (stk : List PV) (σ : Hp) : Option Sr := match stk with
  | .inr (.inr (kd, ix)) :: r => bIf (Nat.beq kd a) (match fdOf a b with
    | some none => nx nxt ls (.inl (σ.1 kd ix b) :: r) σ
    | some (some none) => nx nxt ls (.inr (.inl (σ.2.1 kd)) :: r) σ
    | some (some (some g)) => nx nxt ls (.inr (.inr (g ix)) :: r) σ
    | none => none) none
  | _ => none
/-- the one boolean field -/
def isZ (a b : Nat) : Bool := Nat.beq a 6 && Nat.beq b 20
def xput (nxt a b : Nat) (ls : Lc) (stk : List PV) (σ : Hp) : Option Sr := match stk with
  | .inl v :: .inr (.inr (kd, ix)) :: r => bIf (Nat.beq kd a) (match fdOf a b with
    | some none => match isZ a b with
      | false => nx nxt ls r (hset σ.1 kd ix b v, σ.2)
      | true => @ite _ (zOk v) (zOkD v) (nx nxt ls r (hset σ.1 kd ix b v, σ.2)) none
    | _ => none) none
  | .inr (.inl v) :: .inr (.inr (kd, _)) :: r => bIf (Nat.beq kd a) (match fdOf a b with
    | some (some none) => nx nxt ls r (σ.1, lset σ.2.1 kd v, σ.2.2)
    | _ => none) none
  | _ => none
def xald (nxt : Nat) (ls : Lc) (stk : List PV) (σ : Hp) : Option Sr := match stk with
  | .inl i :: .inr (.inr (kd, ix)) :: r => match arr σ kd with
    | some (0, n) => @ite _ (vp_in i n) (inD i n) (nx nxt ls (.inl (σ.1 kd ix i.toNatClampNeg) :: r) σ) none
    | some (3, n) => @ite _ (vp_in i n) (inD i n) (nx nxt ls (.inl (σ.1 kd ix i.toNatClampNeg) :: r) σ) none
    | _ => none
  | _ => none
def xzld (nxt : Nat) (ls : Lc) (stk : List PV) (σ : Hp) : Option Sr := match stk with
  | .inl i :: .inr (.inr (kd, ix)) :: r => match arr σ kd with
    | some (1, n) => @ite _ (vp_in i n) (inD i n) (nx nxt ls (.inl (σ.1 kd ix i.toNatClampNeg) :: r) σ) none
    | _ => none
  | _ => none
/-- the Boths of an array of references begin at a number -/
def qb (kd : Nat) : Nat := match kd with
  | 10 => 2
  | _ => 16
def xqld (nxt : Nat) (ls : Lc) (stk : List PV) (σ : Hp) : Option Sr := match stk with
  | .inl i :: .inr (.inr (kd, _)) :: r => match arr σ kd with
    | some (2, n) => @ite _ (vp_in i n) (inD i n) (nx nxt ls (.inr (.inr (1, qb kd + i.toNatClampNeg)) :: r) σ) none
    | _ => none
  | _ => none
def xast (nxt : Nat) (ls : Lc) (stk : List PV) (σ : Hp) : Option Sr := match stk with
  | .inl v :: .inl i :: .inr (.inr (kd, ix)) :: r => match arr σ kd with
    | some (0, n) => @ite _ (vp_in i n) (inD i n) (nx nxt ls r (hset σ.1 kd ix i.toNatClampNeg v, σ.2)) none
    | _ => none
  | _ => none
def xzst (nxt : Nat) (ls : Lc) (stk : List PV) (σ : Hp) : Option Sr := match stk with
  | .inl v :: .inl i :: .inr (.inr (kd, ix)) :: r => match arr σ kd with
    | some (1, n) => @ite _ (vp_in i n ∧ zOk v) (@instDecidableAnd _ _ (inD i n) (zOkD v)) (nx nxt ls r (hset σ.1 kd ix i.toNatClampNeg v, σ.2)) none
    | _ => none
  | _ => none
def xalen (nxt : Nat) (ls : Lc) (stk : List PV) (σ : Hp) : Option Sr := match stk with
  | .inr (.inr (kd, _)) :: r => match arr σ kd with
    | some (3, n) => nx nxt ls (.inl (Int32.ofNat n) :: r) σ
    | _ => none
  | _ => none
def swT (x : Int32) (lo hi : Int) (sw : List Nat) (d : Nat) : Nat := if x.toInt < lo ∨ hi < x.toInt then d else sw.getD (x.toInt - lo).toNat d
def lkT (x : Int32) : List (Int × Int) → List Nat → Nat → Nat
  | (k, _) :: ps, t :: ts, d => if x.toInt = k then t else lkT x ps ts d
  | _, _, d => d
/-- ints laid from one array into another one -/
def cpyOk (sp dp n : Int32) (n0 n1 : Nat) : Prop := ¬ sp < 0 ∧ ¬ dp < 0 ∧ ¬ n < 0 ∧ sp.toNatClampNeg + n.toNatClampNeg ≤ n0 ∧ dp.toNatClampNeg + n.toNatClampNeg ≤ n1
def cpyD (sp dp n : Int32) (n0 n1 : Nat) : Decidable (cpyOk sp dp n n0 n1) := inferInstanceAs (Decidable (¬ sp < 0 ∧ ¬ dp < 0 ∧ ¬ n < 0 ∧ sp.toNatClampNeg + n.toNatClampNeg ≤ n0 ∧ dp.toNatClampNeg + n.toNatClampNeg ≤ n1))
def xcpy (nxt : Nat) (ls : Lc) (stk : List PV) (σ : Hp) : Option Sr := match stk with
  | .inl n :: .inl dp :: .inr (.inr (kd, ix)) :: .inl sp :: .inr (.inr (kd0, ix0)) :: r => match arr σ kd0, arr σ kd with
    | some (0, n0), some (0, n1) => @ite _ (cpyOk sp dp n n0 n1) (cpyD sp dp n n0 n1) (nx nxt ls r (hrow σ.1 kd ix (va_cpy (σ.1 kd0 ix0) (σ.1 kd ix) sp.toNatClampNeg dp.toNatClampNeg n.toNatClampNeg), σ.2)) none
    | _, _ => none
  | _ => none
def wds (l : List PV) : Nat := (l.map catP).sum
/-- a call: n values (the receiver among them); what lies below them has at most eight words -/
def xcall (nxt a n : Nat) (stk : List PV) : Option Sr := bIf (Nat.ble n stk.length && Nat.ble (wds (stk.drop n)) 8) (some (.inr (.inl (a, (stk.take n).reverse, stk.drop n, nxt)))) none
/-- one instruction; cn: for a method its number of values, the receiver's kind (9: none), whether its answer is a boolean -/
def xexec (cn : Nat → Nat × (Nat × Bool)) (y : Nat) (e : En) (ls : Lc) (stk : List PV) (σ : Hp) : Option Sr := match e with
  | (_, I, nxt, a, b, sw, v, l) => match I with
    | .iconst _ => nx nxt ls (.inl v :: stk) σ
    | .bipush _ => nx nxt ls (.inl v :: stk) σ
    | .sipush _ => nx nxt ls (.inl v :: stk) σ
    | .ldc _ => nx nxt ls (.inl v :: stk) σ
    | .ldc_w _ => nx nxt ls (.inl v :: stk) σ
    | .lconst _ => nx nxt ls (.inr (.inl l) :: stk) σ
    | .ldc2_w _ => nx nxt ls (.inr (.inl l) :: stk) σ
    | .iload _ => xload nxt 0 a ls stk σ
    | .iload_n _ => xload nxt 0 a ls stk σ
    | .lload _ => xload nxt 1 a ls stk σ
    | .lload_n _ => xload nxt 1 a ls stk σ
    | .aload _ => xload nxt 2 a ls stk σ
    | .aload_n _ => xload nxt 2 a ls stk σ
    | .istore _ => xstore nxt 0 a ls stk σ
    | .istore_n _ => xstore nxt 0 a ls stk σ
    | .lstore _ => xstore nxt 1 a ls stk σ
    | .lstore_n _ => xstore nxt 1 a ls stk σ
    | .astore _ => xstore nxt 2 a ls stk σ
    | .astore_n _ => xstore nxt 2 a ls stk σ
    | .iinc _ _ => match ls[a]? with
      | some (some (.inl x)) => bIf (okst ls a && Nat.blt a ls.length) (nx nxt (ls.set a (some (.inl (x + v)))) stk σ) none
      | _ => none
    | .iadd => xii HAdd.hAdd nxt ls stk σ
    | .isub => xii HSub.hSub nxt ls stk σ
    | .imul => xii HMul.hMul nxt ls stk σ
    | .iand => xii HAnd.hAnd nxt ls stk σ
    | .ior => xii HOr.hOr nxt ls stk σ
    | .ixor => xii HXor.hXor nxt ls stk σ
    | .ishl => xii jshl nxt ls stk σ
    | .ishr => xii jshr nxt ls stk σ
    | .iushr => xii jushr nxt ls stk σ
    | .idiv => xdiv HDiv.hDiv nxt ls stk σ
    | .irem => xdiv jrem nxt ls stk σ
    | .ineg => match stk with
      | .inl x :: r => nx nxt ls (.inl (-x) :: r) σ
      | _ => none
    | .ladd => xll HAdd.hAdd nxt ls stk σ
    | .lsub => xll HSub.hSub nxt ls stk σ
    | .lmul => xll HMul.hMul nxt ls stk σ
    | .land => xll HAnd.hAnd nxt ls stk σ
    | .lor => xll HOr.hOr nxt ls stk σ
    | .ldiv => xldiv HDiv.hDiv nxt ls stk σ
    | .lrem => xldiv jlrem nxt ls stk σ
    | .lushr => match stk with
      | .inl y :: .inr (.inl x) :: r => nx nxt ls (.inr (.inl ((x.toUInt64 >>> (y.toInt64.toUInt64 &&& Int64.toUInt64 63)).toInt64)) :: r) σ
      | _ => none
    | .lshl => match stk with
      | .inl y :: .inr (.inl x) :: r => nx nxt ls (.inr (.inl (x <<< (y.toInt64 &&& 63))) :: r) σ
      | _ => none
    | .i2l => match stk with
      | .inl x :: r => nx nxt ls (.inr (.inl x.toInt64) :: r) σ
      | _ => none
    | .l2i => match stk with
      | .inr (.inl x) :: r => nx nxt ls (.inl x.toInt32 :: r) σ
      | _ => none
    | .lcmp => match stk with
      | .inr (.inl y) :: .inr (.inl x) :: r => nx nxt ls (.inl (lg_cmp x y) :: r) σ
      | _ => none
    | .if_icmp c _ => match stk with
      | .inl y :: .inl x :: r => @ite _ (cmpI c x y) (cmpD c x y) (nx a ls r σ) (nx nxt ls r σ)
      | _ => none
    | .ifCond c _ => match stk with
      | .inl x :: r => @ite _ (cmpI c x 0) (cmpD c x 0) (nx a ls r σ) (nx nxt ls r σ)
      | _ => none
    | .goto _ => nx a ls stk σ
    | .tableswitch _ lo hi _ => match stk with
      | .inl x :: r => nx (swT x lo hi sw a) ls r σ
      | _ => none
    | .lookupswitch _ ps => match stk with
      | .inl x :: r => nx (lkT x ps.toList sw a) ls r σ
      | _ => none
    | .dup => match stk with
      | .inl x :: r => nx nxt ls (.inl x :: .inl x :: r) σ
      | .inr (.inr x) :: r => nx nxt ls (.inr (.inr x) :: .inr (.inr x) :: r) σ
      | _ => none
    | .dup2 => match stk with
      | .inl x :: .inr (.inr z) :: r => nx nxt ls (.inl x :: .inr (.inr z) :: .inl x :: .inr (.inr z) :: r) σ
      | _ => none
    | .pop => match stk with
      | .inl _ :: r => nx nxt ls r σ
      | _ => none
    | .getfield _ => xget nxt a b ls stk σ
    | .putfield _ => xput nxt a b ls stk σ
    | .getstatic _ => nx nxt ls (.inr (.inr (31, 0)) :: stk) σ
    | .iaload => xald nxt ls stk σ
    | .baload => xzld nxt ls stk σ
    | .aaload => xqld nxt ls stk σ
    | .iastore => xast nxt ls stk σ
    | .bastore => xzst nxt ls stk σ
    | .arraylength => xalen nxt ls stk σ
    | .invokestatic _ => match b with
      | 0 => xcall nxt a (cn a).1 stk
      | 1 => match stk with
        | .inl y :: .inl x :: r => bIf (Nat.ble (wds r) 8) (nx nxt ls (.inl (if x < y then y else x) :: r) σ) none
        | _ => none
      | 2 => match stk with
        | .inl y :: .inl x :: r => bIf (Nat.ble (wds r) 8) (nx nxt ls (.inl (if y < x then y else x) :: r) σ) none
        | _ => none
      | 3 => match stk with
        | .inl x :: r => bIf (Nat.ble (wds r) 8) (nx nxt ls (.inl (if 0 ≤ x then x else 0 - x) :: r) σ) none
        | _ => none
      | 4 => match stk with
        | _ :: _ :: _ :: _ :: _ :: r => bIf (Nat.ble (wds r) 8) (xcpy nxt ls stk σ) none
        | _ => none
      | _ => none
    | .invokevirtual _ => match stk.drop ((cn a).1 - 1) with
      | .inr (.inr (kd, _)) :: _ => bIf (Nat.beq kd (cn a).2.1) (xcall nxt a (cn a).1 stk) none
      | _ => none
    | .ireturn => match stk with
      | [.inl x] => match (cn y).2.2 with
        | false => some (.inr (.inr (some (.inl x))))
        | true => @ite _ (zOk x) (zOkD x) (some (.inr (.inr (some (.inl x))))) none
      | _ => none
    | .lreturn => match stk with
      | [.inr (.inl x)] => some (.inr (.inr (some (.inr (.inl x)))))
      | _ => none
    | .areturn => match stk with
      | [.inr (.inr x)] => some (.inr (.inr (some (.inr (.inr x)))))
      | _ => none
    | .return_ => match stk with
      | [] => some (.inr (.inr none))
      | _ => none
    | _ => none
def fetch (y pc : Nat) : Option En := (prog y).find? (fun e => Nat.beq e.1 pc)
def entA : List PV → Lc
  | [] => []
  | .inr (.inl x) :: vs => some (.inr (.inl x)) :: none :: entA vs
  | .inr (.inr x) :: vs => some (.inr (.inr x)) :: entA vs
  | .inl x :: vs => some (.inl x) :: entA vs
def ent (y : Nat) (vs : List PV) : Lc := entA vs ++ List.replicate ((mI y).2.1 - (entA vs).length) none
/-- the small machine: n steps are enough -/
def prun : Nat → Nat → Nat → Lc → List PV → Hp → Option (Option PV × Hp)
  | 0, _, _, _, _, _ => none
  | n + 1, y, pc, ls, stk, σ => match fetch y pc with
    | none => none
    | some e => match xexec cn y e ls stk σ with
      | none => none
      | some (.inl (pc', ls', stk', σ')) => prun n y pc' ls' stk' σ'
      | some (.inr (.inl (y', vs, rest, nxt))) => match Nat.ble (entA vs).length (mI y').2.1 with
        | false => none
        | true => match prun n y' 0 (ent y' vs) [] σ with
          | none => none
          | some (r, σ1) => prun n y nxt ls (r.toList ++ rest) σ1
      | some (.inr (.inr r)) => some (r, σ)
end
section
/-! The small machine's world on the heap. -/
def WL : List Cond := lw_tbl.filter goodWord
theorem WL_of {w : Cond} {i : Nat} (h : lw_tbl[i]? = some w) (g : goodWord w = true) : w ∈ WL := List.mem_filter.mpr ⟨List.mem_of_getElem? h, g⟩
theorem WL_good {big : List Cond} (hb : ∀ w ∈ WL, w ∈ big) : GoodIn big WL := fun w h => ⟨hb w h, good_of_word (List.mem_filter.mp h).2⟩
theorem nb {a b : Nat} (h : nbeq a b = true) : a = b := Nat.eq_of_beq_eq_true h
theorem w_fld {o i a b : Nat} (h : fldT.any (fun q => nbeq q.1 o && nbeq q.2.1 i && nbeq q.2.2.1 a && nbeq q.2.2.2.1 b) = true) : Cond.fieldLink (oN o) i (tN a b).1 (tN a b).2.1 (tN a b).2.2.1 ∈ WL := by
  obtain ⟨q, hq, h1⟩ := List.any_eq_true.mp h
  have h2 := List.all_eq_true.mp fldT_ok q hq
  simp only [Bool.and_eq_true] at h1
  obtain ⟨⟨⟨h3, h4⟩, h5⟩, h6⟩ := h1
  rw [← nb h3, ← nb h4, ← nb h5, ← nb h6]
  exact WL_of (of_decide_eq_true h2) rfl
theorem w_cI {o i : Nat} {v : Int32} (h : cIT.any (fun q => nbeq q.1 o && nbeq q.2.1 i && decide (q.2.2.1 = v)) = true) : Cond.constant (oN o) i v ∈ WL := by
  obtain ⟨q, hq, h1⟩ := List.any_eq_true.mp h
  have h2 := List.all_eq_true.mp cIT_ok q hq
  simp only [Bool.and_eq_true] at h1
  obtain ⟨⟨h3, h4⟩, h5⟩ := h1
  rw [← nb h3, ← nb h4, ← of_decide_eq_true h5]
  exact WL_of (of_decide_eq_true h2) rfl
theorem w_cJ {o i : Nat} {v : Int64} (h : cJT.any (fun q => nbeq q.1 o && nbeq q.2.1 i && decide (q.2.2.1 = v)) = true) : Cond.constantLong (oN o) i v ∈ WL := by
  obtain ⟨q, hq, h1⟩ := List.any_eq_true.mp h
  have h2 := List.all_eq_true.mp cJT_ok q hq
  simp only [Bool.and_eq_true] at h1
  obtain ⟨⟨h3, h4⟩, h5⟩ := h1
  rw [← nb h3, ← nb h4, ← of_decide_eq_true h5]
  exact WL_of (of_decide_eq_true h2) rfl
theorem w_in {o i b : Nat} (h : inT.any (fun q => nbeq q.1 o && nbeq q.2.1 i && nbeq q.2.2.1 b) = true) : Cond.methodLink (oN o) i (iN b) ∈ WL := by
  obtain ⟨q, hq, h1⟩ := List.any_eq_true.mp h
  have h2 := List.all_eq_true.mp inT_ok q hq
  simp only [Bool.and_eq_true] at h1
  obtain ⟨⟨h3, h4⟩, h5⟩ := h1
  rw [← nb h3, ← nb h4, ← nb h5]
  exact WL_of (of_decide_eq_true h2) rfl
theorem w_cs {o i a : Nat} (h : csT.any (fun q => nbeq q.1 o && nbeq q.2.1 i && nbeq q.2.2.1 a) = true) : Cond.methodLink (oN o) i (mY a) ∈ WL := by
  obtain ⟨q, hq, h1⟩ := List.any_eq_true.mp h
  have h2 := List.all_eq_true.mp csT_ok q hq
  simp only [Bool.and_eq_true] at h1
  obtain ⟨⟨h3, h4⟩, h5⟩ := h1
  rw [← nb h3, ← nb h4, ← nb h5]
  exact WL_of (of_decide_eq_true h2) rfl
theorem w_cv {o i a : Nat} (h : cvT.any (fun q => nbeq q.1 o && nbeq q.2.1 i && nbeq q.2.2.1 a) = true) : Cond.methodLink (oN o) i (mY a) ∈ WL := by
  obtain ⟨q, hq, h1⟩ := List.any_eq_true.mp h
  have h2 := List.all_eq_true.mp cvT_ok q hq
  simp only [Bool.and_eq_true] at h1
  obtain ⟨⟨h3, h4⟩, h5⟩ := h1
  rw [← nb h3, ← nb h4, ← nb h5]
  exact WL_of (of_decide_eq_true h2) rfl
def cnts : List Nat := [1, 18, 36, 1, 1, 1, 1, 36, 36, 36, 1, 1, 1, 1, 1, 1, 1, 1, 1, 1, 1, 1, 1, 1, 1, 1, 1, 1, 1, 1, 1]
def allR : List (Nat × Nat) := (List.range 31).flatMap (fun k => (List.range (cnts.getD k 0)).map (fun i => (k, i)))
theorem allR_nd : allR.Nodup := by decide +kernel
theorem allR_iff {k i : Nat} : (k, i) ∈ allR ↔ k < 31 ∧ i < cnts.getD k 0 := by
  simp only [allR, List.mem_flatMap, List.mem_map, List.mem_range, Prod.mk.injEq]
  constructor
  · rintro ⟨a, ha, b, hb, rfl, rfl⟩
    exact ⟨ha, hb⟩
  · rintro ⟨h1, h2⟩
    exact ⟨k, h1, i, h2, rfl, rfl⟩
def okR (r : Nat × Nat) : Prop := r ∈ allR ∨ r = (31, 0) ∨ r = (32, 0)
def okV (v : PV) : Prop := match v with
  | .inr (.inr r) => okR r
  | _ => True
def okS (l : List PV) : Prop := ∀ v ∈ l, okV v
def okL (l : Lc) : Prop := ∀ (k : Nat) (v : PV), l[k]? = some (some v) → okV v
def trV (ad : Nat → Nat → Nat) (v : PV) : Value := match v with
  | .inl x => .int x
  | .inr (.inl x) => .long x
  | .inr (.inr (k, i)) => .ref (ad k i)
theorem trV_cat (ad : Nat → Nat → Nat) (v : PV) : (trV ad v).category = catP v := by
  rcases v with x | x | ⟨k, i⟩ <;> rfl
def fval (ad : Nat → Nat → Nat) (σ : Hp) (kd ix k : Nat) : Value := match fdOf kd k with
  | some none => .int (σ.1 kd ix k)
  | some (some none) => .long (σ.2.1 kd)
  | some (some (some g)) => .ref (ad (g ix).1 (g ix).2)
  | none => .null
abbrev CT : Type := ClassId × (ClassId × ClassId)
def cellO (ad : Nat → Nat → Nat) (ct : CT) (σ : Hp) (kd ix : Nat) : va_E := match arr σ kd with
  | some (0, n) => .inl (ct.1, n, .inl (σ.1 kd ix))
  | some (1, n) => .inl (ct.2.1, n, .inl (σ.1 kd ix))
  | some (_, n) => .inl (ct.2.2, n, .inr (.inr (.inr (.inr (fun j => some (ad 1 (qb kd + j)))))))
  | none => .inr (kd, (List.range (ftab.getD kd []).length).map (fval ad σ kd ix))
def wsO (ad : Nat → Nat → Nat) (ct : CT) (σ : Hp) : va_W := allR.map (fun r => (ad r.1 r.2, cellO ad ct σ r.1 r.2))
def tysO (ct : CT) : List (ClassId × FieldType) := [(ct.1, .int), (ct.2.1, .boolean), (ct.2.2, .object "ThreeGaps$Both")]
theorem wsO_at (ad : Nat → Nat → Nat) (ct : CT) {r : Nat × Nat} (h : r ∈ allR) : ∃ q0 : Nat, allR[q0]? = some r ∧ ∀ σ : Hp, (wsO ad ct σ)[q0]? = some (ad r.1 r.2, cellO ad ct σ r.1 r.2) := by
  obtain ⟨q0, hq⟩ := List.getElem?_of_mem h
  exact ⟨q0, hq, fun σ => by simp [wsO, hq]⟩
theorem wsO_set {ad : Nat → Nat → Nat} {ct : CT} {r : Nat × Nat} {q0 : Nat} {σ σ' : Hp} {e : va_E} (hq : allR[q0]? = some r) (he : cellO ad ct σ' r.1 r.2 = e) (ho : ∀ r' : Nat × Nat, r' ∈ allR → r' ≠ r → cellO ad ct σ' r'.1 r'.2 = cellO ad ct σ r'.1 r'.2) : (wsO ad ct σ).set q0 (ad r.1 r.2, e) = wsO ad ct σ' := by
  subst he
  have hlt := (List.getElem?_eq_some_iff.mp hq).1
  apply List.ext_getElem?
  intro i
  by_cases hi : i = q0
  · subst hi
    rw [List.getElem?_set_self (by simpa [wsO] using hlt)]
    simp [wsO, hq]
  · rw [List.getElem?_set_ne (Ne.symm hi)]
    simp only [wsO, List.getElem?_map]
    cases hr : allR[i]? with
    | none => rfl
    | some r' =>
      have hne : r' ≠ r := fun h => hi ((List.getElem?_inj (List.getElem?_eq_some_iff.mp hr).1 allR_nd).mp (by rw [hr, hq, h]))
      simp [ho r' (List.mem_of_getElem? hr) hne]
theorem hset_ne {f : Nat → Nat → Nat → Int32} {a b c : Nat} {v : Int32} {x y : Nat} (h : (x, y) ≠ (a, b)) : hset f a b c v x y = f x y := by
  funext z
  unfold hset
  rw [if_neg]
  rintro ⟨h1, h2, -⟩
  exact h (by rw [h1, h2])
theorem hset_eq {f : Nat → Nat → Nat → Int32} {a b c : Nat} {v : Int32} : hset f a b c v a b = upd (f a b) c v := by
  funext z
  unfold hset
  by_cases h : z = c
  · subst h
    simp [upd]
  · simp [upd, h]
theorem hrow_ne {f : Nat → Nat → Nat → Int32} {a b : Nat} {g : Nat → Int32} {x y : Nat} (h : (x, y) ≠ (a, b)) : hrow f a b g x y = f x y := by
  funext z
  unfold hrow
  rw [if_neg]
  rintro ⟨h1, h2⟩
  exact h (by rw [h1, h2])
theorem hrow_eq {f : Nat → Nat → Nat → Int32} {a b : Nat} {g : Nat → Int32} : hrow f a b g a b = g := by
  funext z
  simp [hrow]
theorem arr_congr {σ σ' : Hp} (kd : Nat) (h : σ'.2.2 = σ.2.2) : arr σ' kd = arr σ kd := by
  unfold arr
  rw [h]
theorem cellO_congr {ad : Nat → Nat → Nat} {ct : CT} {σ σ' : Hp} {kd ix : Nat} (h1 : σ'.1 kd ix = σ.1 kd ix) (h2 : σ'.2.1 kd = σ.2.1 kd) (h3 : σ'.2.2 = σ.2.2) : cellO ad ct σ' kd ix = cellO ad ct σ kd ix := by
  have hf : fval ad σ' kd ix = fval ad σ kd ix := by
    funext k
    unfold fval
    rw [h1, h2]
  unfold cellO
  rw [arr_congr kd h3, h1, hf]
theorem fvals_set {ad : Nat → Nat → Nat} {σ σ' : Hp} {kd ix b n : Nat} {w : Value} (h1 : fval ad σ' kd ix b = w) (h2 : ∀ k, k ≠ b → fval ad σ' kd ix k = fval ad σ kd ix k) : ((List.range n).map (fval ad σ kd ix)).set b w = (List.range n).map (fval ad σ' kd ix) := by
  apply List.ext_getElem?
  intro i
  rw [List.getElem?_set]
  by_cases hi : b = i
  · subst hi
    by_cases hb : b < n <;> simp [hb, h1]
  · rw [if_neg hi]
    by_cases hb : i < n <;> simp [hb, h2 i (Ne.symm hi)]
/-- what lies outside: the factorials, the script -/
def Ex (ad : Nat → Nat → Nat) (s : State) (A : Nat → Prop) (σ : Hp) : Prop :=
  va_Z "ThreeGaps" "FACTORIALS" "[I" (.ref (ad 31 0)) A s s.heap ∧ va_X (ad 31 0) 5 (σ.1 31 0) s s.heap ∧ ad 31 0 < s.heap.size ∧ ¬ A (ad 31 0) ∧ va_X (ad 32 0) σ.2.2 (σ.1 32 0) s s.heap ∧ ad 32 0 < s.heap.size ∧ ¬ A (ad 32 0)
theorem Ex.congr {ad : Nat → Nat → Nat} {s : State} {A : Nat → Prop} {σ σ' : Hp} (h : Ex ad s A σ) (h1 : σ'.1 31 0 = σ.1 31 0) (h2 : σ'.1 32 0 = σ.1 32 0) (h3 : σ'.2.2 = σ.2.2) : Ex ad s A σ' := by
  unfold Ex at h ⊢
  rw [h1, h2, h3]
  exact h
/-- the world at a point of a walk -/
def Wd (D : va_G) (ad : Nat → Nat → Nat) (ct : CT) (s : State) (A : Nat → Prop) (σ : Hp) (H : Heap) (locs : List Loc) : Prop :=
  va_P D vwCl (wsO ad ct σ) H ∧ va_D A (wsO ad ct σ) ∧ va_S A s.heap H locs ∧ Ex ad s A σ
/-- the frame's surroundings -/
def Cx (D : va_G) (ct : CT) (y : Nat) (p : Program) (s : State) (m : MethodId) (args : Array Value) (c : Code) : Prop :=
  p.tables.exec = Jvm.exec ∧ c.code = (mI y).1 ∧ c.maxLocals = (mI y).2.1 ∧ s.vm.findClass (oN (mI y).2.2.2.1) = some m.cls ∧ (∀ w ∈ WL, w.before args s = true) ∧ va_K D vwCl (tysO ct) s
/-- the locals -/
def Lr (ad : Nat → Nat → Nat) (n : Nat) (LS : Array Slot) (ls : Lc) : Prop := (LS.size = n ∧ ls.length = n) ∧ lv_wf LS ∧ ∀ (k : Nat) (v : PV), ls[k]? = some (some v) → LS[k]? = some (.val (trV ad v))
def asc (ad : Nat → Nat → Nat) (ls : Lc) : List (Nat × Value) := (List.range ls.length).filterMap (fun k => match ls[k]? with
  | some (some v) => some (k, trV ad v)
  | _ => none)
theorem asc_mem {ad : Nat → Nat → Nat} {ls : Lc} {q : Nat × Value} : q ∈ asc ad ls ↔ ∃ v, ls[q.1]? = some (some v) ∧ q.2 = trV ad v := by
  unfold asc
  rw [List.mem_filterMap]
  constructor
  · rintro ⟨k, -, h⟩
    split at h
    · next v hv =>
      cases h
      exact ⟨v, hv, rfl⟩
    · cases h
  · rintro ⟨v, hv, h2⟩
    refine ⟨q.1, List.mem_range.mpr (List.getElem?_eq_some_iff.mp hv).1, ?_⟩
    rw [hv]
    simp [← h2]
theorem Lr.has {ad : Nat → Nat → Nat} {n : Nat} {LS : Array Slot} {ls : Lc} (h : Lr ad n LS ls) : lv_has LS n (asc ad ls) := ⟨h.1.1, h.2.1, fun q hq => by
  obtain ⟨v, hv, h2⟩ := asc_mem.mp hq
  rw [h2]
  exact h.2.2 _ _ hv⟩
theorem okst_no {ls : Lc} {a k : Nat} {x : Int64} (h : okst ls a = true) (hk : k + 1 = a) : ls[k]? ≠ some (some (.inr (.inl x))) := by
  subst hk
  intro h2
  simp [okst, h2] at h
theorem Lr.of1 {ad : Nat → Nat → Nat} {n : Nat} {LS' : Array Slot} {ls : Lc} {a : Nat} {x : PV} (hn : ls.length = n) (ho : okst ls a = true) (h : lv_has LS' n ((a, trV ad x) :: (asc ad ls).filter (fun q => !(q.1 == a) && !(q.1 + 1 == a && q.2.category == 2)))) : Lr ad n LS' (ls.set a (some x)) := by
  refine ⟨⟨h.1, by simpa using hn⟩, h.2.1, fun k v hk => ?_⟩
  rw [List.getElem?_set] at hk
  by_cases hak : a = k
  · subst hak
    rw [if_pos rfl] at hk
    split at hk
    · cases hk
      exact h.2.2 (a, trV ad x) List.mem_cons_self
    · cases hk
  · rw [if_neg hak] at hk
    refine h.2.2 (k, trV ad v) (List.mem_cons_of_mem _ (List.mem_filter.mpr ⟨asc_mem.mpr ⟨v, hk, rfl⟩, ?_⟩))
    have h1 : (k == a) = false := by simpa using Ne.symm hak
    rw [h1]
    by_cases hka : k + 1 = a
    · have hc : ¬ (trV ad v).category = 2 := by
        rw [trV_cat]
        rcases v with v | v | v
        · simp [catP]
        · exact absurd hk (okst_no ho hka)
        · simp [catP]
      simp [hc]
    · simp [hka]
theorem Lr.of2 {ad : Nat → Nat → Nat} {n : Nat} {LS' : Array Slot} {ls : Lc} {a : Nat} {x : Int64} (hn : ls.length = n) (ho : okst ls a = true) (h : lv_has LS' n ((a, Value.long x) :: (asc ad ls).filter (fun q => !(q.1 == a) && (!(q.1 == a + 1) && !(q.1 + 1 == a && q.2.category == 2))))) : Lr ad n LS' ((ls.set a (some (.inr (.inl x)))).set (a + 1) none) := by
  refine ⟨⟨h.1, by simpa using hn⟩, h.2.1, fun k v hk => ?_⟩
  rw [List.getElem?_set] at hk
  by_cases hak1 : a + 1 = k
  · rw [if_pos hak1] at hk
    split at hk <;> cases hk
  · rw [if_neg hak1, List.getElem?_set] at hk
    by_cases hak : a = k
    · subst hak
      rw [if_pos rfl] at hk
      split at hk
      · cases hk
        exact h.2.2 (a, Value.long x) List.mem_cons_self
      · cases hk
    · rw [if_neg hak] at hk
      refine h.2.2 (k, trV ad v) (List.mem_cons_of_mem _ (List.mem_filter.mpr ⟨asc_mem.mpr ⟨v, hk, rfl⟩, ?_⟩))
      have h1 : (k == a) = false := by simpa using Ne.symm hak
      have h2 : (k == a + 1) = false := by simpa using Ne.symm hak1
      rw [h1, h2]
      by_cases hka : k + 1 = a
      · have hc : ¬ (trV ad v).category = 2 := by
          rw [trV_cat]
          rcases v with v | v | v
          · simp [catP]
          · exact absurd hk (okst_no ho hka)
          · simp [catP]
        simp [hc]
      · simp [hka]
theorem okL.set {ls : Lc} {a : Nat} {x : Option PV} (h : okL ls) (hx : ∀ v, x = some v → okV v) : okL (ls.set a x) := by
  intro k v hk
  rw [List.getElem?_set] at hk
  by_cases hak : a = k
  · rw [if_pos hak] at hk
    split at hk
    · exact hx v (Option.some.inj hk)
    · cases hk
  · rw [if_neg hak] at hk
    exact h k v hk
end
section
/-! What a step of the small machine says, by its sort. -/
section INV
variable {nxt a b t pc' : Nat} {ls ls' : Lc} {stk stk' : List PV} {σ σ' : Hp}
theorem nx_inv {pc : Nat} (h : nx pc ls stk σ = some (.inl (pc', ls', stk', σ'))) : pc' = pc ∧ ls' = ls ∧ stk' = stk ∧ σ' = σ := by
  simp only [nx, Option.some.injEq, Sum.inl.injEq, Prod.mk.injEq] at h
  exact ⟨h.1.symm, h.2.1.symm, h.2.2.1.symm, h.2.2.2.symm⟩
theorem bIf_inv {c : Bool} {f : Option Sr} {r : Sr} (h : bIf c f none = some r) : c = true ∧ f = some r := by
  cases c
  · cases h
  · exact ⟨rfl, h⟩
theorem xloadI (h : xload nxt 0 a ls stk σ = some (.inl (pc', ls', stk', σ'))) : ∃ x : Int32, ls[a]? = some (some (.inl x)) ∧ pc' = nxt ∧ ls' = ls ∧ stk' = .inl x :: stk ∧ σ' = σ := by
  unfold xload at h
  split at h
  · next x _ hx => exact ⟨x, hx, nx_inv h⟩
  · next h1 _ => cases h1
  · next h1 _ => cases h1
  · cases h
theorem xloadL (h : xload nxt 1 a ls stk σ = some (.inl (pc', ls', stk', σ'))) : ∃ x : Int64, ls[a]? = some (some (.inr (.inl x))) ∧ pc' = nxt ∧ ls' = ls ∧ stk' = .inr (.inl x) :: stk ∧ σ' = σ := by
  unfold xload at h
  split at h
  · next h1 _ => cases h1
  · next x _ hx => exact ⟨x, hx, nx_inv h⟩
  · next h1 _ => cases h1
  · cases h
theorem xloadR (h : xload nxt 2 a ls stk σ = some (.inl (pc', ls', stk', σ'))) : ∃ x : Nat × Nat, ls[a]? = some (some (.inr (.inr x))) ∧ pc' = nxt ∧ ls' = ls ∧ stk' = .inr (.inr x) :: stk ∧ σ' = σ := by
  unfold xload at h
  split at h
  · next h1 _ => cases h1
  · next h1 _ => cases h1
  · next x _ hx => exact ⟨x, hx, nx_inv h⟩
  · cases h
theorem xstoreI (h : xstore nxt 0 a ls stk σ = some (.inl (pc', ls', stk', σ'))) : ∃ (x : Int32) (r : List PV), stk = .inl x :: r ∧ okst ls a = true ∧ a < ls.length ∧ pc' = nxt ∧ ls' = ls.set a (some (.inl x)) ∧ stk' = r ∧ σ' = σ := by
  unfold xstore at h
  split at h
  · next x r _ =>
    obtain ⟨h1, h2⟩ := bIf_inv h
    simp only [Bool.and_eq_true, Nat.blt_eq] at h1
    exact ⟨x, r, rfl, h1.1, h1.2, nx_inv h2⟩
  · next h1 => cases h1
  · next h1 => cases h1
  · cases h
theorem xstoreL (h : xstore nxt 1 a ls stk σ = some (.inl (pc', ls', stk', σ'))) : ∃ (x : Int64) (r : List PV), stk = .inr (.inl x) :: r ∧ okst ls a = true ∧ a + 1 < ls.length ∧ pc' = nxt ∧ ls' = (ls.set a (some (.inr (.inl x)))).set (a + 1) none ∧ stk' = r ∧ σ' = σ := by
  unfold xstore at h
  split at h
  · next h1 => cases h1
  · next x r _ =>
    obtain ⟨h1, h2⟩ := bIf_inv h
    simp only [Bool.and_eq_true, Nat.blt_eq] at h1
    exact ⟨x, r, rfl, h1.1, h1.2, nx_inv h2⟩
  · next h1 => cases h1
  · cases h
theorem xstoreR (h : xstore nxt 2 a ls stk σ = some (.inl (pc', ls', stk', σ'))) : ∃ (x : Nat × Nat) (r : List PV), stk = .inr (.inr x) :: r ∧ okst ls a = true ∧ a < ls.length ∧ pc' = nxt ∧ ls' = ls.set a (some (.inr (.inr x))) ∧ stk' = r ∧ σ' = σ := by
  unfold xstore at h
  split at h
  · next h1 => cases h1
  · next h1 => cases h1
  · next x r _ =>
    obtain ⟨h1, h2⟩ := bIf_inv h
    simp only [Bool.and_eq_true, Nat.blt_eq] at h1
    exact ⟨x, r, rfl, h1.1, h1.2, nx_inv h2⟩
  · cases h
theorem xiiI {f : Int32 → Int32 → Int32} (h : xii f nxt ls stk σ = some (.inl (pc', ls', stk', σ'))) : ∃ (y x : Int32) (r : List PV), stk = .inl y :: .inl x :: r ∧ pc' = nxt ∧ ls' = ls ∧ stk' = .inl (f x y) :: r ∧ σ' = σ := by
  unfold xii at h
  split at h
  · next y x r => exact ⟨y, x, r, rfl, nx_inv h⟩
  · cases h
theorem xllI {f : Int64 → Int64 → Int64} (h : xll f nxt ls stk σ = some (.inl (pc', ls', stk', σ'))) : ∃ (y x : Int64) (r : List PV), stk = .inr (.inl y) :: .inr (.inl x) :: r ∧ pc' = nxt ∧ ls' = ls ∧ stk' = .inr (.inl (f x y)) :: r ∧ σ' = σ := by
  unfold xll at h
  split at h
  · next y x r => exact ⟨y, x, r, rfl, nx_inv h⟩
  · cases h
theorem xdivI {f : Int32 → Int32 → Int32} (h : xdiv f nxt ls stk σ = some (.inl (pc', ls', stk', σ'))) : ∃ (y x : Int32) (r : List PV), stk = .inl y :: .inl x :: r ∧ ¬ y = 0 ∧ pc' = nxt ∧ ls' = ls ∧ stk' = .inl (f x y) :: r ∧ σ' = σ := by
  unfold xdiv at h
  split at h
  · next y x r =>
    split at h
    · cases h
    · next hy => exact ⟨y, x, r, rfl, hy, nx_inv h⟩
  · cases h
theorem xldivI {f : Int64 → Int64 → Int64} (h : xldiv f nxt ls stk σ = some (.inl (pc', ls', stk', σ'))) : ∃ (y x : Int64) (r : List PV), stk = .inr (.inl y) :: .inr (.inl x) :: r ∧ ¬ y = 0 ∧ pc' = nxt ∧ ls' = ls ∧ stk' = .inr (.inl (f x y)) :: r ∧ σ' = σ := by
  unfold xldiv at h
  split at h
  · next y x r =>
    split at h
    · cases h
    · next hy => exact ⟨y, x, r, rfl, hy, nx_inv h⟩
  · cases h
/-- what a field's value is, by its sort -/
def gval (fd : FD) (σ : Hp) (kd ix k : Nat) : PV := match fd with
  | none => .inl (σ.1 kd ix k)
  | some none => .inr (.inl (σ.2.1 kd))
  | some (some g) => .inr (.inr (g ix))
theorem xgetI (h : xget nxt a b ls stk σ = some (.inl (pc', ls', stk', σ'))) : ∃ (ix : Nat) (r : List PV) (fd : FD), stk = .inr (.inr (a, ix)) :: r ∧ fdOf a b = some fd ∧ pc' = nxt ∧ ls' = ls ∧ stk' = gval fd σ a ix b :: r ∧ σ' = σ := by
  unfold xget at h
  split at h
  · next kd ix r =>
    obtain ⟨h1, h2⟩ := bIf_inv h
    have h1 := Nat.eq_of_beq_eq_true h1
    subst h1
    split at h2
    · next hf => exact ⟨ix, r, none, rfl, hf, nx_inv h2⟩
    · next hf => exact ⟨ix, r, some none, rfl, hf, nx_inv h2⟩
    · next g hf => exact ⟨ix, r, some (some g), rfl, hf, nx_inv h2⟩
    · cases h2
  · cases h
theorem xputI (h : xput nxt a b ls stk σ = some (.inl (pc', ls', stk', σ'))) : (∃ (x : Int32) (ix : Nat) (r : List PV), stk = .inl x :: .inr (.inr (a, ix)) :: r ∧ fdOf a b = some none ∧ (isZ a b = true → zOk x) ∧ pc' = nxt ∧ ls' = ls ∧ stk' = r ∧ σ' = (hset σ.1 a ix b x, σ.2)) ∨ (∃ (x : Int64) (ix : Nat) (r : List PV), stk = .inr (.inl x) :: .inr (.inr (a, ix)) :: r ∧ fdOf a b = some (some none) ∧ pc' = nxt ∧ ls' = ls ∧ stk' = r ∧ σ' = (σ.1, lset σ.2.1 a x, σ.2.2)) := by
  unfold xput at h
  split at h
  · next x kd ix r =>
    obtain ⟨h1, h2⟩ := bIf_inv h
    have h1 := Nat.eq_of_beq_eq_true h1
    subst h1
    split at h2
    · next hf =>
      left
      split at h2
      · next hz => exact ⟨x, ix, r, rfl, hf, fun q => (by rw [hz] at q; cases q), nx_inv h2⟩
      · split at h2
        · next hz => exact ⟨x, ix, r, rfl, hf, fun _ => hz, nx_inv h2⟩
        · cases h2
    · cases h2
  · next x kd ix r =>
    obtain ⟨h1, h2⟩ := bIf_inv h
    have h1 := Nat.eq_of_beq_eq_true h1
    subst h1
    split at h2
    · next hf => exact Or.inr ⟨x, ix, r, rfl, hf, nx_inv h2⟩
    · cases h2
  · cases h
theorem xaldI (h : xald nxt ls stk σ = some (.inl (pc', ls', stk', σ'))) : ∃ (i : Int32) (kd ix n : Nat) (r : List PV), stk = .inl i :: .inr (.inr (kd, ix)) :: r ∧ (arr σ kd = some (0, n) ∨ arr σ kd = some (3, n)) ∧ vp_in i n ∧ pc' = nxt ∧ ls' = ls ∧ stk' = .inl (σ.1 kd ix i.toNatClampNeg) :: r ∧ σ' = σ := by
  unfold xald at h
  split at h
  · next i kd ix r =>
    split at h
    · next n ha =>
      split at h
      · next hi => exact ⟨i, kd, ix, n, r, rfl, Or.inl ha, hi, nx_inv h⟩
      · cases h
    · next n ha =>
      split at h
      · next hi => exact ⟨i, kd, ix, n, r, rfl, Or.inr ha, hi, nx_inv h⟩
      · cases h
    · cases h
  · cases h
theorem xzldI (h : xzld nxt ls stk σ = some (.inl (pc', ls', stk', σ'))) : ∃ (i : Int32) (kd ix n : Nat) (r : List PV), stk = .inl i :: .inr (.inr (kd, ix)) :: r ∧ arr σ kd = some (1, n) ∧ vp_in i n ∧ pc' = nxt ∧ ls' = ls ∧ stk' = .inl (σ.1 kd ix i.toNatClampNeg) :: r ∧ σ' = σ := by
  unfold xzld at h
  split at h
  · next i kd ix r =>
    split at h
    · next n ha =>
      split at h
      · next hi => exact ⟨i, kd, ix, n, r, rfl, ha, hi, nx_inv h⟩
      · cases h
    · cases h
  · cases h
theorem xqldI (h : xqld nxt ls stk σ = some (.inl (pc', ls', stk', σ'))) : ∃ (i : Int32) (kd ix n : Nat) (r : List PV), stk = .inl i :: .inr (.inr (kd, ix)) :: r ∧ arr σ kd = some (2, n) ∧ vp_in i n ∧ pc' = nxt ∧ ls' = ls ∧ stk' = .inr (.inr (1, qb kd + i.toNatClampNeg)) :: r ∧ σ' = σ := by
  unfold xqld at h
  split at h
  · next i kd ix r =>
    split at h
    · next n ha =>
      split at h
      · next hi => exact ⟨i, kd, ix, n, r, rfl, ha, hi, nx_inv h⟩
      · cases h
    · cases h
  · cases h
theorem xastI (h : xast nxt ls stk σ = some (.inl (pc', ls', stk', σ'))) : ∃ (x i : Int32) (kd ix n : Nat) (r : List PV), stk = .inl x :: .inl i :: .inr (.inr (kd, ix)) :: r ∧ arr σ kd = some (0, n) ∧ vp_in i n ∧ pc' = nxt ∧ ls' = ls ∧ stk' = r ∧ σ' = (hset σ.1 kd ix i.toNatClampNeg x, σ.2) := by
  unfold xast at h
  split at h
  · next x i kd ix r =>
    split at h
    · next n ha =>
      split at h
      · next hi => exact ⟨x, i, kd, ix, n, r, rfl, ha, hi, nx_inv h⟩
      · cases h
    · cases h
  · cases h
theorem xzstI (h : xzst nxt ls stk σ = some (.inl (pc', ls', stk', σ'))) : ∃ (x i : Int32) (kd ix n : Nat) (r : List PV), stk = .inl x :: .inl i :: .inr (.inr (kd, ix)) :: r ∧ arr σ kd = some (1, n) ∧ vp_in i n ∧ zOk x ∧ pc' = nxt ∧ ls' = ls ∧ stk' = r ∧ σ' = (hset σ.1 kd ix i.toNatClampNeg x, σ.2) := by
  unfold xzst at h
  split at h
  · next x i kd ix r =>
    split at h
    · next n ha =>
      split at h
      · next hi => exact ⟨x, i, kd, ix, n, r, rfl, ha, hi.1, hi.2, nx_inv h⟩
      · cases h
    · cases h
  · cases h
theorem xalenI (h : xalen nxt ls stk σ = some (.inl (pc', ls', stk', σ'))) : ∃ (kd ix n : Nat) (r : List PV), stk = .inr (.inr (kd, ix)) :: r ∧ arr σ kd = some (3, n) ∧ pc' = nxt ∧ ls' = ls ∧ stk' = .inl (Int32.ofNat n) :: r ∧ σ' = σ := by
  unfold xalen at h
  split at h
  · next kd ix r =>
    split at h
    · next n ha => exact ⟨kd, ix, n, r, rfl, ha, nx_inv h⟩
    · cases h
  · cases h
theorem xcpyI (h : xcpy nxt ls stk σ = some (.inl (pc', ls', stk', σ'))) : ∃ (n dp sp : Int32) (kd ix kd0 ix0 n0 n1 : Nat) (r : List PV), stk = .inl n :: .inl dp :: .inr (.inr (kd, ix)) :: .inl sp :: .inr (.inr (kd0, ix0)) :: r ∧ arr σ kd0 = some (0, n0) ∧ arr σ kd = some (0, n1) ∧ cpyOk sp dp n n0 n1 ∧ pc' = nxt ∧ ls' = ls ∧ stk' = r ∧ σ' = (hrow σ.1 kd ix (va_cpy (σ.1 kd0 ix0) (σ.1 kd ix) sp.toNatClampNeg dp.toNatClampNeg n.toNatClampNeg), σ.2) := by
  unfold xcpy at h
  split at h
  · next n dp kd ix sp kd0 ix0 r =>
    split at h
    · next n0 n1 h0 h1 =>
      split at h
      · next hi => exact ⟨n, dp, sp, kd, ix, kd0, ix0, n0, n1, r, rfl, h0, h1, hi, nx_inv h⟩
      · cases h
    · cases h
  · cases h
end INV
theorem okS.tl {v : PV} {r : List PV} (h : okS (v :: r)) : okS r := fun w hw => h w (List.mem_cons_of_mem _ hw)
theorem okS.hd {v : PV} {r : List PV} (h : okS (v :: r)) : okV v := h v List.mem_cons_self
theorem okS.cons {v : PV} {r : List PV} (hv : okV v) (h : okS r) : okS (v :: r) := fun w hw => by
  rcases List.mem_cons.mp hw with h1 | h1
  · rw [h1]; exact hv
  · exact h w h1
theorem okS.i {x : Int32} {r : List PV} (h : okS r) : okS (.inl x :: r) := okS.cons trivial h
theorem okS.l {x : Int64} {r : List PV} (h : okS r) : okS (.inr (.inl x) :: r) := okS.cons trivial h
end
section
/-! A step of the small machine is a step of the real one. -/
theorem imp_chk {P Q : Prop} (h : P ∧ Q) : P := h.1
theorem cls_ok (a : Nat) (h : a < 7) : ∃ (N : Nat) (ty : Nat → FieldType), vwCl[a]? = some (oN a, tN a, N) ∧ (∀ w ∈ u_ws (oN a) (tN a) N, w ∈ WL) ∧ (∀ k, k < N → parseFieldDescriptor (tN a k).2.2.1 = some (ty k)) ∧ (∀ x, x < N → ∀ y, y < N → x ≠ y → (tN a x).2.1 ≠ (tN a y).2.1) ∧ N = (ftab.getD a []).length ∧ (∀ k, k < N → (fdOf a k = some none → (isZ a k = true → ty k = .boolean) ∧ (isZ a k = false → ty k = .int)) ∧ (fdOf a k = some (some none) → ty k = .long)) := by
  have up : ∀ {ws : List Cond}, (∀ w ∈ ws, w ∈ lw_tbl ∧ goodWord w = true) → ∀ w ∈ ws, w ∈ WL := fun h w hw => List.mem_filter.mpr (h w hw)
  match a, h with
  | 0, _ => exact ⟨3, tyX0, rfl, up lay_0, tyX0_ok, nmX0, rfl, fun k hk => by
    match k, hk with
    | 0, _ | 1, _ | 2, _ =>
      refine ⟨fun q => ⟨fun z => ?_, fun z => ?_⟩, fun q => ?_⟩ <;> first | rfl | (simp [fdOf, ftab, rk, fR, fI, fL] at q; done) | (simp [isZ] at z; done)⟩
  | 1, _ => exact ⟨2, tyX1, rfl, up lay_1, tyX1_ok, nmX1, rfl, fun k hk => by
    match k, hk with
    | 0, _ | 1, _ =>
      refine ⟨fun q => ⟨fun z => ?_, fun z => ?_⟩, fun q => ?_⟩ <;> first | rfl | (simp [fdOf, ftab, rk, fR, fI, fL] at q; done) | (simp [isZ] at z; done)⟩
  | 2, _ => exact ⟨4, tyX2, rfl, up lay_2, tyX2_ok, nmX2, rfl, fun k hk => by
    match k, hk with
    | 0, _ | 1, _ | 2, _ | 3, _ =>
      refine ⟨fun q => ⟨fun z => ?_, fun z => ?_⟩, fun q => ?_⟩ <;> first | rfl | (simp [fdOf, ftab, rk, fR, fI, fL] at q; done) | (simp [isZ] at z; done)⟩
  | 3, _ => exact ⟨4, tyX3, rfl, up lay_3, tyX3_ok, nmX3, rfl, fun k hk => by
    match k, hk with
    | 0, _ | 1, _ | 2, _ | 3, _ =>
      refine ⟨fun q => ⟨fun z => ?_, fun z => ?_⟩, fun q => ?_⟩ <;> first | rfl | (simp [fdOf, ftab, rk, fR, fI, fL] at q; done) | (simp [isZ] at z; done)⟩
  | 4, _ => exact ⟨3, tyX4, rfl, up lay_4, tyX4_ok, nmX4, rfl, fun k hk => by
    match k, hk with
    | 0, _ | 1, _ | 2, _ =>
      refine ⟨fun q => ⟨fun z => ?_, fun z => ?_⟩, fun q => ?_⟩ <;> first | rfl | (simp [fdOf, ftab, rk, fR, fI, fL] at q; done) | (simp [isZ] at z; done)⟩
  | 5, _ => exact ⟨8, tyX5, rfl, up lay_5, tyX5_ok, nmX5, rfl, fun k hk => by
    match k, hk with
    | 0, _ | 1, _ | 2, _ | 3, _ | 4, _ | 5, _ | 6, _ | 7, _ =>
      refine ⟨fun q => ⟨fun z => ?_, fun z => ?_⟩, fun q => ?_⟩ <;> first | rfl | (simp [fdOf, ftab, rk, fR, fI, fL] at q; done) | (simp [isZ] at z; done)⟩
  | 6, _ => exact ⟨31, tyX6, rfl, up lay_6, tyX6_ok, nmX6, rfl, fun k hk => by
    match k, hk with
    | k + 31, h => exact absurd h (by omega)
    | 0, _ | 1, _ | 2, _ | 3, _ | 4, _ | 5, _ | 6, _ | 7, _ | 8, _ | 9, _ | 10, _ | 11, _ | 12, _ | 13, _ | 14, _ | 15, _ | 16, _ | 17, _ | 18, _ | 19, _ | 20, _ | 21, _ | 22, _ | 23, _ | 24, _ | 25, _ | 26, _ | 27, _ | 28, _ | 29, _ | 30, _ =>
      refine ⟨fun q => ⟨fun z => ?_, fun z => ?_⟩, fun q => ?_⟩ <;> first | rfl | (simp [fdOf, ftab, rk, fR, fI, fL] at q; done) | (simp [isZ] at z; done)⟩
theorem fdOf_lt {a b : Nat} {fd : FD} (h : fdOf a b = some fd) : a < 7 ∧ b < (ftab.getD a []).length := by
  unfold fdOf at h
  refine ⟨?_, (List.getElem?_eq_some_iff.mp h).1⟩
  rcases Nat.lt_or_ge a 7 with h1 | h1
  · exact h1
  · have h2 : ftab.getD a [] = [] := by
      rw [List.getD_eq_getElem?_getD, show ftab[a]? = none from List.getElem?_eq_none (by simpa [ftab] using h1)]
      rfl
    rw [h2] at h
    simp at h
theorem arr_obj {σ : Hp} {a : Nat} (h : a < 7) : arr σ a = none := by
  match a, h with
  | 0, _ | 1, _ | 2, _ | 3, _ | 4, _ | 5, _ | 6, _ => rfl
theorem arr_low {σ : Hp} {a t n : Nat} (h : arr σ a = some (t, n)) (ht : t ≠ 3) : 7 ≤ a ∧ a < 31 ∧ atab[a - 7]? = some (t, n) := by
  have key : a = 31 ∨ a = 32 ∨ a < 7 ∨ (7 ≤ a ∧ a ≠ 31 ∧ a ≠ 32) := by omega
  rcases key with rfl | rfl | h7 | ⟨h1, h2, h3⟩
  · simp only [arr, Option.some.injEq, Prod.mk.injEq] at h
    exact absurd h.1.symm ht
  · simp only [arr, Option.some.injEq, Prod.mk.injEq] at h
    exact absurd h.1.symm ht
  · rw [arr_obj h7] at h
    cases h
  · have h4 : arr σ a = atab[a - 7]? := by
      unfold arr
      split <;> first | rfl | omega
    rw [h4] at h
    have h5 := (List.getElem?_eq_some_iff.mp h).1
    simp only [atab, List.length_cons, List.length_nil] at h5
    exact ⟨h1, by omega, h⟩
theorem atab_no3 : ∀ k, k < 24 → ¬ (atab[k]?.map Prod.fst) = some 3 := by decide +kernel
theorem arr_3 {σ : Hp} {r : Nat × Nat} {n : Nat} (h : arr σ r.1 = some (3, n)) (ho : okR r) : (r = (31, 0) ∧ n = 5) ∨ (r = (32, 0) ∧ n = σ.2.2) := by
  rcases ho with h1 | h1 | h1
  · obtain ⟨k, i⟩ := r
    have hk := (allR_iff.mp h1).1
    exfalso
    have key : k < 7 ∨ 7 ≤ k := by omega
    rcases key with h7 | h7
    · rw [arr_obj h7] at h
      cases h
    · have h4 : arr σ k = atab[k - 7]? := by
        unfold arr
        split <;> first | rfl | omega
      have h5 : arr σ k = some (3, n) := h
      rw [h4] at h5
      exact atab_no3 (k - 7) (by omega) (by rw [h5]; rfl)
  · subst h1
    left
    simp only [arr, Option.some.injEq, Prod.mk.injEq] at h
    exact ⟨rfl, h.2.symm⟩
  · subst h1
    right
    simp only [arr, Option.some.injEq, Prod.mk.injEq] at h
    exact ⟨rfl, h.2.symm⟩
theorem okR_low {r : Nat × Nat} (h : r.1 < 31) (ho : okR r) : r ∈ allR := by
  rcases ho with h1 | h1 | h1
  · exact h1
  · rw [h1] at h
    exact absurd h (by decide)
  · rw [h1] at h
    exact absurd h (by decide)
theorem arr_mut {σ : Hp} {k i t n : Nat} (h : arr σ k = some (t, n)) (ht : t ≠ 3) (ho : okR (k, i)) : (k, i) ∈ allR := okR_low (arr_low h ht).2.1 ho
theorem refs_in : ((List.range 7).all fun a => (List.range (ftab.getD a []).length).all fun b => (List.range (cnts.getD a 0)).all fun i => match fdOf a b with
    | some (some (some g)) => decide (g i ∈ allR)
    | _ => true) = true := by decide +kernel
theorem fd_ref {a b i : Nat} {g : Nat → Nat × Nat} (h : fdOf a b = some (some (some g))) (hi : (a, i) ∈ allR) : g i ∈ allR := by
  obtain ⟨h1, h2⟩ := fdOf_lt h
  have h3 := List.all_eq_true.mp refs_in a (List.mem_range.mpr h1)
  have h4 := List.all_eq_true.mp h3 b (List.mem_range.mpr h2)
  have h5 := List.all_eq_true.mp h4 i (List.mem_range.mpr (allR_iff.mp hi).2)
  rw [h] at h5
  exact of_decide_eq_true h5
theorem qarr_in {σ : Hp} {k n i : Nat} (h : arr σ k = some (2, n)) (hi : i < n) : (1, qb k + i) ∈ allR := by
  obtain ⟨h1, h2, h3⟩ := arr_low h (by decide)
  have key : ((List.range 24).all fun k' => match atab[k']? with
    | some (2, n') => decide (qb (k' + 7) + n' ≤ 18)
    | _ => true) = true := by decide +kernel
  have h4 := List.all_eq_true.mp key (k - 7) (List.mem_range.mpr (by omega))
  rw [h3] at h4
  have h5 := of_decide_eq_true h4
  rw [show k - 7 + 7 = k by omega] at h5
  exact allR_iff.mpr ⟨by decide, by show qb k + i < 18; omega⟩
theorem longs_in : ((List.range 7).all fun a => (List.range (ftab.getD a []).length).all fun b => match fdOf a b with
    | some (some none) => decide ((a = 5 ∧ b = 7) ∨ (a = 6 ∧ b = 18))
    | _ => true) = true := by decide +kernel
theorem fd_long {a b : Nat} (h : fdOf a b = some (some none)) : (a = 5 ∧ b = 7) ∨ (a = 6 ∧ b = 18) := by
  obtain ⟨h1, h2⟩ := fdOf_lt h
  have h3 := List.all_eq_true.mp longs_in a (List.mem_range.mpr h1)
  have h4 := List.all_eq_true.mp h3 b (List.mem_range.mpr h2)
  rw [h] at h4
  exact of_decide_eq_true h4
end
section
section SIM
variable {p : Program} {l : Launch} {e : Env} {R : Room} {s : State} {m : MethodId} {args : Array Value} {below : List Frame} {meth : Method} {c : Code} {H : Heap} {locs : List Loc} {cells slots : Nat} {Q : State → Prop}
variable {D : va_G} {ad : Nat → Nat → Nat} {ct : CT} {A : Nat → Prop} {y : Nat} {σ σ' : Hp} {ls ls' : Lc} {stk stk' : List PV} {LS : Array Slot} {pc pc' nxt a b : Nat} {sw : List Nat} {v : Int32} {l0 : Int64} {r : List PV}
/-- how it goes on -/
def KN (p : Program) (l : Launch) (e : Env) (R : Room) (s : State) (m : MethodId) (args : Array Value) (below : List Frame) (meth : Method) (c : Code) (cells slots : Nat) (Q : State → Prop) (D : va_G) (ad : Nat → Nat → Nat) (ct : CT) (A : Nat → Prop) (y : Nat) (pc' : Nat) (ls' : Lc) (stk' : List PV) (σ' : Hp) : Prop :=
  ∀ (H' : Heap) (locs' : List Loc) (LS' : Array Slot), Wd D ad ct s A σ' H' locs' → Lr ad (mI y).2.1 LS' ls' → okS stk' → okL ls' → W p l e R s m args below meth c H' locs' cells slots Q (F0 m pc' LS' (stk'.map (trV ad)))
theorem s_get (C : Cx D ct y p s m args c) (hw : Wd D ad ct s A σ H locs) (hl : Lr ad (mI y).2.1 LS ls) (ho : okL ls) {ix idx : Nat} {fd : FD} (hs : okS (.inr (.inr (a, ix)) :: r)) (hf : fdOf a b = some fd)
    (hlink : Cond.fieldLink (oN (mI y).2.2.2.1) idx (tN a b).1 (tN a b).2.1 (tN a b).2.2.1 ∈ WL) (hdg : decode (mI y).1 pc = .ok (.getfield idx, 3))
    (k : KN p l e R s m args below meth c cells slots Q D ad ct A y (pc + 3) ls (gval fd σ a ix b :: r) σ) : W p l e R s m args below meth c H locs cells slots Q (F0 m pc LS ((.inr (.inr (a, ix)) :: r : List PV).map (trV ad))) := by
  obtain ⟨hx, hb, hml, hown, hts, hK⟩ := C
  obtain ⟨h7, hbl⟩ := fdOf_lt hf
  obtain ⟨N, ty, c1, c2, c3, c4, c5, c6⟩ := cls_ok a h7
  have hin : (a, ix) ∈ allR := okR_low (by show a < 31; omega) (okS.hd hs)
  obtain ⟨q0, hq, hat⟩ := wsO_at ad ct hin
  have hcell : cellO ad ct σ a ix = .inr (a, (List.range (ftab.getD a []).length).map (fval ad σ a ix)) := by
    unfold cellO
    rw [arr_obj h7]
  have he := hat σ
  rw [hcell] at he
  refine va_get (v := fval ad σ a ix b) hx hb hts c2 hown hK hw.1 q0 he c1 b (by rw [c5]; exact hbl) (hts _ hlink) (fun _ h9 => h9) (by rw [List.getElem?_map, List.getElem?_range hbl]; rfl) hdg ?_
  have hgv : fval ad σ a ix b = trV ad (gval fd σ a ix b) := by
    unfold fval gval
    rw [hf]
    rcases fd with _ | _ | g <;> rfl
  rw [hgv]
  refine k H locs LS hw hl (okS.cons ?_ (okS.tl hs)) ho
  unfold gval
  rcases fd with _ | _ | g
  · trivial
  · trivial
  · exact Or.inl (fd_ref hf hin)
theorem Wd.set {σ' : Hp} {H1 : Heap} {locs1 : List Loc} {q0 : Nat} {x : Nat × Nat} {E : va_E} (hw : Wd D ad ct s A σ H locs) (hq : allR[q0]? = some x) (he : cellO ad ct σ' x.1 x.2 = E) (ho : ∀ r' : Nat × Nat, r' ∈ allR → r' ≠ x → cellO ad ct σ' r'.1 r'.2 = cellO ad ct σ r'.1 r'.2) (hx : Ex ad s A σ')
    (h1 : va_P D vwCl ((wsO ad ct σ).set q0 (ad x.1 x.2, E)) H1) (h2 : va_D A ((wsO ad ct σ).set q0 (ad x.1 x.2, E))) (h3 : va_S A s.heap H1 locs1) : Wd D ad ct s A σ' H1 locs1 := by
  rw [wsO_set hq he ho] at h1 h2
  exact ⟨h1, h2, h3, hx⟩
theorem Ex.hset {kd ix i : Nat} {x : Int32} (h : Ex ad s A σ) (hk : kd < 31) : Ex ad s A (hset σ.1 kd ix i x, σ.2) := h.congr (hset_ne (by rintro h1; cases h1; omega)) (hset_ne (by rintro h1; cases h1; omega)) rfl
theorem Ex.hrow {kd ix : Nat} {g : Nat → Int32} (h : Ex ad s A σ) (hk : kd < 31) : Ex ad s A (hrow σ.1 kd ix g, σ.2) := h.congr (hrow_ne (by rintro h1; cases h1; omega)) (hrow_ne (by rintro h1; cases h1; omega)) rfl
theorem cell_hset {kd ix i : Nat} {x : Int32} (r' : Nat × Nat) (_ : r' ∈ allR) (h : r' ≠ (kd, ix)) : cellO ad ct (hset σ.1 kd ix i x, σ.2) r'.1 r'.2 = cellO ad ct σ r'.1 r'.2 := cellO_congr (hset_ne h) rfl rfl
theorem cell_hrow {kd ix : Nat} {g : Nat → Int32} (r' : Nat × Nat) (_ : r' ∈ allR) (h : r' ≠ (kd, ix)) : cellO ad ct (hrow σ.1 kd ix g, σ.2) r'.1 r'.2 = cellO ad ct σ r'.1 r'.2 := cellO_congr (hrow_ne h) rfl rfl
theorem narZ {x : Int32} (h : zOk x) : narrow .boolean (.int x) = .int x ∧ fits .boolean (.int x) = true := by
  rcases h with rfl | rfl <;> exact ⟨rfl, rfl⟩
theorem s_putI (C : Cx D ct y p s m args c) (hw : Wd D ad ct s A σ H locs) (hl : Lr ad (mI y).2.1 LS ls) (ho : okL ls) {ix idx : Nat} {x : Int32} (hs : okS (.inl x :: .inr (.inr (a, ix)) :: r)) (hf : fdOf a b = some none) (hz : isZ a b = true → zOk x)
    (hlink : Cond.fieldLink (oN (mI y).2.2.2.1) idx (tN a b).1 (tN a b).2.1 (tN a b).2.2.1 ∈ WL) (hfin : (tN a b).2.2.2 = false) (hdg : decode (mI y).1 pc = .ok (.putfield idx, 3))
    (k : KN p l e R s m args below meth c cells slots Q D ad ct A y (pc + 3) ls r (hset σ.1 a ix b x, σ.2)) : W p l e R s m args below meth c H locs cells slots Q (F0 m pc LS ((.inl x :: .inr (.inr (a, ix)) :: r : List PV).map (trV ad))) := by
  obtain ⟨hx, hb, hml, hown, hts, hK⟩ := C
  obtain ⟨h7, hbl⟩ := fdOf_lt hf
  obtain ⟨N, ty, c1, c2, c3, c4, c5, c6⟩ := cls_ok a h7
  have hbN : b < N := by rw [c5]; exact hbl
  have hin : (a, ix) ∈ allR := okR_low (by show a < 31; omega) (okS.hd (okS.tl hs))
  obtain ⟨q0, hq, hat⟩ := wsO_at ad ct hin
  have hcell : ∀ σ1, cellO ad ct σ1 a ix = .inr (a, (List.range (ftab.getD a []).length).map (fval ad σ1 a ix)) := by
    intro σ1
    unfold cellO
    rw [arr_obj h7]
  have he := hat σ
  rw [hcell] at he
  have hnf : narrow (ty b) (.int x) = .int x ∧ fits (ty b) (.int x) = true := by
    cases hzb : isZ a b with
    | true =>
      rw [((c6 b hbN).1 hf).1 hzb]
      exact narZ (hz hzb)
    | false =>
      rw [((c6 b hbN).1 hf).2 hzb]
      exact ⟨rfl, rfl⟩
  refine va_put (v := .int x) hx hb hts c2 ty c3 c4 hown hK hw.1 hw.2.1 hw.2.2.1 q0 he c1 b hbN (hts _ hlink) (fun _ h9 => h9) hfin (c3 b hbN) hnf.1 hnf.2 (by simpa using hbl) hdg (fun H1 locs1 h1 h2 h3 => ?_)
  refine k H1 locs1 LS (Wd.set (σ' := (hset σ.1 a ix b x, σ.2)) hw hq ?_ (cell_hset) (hw.2.2.2.hset (by omega)) h1 h2 h3) hl (okS.tl (okS.tl hs)) ho
  rw [hcell]
  congr 2
  refine (fvals_set ?_ (fun k hk => ?_)).symm
  · unfold fval
    rw [hf]
    simp [hset]
  · unfold fval
    have : hset σ.1 a ix b x a ix k = σ.1 a ix k := by simp [hset, hk]
    simp only [this]
theorem s_putL (C : Cx D ct y p s m args c) (hw : Wd D ad ct s A σ H locs) (hl : Lr ad (mI y).2.1 LS ls) (ho : okL ls) {ix idx : Nat} {x : Int64} (hs : okS (.inr (.inl x) :: .inr (.inr (a, ix)) :: r)) (hf : fdOf a b = some (some none))
    (hlink : Cond.fieldLink (oN (mI y).2.2.2.1) idx (tN a b).1 (tN a b).2.1 (tN a b).2.2.1 ∈ WL) (hfin : (tN a b).2.2.2 = false) (hdg : decode (mI y).1 pc = .ok (.putfield idx, 3))
    (k : KN p l e R s m args below meth c cells slots Q D ad ct A y (pc + 3) ls r (σ.1, lset σ.2.1 a x, σ.2.2)) : W p l e R s m args below meth c H locs cells slots Q (F0 m pc LS ((.inr (.inl x) :: .inr (.inr (a, ix)) :: r : List PV).map (trV ad))) := by
  obtain ⟨hx, hb, hml, hown, hts, hK⟩ := C
  obtain ⟨h7, hbl⟩ := fdOf_lt hf
  obtain ⟨N, ty, c1, c2, c3, c4, c5, c6⟩ := cls_ok a h7
  have hbN : b < N := by rw [c5]; exact hbl
  have hin : (a, ix) ∈ allR := okR_low (by show a < 31; omega) (okS.hd (okS.tl hs))
  have hone : ∀ i, (a, i) ∈ allR → i = 0 := by
    intro i hi
    have h1 := (allR_iff.mp hi).2
    rcases fd_long hf with ⟨rfl, -⟩ | ⟨rfl, -⟩
    · have h2 : i < 1 := h1
      omega
    · have h2 : i < 1 := h1
      omega
  obtain ⟨q0, hq, hat⟩ := wsO_at ad ct hin
  have hcell : ∀ σ1, cellO ad ct σ1 a ix = .inr (a, (List.range (ftab.getD a []).length).map (fval ad σ1 a ix)) := by
    intro σ1
    unfold cellO
    rw [arr_obj h7]
  have he := hat σ
  rw [hcell] at he
  have hnf : narrow (ty b) (.long x) = .long x ∧ fits (ty b) (.long x) = true := by
    rw [(c6 b hbN).2 hf]
    exact ⟨rfl, rfl⟩
  refine va_put (v := .long x) hx hb hts c2 ty c3 c4 hown hK hw.1 hw.2.1 hw.2.2.1 q0 he c1 b hbN (hts _ hlink) (fun _ h9 => h9) hfin (c3 b hbN) hnf.1 hnf.2 (by simpa using hbl) hdg (fun H1 locs1 h1 h2 h3 => ?_)
  refine k H1 locs1 LS (Wd.set (σ' := (σ.1, lset σ.2.1 a x, σ.2.2)) hw hq ?_ ?_ (hw.2.2.2.congr rfl rfl rfl) h1 h2 h3) hl (okS.tl (okS.tl hs)) ho
  · rw [hcell]
    congr 2
    refine (fvals_set ?_ (fun k hk => ?_)).symm
    · unfold fval
      rw [hf]
      simp [lset]
    · unfold fval
      have hno : fdOf a k ≠ some (some none) := fun h => hk (by
        rcases fd_long hf with ⟨h8, h9⟩ | ⟨h8, h9⟩ <;> rcases fd_long h with ⟨h5, h6⟩ | ⟨h5, h6⟩ <;> omega)
      split <;> first | rfl | (next hh => exact absurd hh hno)
  · intro r' hr' hne
    obtain ⟨k1, i1⟩ := r'
    by_cases hka : k1 = a
    · subst hka
      exact absurd (by rw [hone i1 hr', hone ix hin]) hne
    · exact cellO_congr rfl (by simp [lset, hka]) rfl
end SIM
end
section
section SIM
variable {p : Program} {l : Launch} {e : Env} {R : Room} {s : State} {m : MethodId} {args : Array Value} {below : List Frame} {meth : Method} {c : Code} {H : Heap} {locs : List Loc} {cells slots : Nat} {Q : State → Prop}
variable {D : va_G} {ad : Nat → Nat → Nat} {ct : CT} {A : Nat → Prop} {y : Nat} {σ σ' : Hp} {ls ls' : Lc} {stk stk' : List PV} {LS : Array Slot} {pc pc' nxt a b : Nat} {sw : List Nat} {v : Int32} {l0 : Int64} {r : List PV}
theorem cell_0 {kd ix n : Nat} (h : arr σ kd = some (0, n)) : cellO ad ct σ kd ix = .inl (ct.1, n, .inl (σ.1 kd ix)) := by
  unfold cellO
  rw [h]
  rfl
theorem cell_1 {kd ix n : Nat} (h : arr σ kd = some (1, n)) : cellO ad ct σ kd ix = .inl (ct.2.1, n, .inl (σ.1 kd ix)) := by
  unfold cellO
  rw [h]
  rfl
theorem cell_2 {kd ix n : Nat} (h : arr σ kd = some (2, n)) : cellO ad ct σ kd ix = .inl (ct.2.2, n, .inr (.inr (.inr (.inr (fun j => some (ad 1 (qb kd + j))))))) := by
  unfold cellO
  rw [h]
  rfl
theorem s_ald (C : Cx D ct y p s m args c) (hw : Wd D ad ct s A σ H locs) (hl : Lr ad (mI y).2.1 LS ls) (ho : okL ls) {kd ix n : Nat} {i : Int32} (hs : okS (.inl i :: .inr (.inr (kd, ix)) :: r)) (ha : arr σ kd = some (0, n) ∨ arr σ kd = some (3, n)) (hi : vp_in i n) (hdg : decode (mI y).1 pc = .ok (.iaload, 1))
    (k : KN p l e R s m args below meth c cells slots Q D ad ct A y (pc + 1) ls (.inl (σ.1 kd ix i.toNatClampNeg) :: r) σ) : W p l e R s m args below meth c H locs cells slots Q (F0 m pc LS ((.inl i :: .inr (.inr (kd, ix)) :: r : List PV).map (trV ad))) := by
  obtain ⟨hx, hb, hml, hown, hts, hK⟩ := C
  have hk := k H locs LS hw hl (okS.i (okS.tl (okS.tl hs))) ho
  rcases ha with ha | ha
  · have hin := arr_mut ha (by decide) (okS.hd (okS.tl hs))
    obtain ⟨q0, hq, hat⟩ := wsO_at ad ct hin
    have he := hat σ
    rw [cell_0 ha] at he
    exact va_iald hx hb hK hw.1 q0 0 he rfl hi hdg hk
  · obtain ⟨e1, e2, e3, e4, e5, e6, e7⟩ := hw.2.2.2
    rcases arr_3 (r := (kd, ix)) ha (okS.hd (okS.tl hs)) with ⟨h1, h2⟩ | ⟨h1, h2⟩
    · cases h1
      subst h2
      exact va_sld hx hb e2 e3 e4 hw.2.2.1 hi hdg hk
    · cases h1
      subst h2
      exact va_sld hx hb e5 e6 e7 hw.2.2.1 hi hdg hk
theorem s_alen (C : Cx D ct y p s m args c) (hw : Wd D ad ct s A σ H locs) (hl : Lr ad (mI y).2.1 LS ls) (ho : okL ls) {kd ix n : Nat} (hs : okS (.inr (.inr (kd, ix)) :: r)) (ha : arr σ kd = some (3, n)) (hdg : decode (mI y).1 pc = .ok (.arraylength, 1))
    (k : KN p l e R s m args below meth c cells slots Q D ad ct A y (pc + 1) ls (.inl (Int32.ofNat n) :: r) σ) : W p l e R s m args below meth c H locs cells slots Q (F0 m pc LS ((.inr (.inr (kd, ix)) :: r : List PV).map (trV ad))) := by
  obtain ⟨hx, hb, hml, hown, hts, hK⟩ := C
  have hk := k H locs LS hw hl (okS.i (okS.tl hs)) ho
  obtain ⟨e1, e2, e3, e4, e5, e6, e7⟩ := hw.2.2.2
  rcases arr_3 (r := (kd, ix)) ha (okS.hd hs) with ⟨h1, h2⟩ | ⟨h1, h2⟩
  · cases h1
    subst h2
    exact va_slen hx hb e2 e3 e4 hw.2.2.1 hdg hk
  · cases h1
    subst h2
    exact va_slen hx hb e5 e6 e7 hw.2.2.1 hdg hk
theorem s_zld (C : Cx D ct y p s m args c) (hw : Wd D ad ct s A σ H locs) (hl : Lr ad (mI y).2.1 LS ls) (ho : okL ls) {kd ix n : Nat} {i : Int32} (hs : okS (.inl i :: .inr (.inr (kd, ix)) :: r)) (ha : arr σ kd = some (1, n)) (hi : vp_in i n) (hdg : decode (mI y).1 pc = .ok (.baload, 1))
    (k : KN p l e R s m args below meth c cells slots Q D ad ct A y (pc + 1) ls (.inl (σ.1 kd ix i.toNatClampNeg) :: r) σ) : W p l e R s m args below meth c H locs cells slots Q (F0 m pc LS ((.inl i :: .inr (.inr (kd, ix)) :: r : List PV).map (trV ad))) := by
  obtain ⟨hx, hb, hml, hown, hts, hK⟩ := C
  have hk := k H locs LS hw hl (okS.i (okS.tl (okS.tl hs))) ho
  have hin := arr_mut ha (by decide) (okS.hd (okS.tl hs))
  obtain ⟨q0, hq, hat⟩ := wsO_at ad ct hin
  have he := hat σ
  rw [cell_1 ha] at he
  exact va_zald hx hb hK hw.1 q0 1 he rfl hi hdg hk
theorem s_qld (C : Cx D ct y p s m args c) (hw : Wd D ad ct s A σ H locs) (hl : Lr ad (mI y).2.1 LS ls) (ho : okL ls) {kd ix n : Nat} {i : Int32} (hs : okS (.inl i :: .inr (.inr (kd, ix)) :: r)) (ha : arr σ kd = some (2, n)) (hi : vp_in i n) (hdg : decode (mI y).1 pc = .ok (.aaload, 1))
    (k : KN p l e R s m args below meth c cells slots Q D ad ct A y (pc + 1) ls (.inr (.inr (1, qb kd + i.toNatClampNeg)) :: r) σ) : W p l e R s m args below meth c H locs cells slots Q (F0 m pc LS ((.inl i :: .inr (.inr (kd, ix)) :: r : List PV).map (trV ad))) := by
  obtain ⟨hx, hb, hml, hown, hts, hK⟩ := C
  have hlt : i.toNatClampNeg < n := Nat.not_le.mp fun q => hi (Or.inr q)
  have hk := k H locs LS hw hl (okS.cons (Or.inl (qarr_in ha hlt)) (okS.tl (okS.tl hs))) ho
  have hin := arr_mut ha (by decide) (okS.hd (okS.tl hs))
  obtain ⟨q0, hq, hat⟩ := wsO_at ad ct hin
  have he := hat σ
  rw [cell_2 ha] at he
  exact va_aldq hx hb hK hw.1 q0 2 he rfl hi hdg hk
theorem s_ast (C : Cx D ct y p s m args c) (hw : Wd D ad ct s A σ H locs) (hl : Lr ad (mI y).2.1 LS ls) (ho : okL ls) {kd ix n : Nat} {x i : Int32} (hs : okS (.inl x :: .inl i :: .inr (.inr (kd, ix)) :: r)) (ha : arr σ kd = some (0, n)) (hi : vp_in i n) (hdg : decode (mI y).1 pc = .ok (.iastore, 1))
    (k : KN p l e R s m args below meth c cells slots Q D ad ct A y (pc + 1) ls r (hset σ.1 kd ix i.toNatClampNeg x, σ.2)) : W p l e R s m args below meth c H locs cells slots Q (F0 m pc LS ((.inl x :: .inl i :: .inr (.inr (kd, ix)) :: r : List PV).map (trV ad))) := by
  obtain ⟨hx, hb, hml, hown, hts, hK⟩ := C
  have hlow := arr_low ha (by decide)
  have hin := arr_mut ha (by decide) (okS.hd (okS.tl (okS.tl hs)))
  obtain ⟨q0, hq, hat⟩ := wsO_at ad ct hin
  have he := hat σ
  rw [cell_0 ha] at he
  refine va_iast hx hb hK hw.1 hw.2.1 hw.2.2.1 q0 0 he rfl hi hdg (fun H1 locs1 h1 h2 h3 => ?_)
  refine k H1 locs1 LS (Wd.set (σ' := (hset σ.1 kd ix i.toNatClampNeg x, σ.2)) hw hq ?_ cell_hset (hw.2.2.2.hset (by omega)) h1 h2 h3) hl (okS.tl (okS.tl (okS.tl hs))) ho
  have ha' : arr (hset σ.1 kd ix i.toNatClampNeg x, σ.2) kd = some (0, n) := (arr_congr kd rfl).trans ha
  show cellO ad ct _ kd ix = _
  rw [cell_0 ha']
  show _ = Sum.inl (ct.1, n, Sum.inl (upd (σ.1 kd ix) i.toNatClampNeg x))
  rw [← hset_eq]
theorem s_zst (C : Cx D ct y p s m args c) (hw : Wd D ad ct s A σ H locs) (hl : Lr ad (mI y).2.1 LS ls) (ho : okL ls) {kd ix n : Nat} {x i : Int32} (hs : okS (.inl x :: .inl i :: .inr (.inr (kd, ix)) :: r)) (ha : arr σ kd = some (1, n)) (hi : vp_in i n) (hz : zOk x) (hdg : decode (mI y).1 pc = .ok (.bastore, 1))
    (k : KN p l e R s m args below meth c cells slots Q D ad ct A y (pc + 1) ls r (hset σ.1 kd ix i.toNatClampNeg x, σ.2)) : W p l e R s m args below meth c H locs cells slots Q (F0 m pc LS ((.inl x :: .inl i :: .inr (.inr (kd, ix)) :: r : List PV).map (trV ad))) := by
  obtain ⟨hx, hb, hml, hown, hts, hK⟩ := C
  have hlow := arr_low ha (by decide)
  have hin := arr_mut ha (by decide) (okS.hd (okS.tl (okS.tl hs)))
  obtain ⟨q0, hq, hat⟩ := wsO_at ad ct hin
  have he := hat σ
  rw [cell_1 ha] at he
  have hn : vp_nar .boolean x = x := by
    unfold vp_nar
    rw [(narZ hz).1]
  refine va_zast hx hb hK hw.1 hw.2.1 hw.2.2.1 q0 1 he rfl (x := x) hi hdg (fun H1 locs1 h1 h2 h3 => ?_)
  rw [hn] at h1 h2
  refine k H1 locs1 LS (Wd.set (σ' := (hset σ.1 kd ix i.toNatClampNeg x, σ.2)) hw hq ?_ cell_hset (hw.2.2.2.hset (by omega)) h1 h2 h3) hl (okS.tl (okS.tl (okS.tl hs))) ho
  have ha' : arr (hset σ.1 kd ix i.toNatClampNeg x, σ.2) kd = some (1, n) := (arr_congr kd rfl).trans ha
  show cellO ad ct _ kd ix = _
  rw [cell_1 ha']
  show _ = Sum.inl (ct.2.1, n, Sum.inl (upd (σ.1 kd ix) i.toNatClampNeg x))
  rw [← hset_eq]
theorem wds_map (st : List PV) : ((st.map (trV ad)).map fun v => v.category).sum = wds st := by
  unfold wds
  rw [List.map_map]
  congr 1
  apply List.map_congr_left
  intro v _
  exact trV_cat ad v
theorem jw_1 : Cond.native arraycopyName ∈ WL ∧ Cond.static arraycopyName ∈ WL ∧ Cond.initialized "java/lang/System" ∈ WL := ⟨by decide +kernel, by decide +kernel, by decide +kernel⟩
theorem jw_2 : Cond.static Lib.Math.max.name ∈ WL ∧ Cond.static Lib.Math.min.name ∈ WL ∧ Cond.static Lib.Math.abs.name ∈ WL ∧ Cond.initialized "java/lang/Math" ∈ WL := ⟨by decide +kernel, by decide +kernel, by decide +kernel, by decide +kernel⟩
theorem jw_3 : Cond.code Lib.Math.max.name Lib.Math.max.code 2 (some .int) ∈ WL ∧ Cond.code Lib.Math.min.name Lib.Math.min.code 2 (some .int) ∈ WL ∧ Cond.code Lib.Math.abs.name Lib.Math.abs.code 1 (some .int) ∈ WL := ⟨by decide +kernel, by decide +kernel, by decide +kernel⟩
theorem s_cpy (C : Cx D ct y p s m args c) (hw : Wd D ad ct s A σ H locs) (hl : Lr ad (mI y).2.1 LS ls) (ho : okL ls) {kd ix kd0 ix0 n0 n1 idx : Nat} {n dp sp : Int32} (hs : okS (.inl n :: .inl dp :: .inr (.inr (kd, ix)) :: .inl sp :: .inr (.inr (kd0, ix0)) :: r)) (ha0 : arr σ kd0 = some (0, n0)) (ha : arr σ kd = some (0, n1)) (hi : cpyOk sp dp n n0 n1) (hlink : Cond.methodLink (oN (mI y).2.2.2.1) idx arraycopyName ∈ WL) (hfr : 1 ≤ R.frames) (hlo : 26 ≤ R.locals) (hwd : wds r ≤ 8) (hdg : decode (mI y).1 pc = .ok (.invokestatic idx, 3))
    (k : KN p l e R s m args below meth c cells slots Q D ad ct A y (pc + 3) ls r (hrow σ.1 kd ix (va_cpy (σ.1 kd0 ix0) (σ.1 kd ix) sp.toNatClampNeg dp.toNatClampNeg n.toNatClampNeg), σ.2)) : W p l e R s m args below meth c H locs cells slots Q (F0 m pc LS ((.inl n :: .inl dp :: .inr (.inr (kd, ix)) :: .inl sp :: .inr (.inr (kd0, ix0)) :: r : List PV).map (trV ad))) := by
  obtain ⟨hx, hb, hml, hown, hts, hK⟩ := C
  have hs2 := okS.tl (okS.tl hs)
  have hlow := arr_low ha (by decide)
  have hin := arr_mut ha (by decide) (okS.hd hs2)
  have hin0 := arr_mut ha0 (by decide) (okS.hd (okS.tl (okS.tl hs2)))
  obtain ⟨q1, hq, hat⟩ := wsO_at ad ct hin
  obtain ⟨q0, hq0, hat0⟩ := wsO_at ad ct hin0
  have he := hat σ
  rw [cell_0 ha] at he
  have he0 := hat0 σ
  rw [cell_0 ha0] at he0
  obtain ⟨g1, g2, g3, g4, g5⟩ := hi
  refine va_copyi (ty := .int) hx hb (by rw [hml, hl.1.1]) hown (hts _ hlink) (hts _ jw_1.1) (hts _ jw_1.2.1) (hts _ jw_1.2.2) hK hw.1 hw.2.1 hw.2.2.1 q0 q1 0 0 he0 he rfl rfl rfl g1 g2 g3 g4 g5 (fun _ _ => rfl) hfr ?_ hdg (fun H1 locs1 h1 h2 h3 => ?_)
  · rw [wds_map]
    have h7 : nativeFrameWords "java/lang/System" "arraycopy" 5 = 7 := by decide
    omega
  · refine k H1 locs1 LS (Wd.set (σ' := (hrow σ.1 kd ix (va_cpy (σ.1 kd0 ix0) (σ.1 kd ix) sp.toNatClampNeg dp.toNatClampNeg n.toNatClampNeg), σ.2)) hw hq ?_ cell_hrow (hw.2.2.2.hrow (by omega)) h1 h2 h3) hl (okS.tl (okS.tl (okS.tl hs2))) ho
    have ha' : arr (hrow σ.1 kd ix (va_cpy (σ.1 kd0 ix0) (σ.1 kd ix) sp.toNatClampNeg dp.toNatClampNeg n.toNatClampNeg), σ.2) kd = some (0, n1) := (arr_congr kd rfl).trans ha
    show cellO ad ct _ kd ix = _
    rw [cell_0 ha']
    show Sum.inl (ct.1, n1, Sum.inl (hrow _ kd ix _ kd ix)) = _
    rw [hrow_eq]
end SIM
end
section
/-! Every step of the small machine that stays in its frame. -/
theorem fac_link : Cond.fieldLink (oN 5) 230 "ThreeGaps" "FACTORIALS" "[I" ∈ WL := by decide +kernel
theorem sw_at {pc : Int} {offs : List Int} {sw : List Nat} (h : offs.map (fun o => pc + o) = sw.map (fun (t : Nat) => (t : Int))) {i : Nat} (hi : i < sw.length) : ∃ of : Int, offs[i]? = some of ∧ pc + of = ((sw[i] : Nat) : Int) := by
  have h1 : (offs.map (fun o => pc + o))[i]? = (sw.map (fun (t : Nat) => (t : Int)))[i]? := by rw [h]
  rw [List.getElem?_map, List.getElem?_map, List.getElem?_eq_getElem hi] at h1
  cases h2 : offs[i]? with
  | none => rw [h2] at h1; cases h1
  | some of =>
    rw [h2] at h1
    simp only [Option.map_some, Option.some.injEq] at h1
    exact ⟨of, rfl, h1⟩
theorem lk_at {pc d : Int} {a : Nat} (x : Int32) (ha : pc + d = (a : Int)) : ∀ (ps : List (Int × Int)) (sw : List Nat), ps.map (fun o => pc + o.2) = sw.map (fun (t : Nat) => (t : Int)) → pc + Op.lookupswitch.offset ps d x.toInt = ((lkT x ps sw a : Nat) : Int)
  | [], [], _ => ha
  | [], t :: ts, h => by cases h
  | q :: ps, [], h => by cases h
  | (k, o) :: ps, t :: ts, h => by
    simp only [List.map_cons, List.cons.injEq] at h
    rw [Op.lookupswitch.offset_cons]
    unfold lkT
    by_cases hk : k = x.toInt
    · rw [if_pos hk, if_pos hk.symm]
      exact h.1
    · rw [if_neg hk, if_neg (fun q => hk q.symm)]
      exact lk_at x ha ps ts h.2
section SIM
variable {p : Program} {l : Launch} {e : Env} {R : Room} {s : State} {m : MethodId} {args : Array Value} {below : List Frame} {meth : Method} {c : Code} {H : Heap} {locs : List Loc} {cells slots : Nat} {Q : State → Prop}
variable {D : va_G} {ad : Nat → Nat → Nat} {ct : CT} {A : Nat → Prop} {y : Nat} {σ σ' : Hp} {ls ls' : Lc} {stk stk' : List PV} {LS : Array Slot} {pc pc' nxt a b : Nat} {sw : List Nat} {v : Int32} {l0 : Int64}
set_option maxHeartbeats 4000000 in
set_option maxRecDepth 100000 in
theorem sim1 {I : Jvm.ClassFile.Instr} (hc : chkD (mI y).1 y (pc, I, nxt, a, b, sw, v, l0) = true) (C : Cx D ct y p s m args c) (hR : (mI y).2.2.2.2.1 ≤ R.frames ∧ (mI y).2.2.2.2.2 ≤ R.locals ∧ cells ≤ R.cells ∧ slots ≤ R.slots) (hw : Wd D ad ct s A σ H locs) (hl : Lr ad (mI y).2.1 LS ls) (hs : okS stk) (ho : okL ls)
    (hx : xexec cn y (pc, I, nxt, a, b, sw, v, l0) ls stk σ = some (.inl (pc', ls', stk', σ'))) (k : KN p l e R s m args below meth c cells slots Q D ad ct A y pc' ls' stk' σ') : W p l e R s m args below meth c H locs cells slots Q (F0 m pc LS (stk.map (trV ad))) := by
  simp only [chkD, Bool.and_eq_true] at hc
  obtain ⟨hd0, hn0, hk⟩ := hc
  have hd := of_decide_eq_true hd0
  have hn := nb hn0
  clear hd0 hn0
  obtain ⟨hR1, hR2, hR3, hR4⟩ := id hR
  cases I
  case iconst n =>
    have hn : nxt = pc + 1 := hn
    subst hn
    obtain ⟨rfl, rfl, rfl, rfl⟩ := nx_inv hx
    exact lv_iconst C.1 C.2.1 hd (of_decide_eq_true hk) (k H locs LS hw hl (okS.i hs) ho)
  case bipush n =>
    have hn : nxt = pc + 2 := hn
    subst hn
    obtain ⟨rfl, rfl, rfl, rfl⟩ := nx_inv hx
    exact lv_bipush C.1 C.2.1 hd (of_decide_eq_true hk) (k H locs LS hw hl (okS.i hs) ho)
  case sipush n =>
    have hn : nxt = pc + 3 := hn
    subst hn
    obtain ⟨rfl, rfl, rfl, rfl⟩ := nx_inv hx
    exact lv_sipush C.1 C.2.1 hd (of_decide_eq_true hk) (k H locs LS hw hl (okS.i hs) ho)
  case lconst n =>
    have hn : nxt = pc + 1 := hn
    subst hn
    obtain ⟨rfl, rfl, rfl, rfl⟩ := nx_inv hx
    exact lv_lconst C.1 C.2.1 hd (of_decide_eq_true hk) (k H locs LS hw hl (okS.l hs) ho)
  case ldc i =>
    have hn : nxt = pc + 2 := hn
    subst hn
    obtain ⟨rfl, rfl, rfl, rfl⟩ := nx_inv hx
    exact lv_ldc C.1 C.2.1 C.2.2.2.1 (C.2.2.2.2.1 _ (w_cI hk)) hd (k H locs LS hw hl (okS.i hs) ho)
  case ldc_w i =>
    have hn : nxt = pc + 3 := hn
    subst hn
    obtain ⟨rfl, rfl, rfl, rfl⟩ := nx_inv hx
    exact lv_ldcw C.1 C.2.1 C.2.2.2.1 (C.2.2.2.2.1 _ (w_cI hk)) hd (k H locs LS hw hl (okS.i hs) ho)
  case ldc2_w i =>
    have hn : nxt = pc + 3 := hn
    subst hn
    obtain ⟨rfl, rfl, rfl, rfl⟩ := nx_inv hx
    exact lv_ldc2 C.1 C.2.1 C.2.2.2.1 (C.2.2.2.2.1 _ (w_cJ hk)) hd (k H locs LS hw hl (okS.l hs) ho)
  case iload i =>
    have hn : nxt = pc + 2 := hn
    subst hn
    obtain ⟨x, h1, rfl, rfl, rfl, rfl⟩ := xloadI hx
    have hk5 := nb hk
    clear hk
    subst hk5
    exact lv_iload C.1 C.2.1 hd (hl.2.2 _ _ h1) (k H locs LS hw hl (okS.i hs) ho)
  case iload_n i =>
    have hn : nxt = pc + 1 := hn
    subst hn
    obtain ⟨x, h1, rfl, rfl, rfl, rfl⟩ := xloadI hx
    have hk5 := nb hk
    clear hk
    subst hk5
    exact lv_iload_n C.1 C.2.1 hd rfl (hl.2.2 _ _ h1) (k H locs LS hw hl (okS.i hs) ho)
  case lload i =>
    have hn : nxt = pc + 2 := hn
    subst hn
    obtain ⟨x, h1, rfl, rfl, rfl, rfl⟩ := xloadL hx
    have hk5 := nb hk
    clear hk
    subst hk5
    exact lv_lload C.1 C.2.1 hd (hl.2.2 _ _ h1) (k H locs LS hw hl (okS.l hs) ho)
  case lload_n i =>
    have hn : nxt = pc + 1 := hn
    subst hn
    obtain ⟨x, h1, rfl, rfl, rfl, rfl⟩ := xloadL hx
    have hk5 := nb hk
    clear hk
    subst hk5
    exact lv_lload_n C.1 C.2.1 hd rfl (hl.2.2 _ _ h1) (k H locs LS hw hl (okS.l hs) ho)
  case aload i =>
    have hn : nxt = pc + 2 := hn
    subst hn
    obtain ⟨⟨x1, x2⟩, h1, rfl, rfl, rfl, rfl⟩ := xloadR hx
    have hk5 := nb hk
    clear hk
    subst hk5
    exact lv_aload C.1 C.2.1 hd (hl.2.2 _ _ h1) (k H locs LS hw hl (okS.cons (ho _ _ h1) hs) ho)
  case aload_n i =>
    have hn : nxt = pc + 1 := hn
    subst hn
    obtain ⟨⟨x1, x2⟩, h1, rfl, rfl, rfl, rfl⟩ := xloadR hx
    have hk5 := nb hk
    clear hk
    subst hk5
    exact lv_aload_n C.1 C.2.1 hd rfl (hl.2.2 _ _ h1) (k H locs LS hw hl (okS.cons (ho _ _ h1) hs) ho)
  case istore i =>
    have hn : nxt = pc + 2 := hn
    subst hn
    obtain ⟨x, r, rfl, h1, h2, rfl, rfl, rfl, rfl⟩ := xstoreI hx
    have hk5 := nb hk
    clear hk
    subst hk5
    refine lv_istore C.1 C.2.1 hd hl.has (by rw [← hl.1.2]; exact h2) rfl (fun LS' h' => ?_)
    exact k H locs LS' hw (Lr.of1 (x := .inl x) hl.1.2 h1 h') (okS.tl hs) (ho.set (fun w hq => by cases hq; exact trivial))
  case istore_n i =>
    have hn : nxt = pc + 1 := hn
    subst hn
    obtain ⟨x, r, rfl, h1, h2, rfl, rfl, rfl, rfl⟩ := xstoreI hx
    have hk5 := nb hk
    clear hk
    subst hk5
    refine lv_istore_n C.1 C.2.1 hd rfl hl.has (by rw [← hl.1.2]; exact h2) rfl (fun LS' h' => ?_)
    exact k H locs LS' hw (Lr.of1 (x := .inl x) hl.1.2 h1 h') (okS.tl hs) (ho.set (fun w hq => by cases hq; exact trivial))
  case astore i =>
    have hn : nxt = pc + 2 := hn
    subst hn
    obtain ⟨⟨x1, x2⟩, r, rfl, h1, h2, rfl, rfl, rfl, rfl⟩ := xstoreR hx
    have hk5 := nb hk
    clear hk
    subst hk5
    refine lv_astore C.1 C.2.1 hd hl.has (by rw [← hl.1.2]; exact h2) rfl (fun LS' h' => ?_)
    exact k H locs LS' hw (Lr.of1 (x := .inr (.inr (x1, x2))) hl.1.2 h1 h') (okS.tl hs) (ho.set (fun w hq => by cases hq; exact okS.hd hs))
  case astore_n i =>
    have hn : nxt = pc + 1 := hn
    subst hn
    obtain ⟨⟨x1, x2⟩, r, rfl, h1, h2, rfl, rfl, rfl, rfl⟩ := xstoreR hx
    have hk5 := nb hk
    clear hk
    subst hk5
    refine lv_astore_n C.1 C.2.1 hd rfl hl.has (by rw [← hl.1.2]; exact h2) rfl (fun LS' h' => ?_)
    exact k H locs LS' hw (Lr.of1 (x := .inr (.inr (x1, x2))) hl.1.2 h1 h') (okS.tl hs) (ho.set (fun w hq => by cases hq; exact okS.hd hs))
  case lstore i =>
    have hn : nxt = pc + 2 := hn
    subst hn
    obtain ⟨x, r, rfl, h1, h2, rfl, rfl, rfl, rfl⟩ := xstoreL hx
    have hk5 := nb hk
    clear hk
    subst hk5
    refine lv_lstore C.1 C.2.1 hd hl.has (by rw [← hl.1.2]; exact h2) rfl (fun LS' h' => ?_)
    exact k H locs LS' hw (Lr.of2 hl.1.2 h1 h') (okS.tl hs) ((ho.set (fun w hq => by cases hq; trivial)).set (fun w hq => by cases hq))
  case lstore_n i =>
    have hn : nxt = pc + 1 := hn
    subst hn
    obtain ⟨x, r, rfl, h1, h2, rfl, rfl, rfl, rfl⟩ := xstoreL hx
    have hk5 := nb hk
    clear hk
    subst hk5
    refine lv_lstore_n C.1 C.2.1 hd rfl hl.has (by rw [← hl.1.2]; exact h2) rfl (fun LS' h' => ?_)
    exact k H locs LS' hw (Lr.of2 hl.1.2 h1 h') (okS.tl hs) ((ho.set (fun w hq => by cases hq; trivial)).set (fun w hq => by cases hq))
  case iinc i n =>
    have hn : nxt = pc + 3 := hn
    subst hn
    have hk2 : nbeq i a = true ∧ decide (Int32.ofInt n = v) = true := by simpa [chk] using hk
    obtain ⟨hk3, hk4⟩ := hk2
    have hk3 := nb hk3
    subst hk3
    have hk4 := of_decide_eq_true hk4
    subst hk4
    simp only [xexec] at hx
    split at hx
    · next x h1 =>
      obtain ⟨h2, h3⟩ := bIf_inv hx
      obtain ⟨rfl, rfl, rfl, rfl⟩ := nx_inv h3
      simp only [Bool.and_eq_true, Nat.blt_eq] at h2
      obtain ⟨q, hq⟩ := List.getElem?_of_mem (asc_mem (ad := ad) (q := (i, trV ad (.inl x))).mpr ⟨.inl x, h1, rfl⟩)
      refine lv_iinc C.1 C.2.1 hd hl.has hq rfl (by rw [← hl.1.2]; exact h2.2) rfl (fun LS' h' => ?_)
      exact k H locs LS' hw (Lr.of1 (x := .inl (x + Int32.ofInt n)) hl.1.2 h2.1 h') hs (ho.set (fun w hq => by cases hq; trivial))
    · cases hx
  case iadd =>
    have hn : nxt = pc + 1 := hn
    subst hn
    obtain ⟨z, x, r, rfl, rfl, rfl, rfl, rfl⟩ := xiiI hx
    exact lv_iadd C.1 C.2.1 hd (k H locs LS hw hl (okS.i (okS.tl (okS.tl hs))) ho)
  case isub =>
    have hn : nxt = pc + 1 := hn
    subst hn
    obtain ⟨z, x, r, rfl, rfl, rfl, rfl, rfl⟩ := xiiI hx
    exact lv_isub C.1 C.2.1 hd (k H locs LS hw hl (okS.i (okS.tl (okS.tl hs))) ho)
  case imul =>
    have hn : nxt = pc + 1 := hn
    subst hn
    obtain ⟨z, x, r, rfl, rfl, rfl, rfl, rfl⟩ := xiiI hx
    exact lv_imul C.1 C.2.1 hd (k H locs LS hw hl (okS.i (okS.tl (okS.tl hs))) ho)
  case iand =>
    have hn : nxt = pc + 1 := hn
    subst hn
    obtain ⟨z, x, r, rfl, rfl, rfl, rfl, rfl⟩ := xiiI hx
    exact lv_iand C.1 C.2.1 hd (k H locs LS hw hl (okS.i (okS.tl (okS.tl hs))) ho)
  case ior =>
    have hn : nxt = pc + 1 := hn
    subst hn
    obtain ⟨z, x, r, rfl, rfl, rfl, rfl, rfl⟩ := xiiI hx
    exact lv_ior C.1 C.2.1 hd (k H locs LS hw hl (okS.i (okS.tl (okS.tl hs))) ho)
  case ixor =>
    have hn : nxt = pc + 1 := hn
    subst hn
    obtain ⟨z, x, r, rfl, rfl, rfl, rfl, rfl⟩ := xiiI hx
    exact lv_ixor C.1 C.2.1 hd (k H locs LS hw hl (okS.i (okS.tl (okS.tl hs))) ho)
  case ishl =>
    have hn : nxt = pc + 1 := hn
    subst hn
    obtain ⟨z, x, r, rfl, rfl, rfl, rfl, rfl⟩ := xiiI hx
    exact lv_ishl C.1 C.2.1 hd (k H locs LS hw hl (okS.i (okS.tl (okS.tl hs))) ho)
  case ishr =>
    have hn : nxt = pc + 1 := hn
    subst hn
    obtain ⟨z, x, r, rfl, rfl, rfl, rfl, rfl⟩ := xiiI hx
    exact lv_ishr C.1 C.2.1 hd (k H locs LS hw hl (okS.i (okS.tl (okS.tl hs))) ho)
  case iushr =>
    have hn : nxt = pc + 1 := hn
    subst hn
    obtain ⟨z, x, r, rfl, rfl, rfl, rfl, rfl⟩ := xiiI hx
    exact lv_iushr C.1 C.2.1 hd rfl (k H locs LS hw hl (okS.i (okS.tl (okS.tl hs))) ho)
  case idiv =>
    have hn : nxt = pc + 1 := hn
    subst hn
    obtain ⟨z, x, r, rfl, h1, rfl, rfl, rfl, rfl⟩ := xdivI hx
    exact lv_idiv C.1 C.2.1 hd h1 (k H locs LS hw hl (okS.i (okS.tl (okS.tl hs))) ho)
  case irem =>
    have hn : nxt = pc + 1 := hn
    subst hn
    obtain ⟨z, x, r, rfl, h1, rfl, rfl, rfl, rfl⟩ := xdivI hx
    exact lv_irem C.1 C.2.1 hd h1 (k H locs LS hw hl (okS.i (okS.tl (okS.tl hs))) ho)
  case ladd =>
    have hn : nxt = pc + 1 := hn
    subst hn
    obtain ⟨z, x, r, rfl, rfl, rfl, rfl, rfl⟩ := xllI hx
    exact lv_ladd C.1 C.2.1 hd (k H locs LS hw hl (okS.l (okS.tl (okS.tl hs))) ho)
  case lsub =>
    have hn : nxt = pc + 1 := hn
    subst hn
    obtain ⟨z, x, r, rfl, rfl, rfl, rfl, rfl⟩ := xllI hx
    exact lv_lsub C.1 C.2.1 hd (k H locs LS hw hl (okS.l (okS.tl (okS.tl hs))) ho)
  case lmul =>
    have hn : nxt = pc + 1 := hn
    subst hn
    obtain ⟨z, x, r, rfl, rfl, rfl, rfl, rfl⟩ := xllI hx
    exact lv_lmul C.1 C.2.1 hd (k H locs LS hw hl (okS.l (okS.tl (okS.tl hs))) ho)
  case land =>
    have hn : nxt = pc + 1 := hn
    subst hn
    obtain ⟨z, x, r, rfl, rfl, rfl, rfl, rfl⟩ := xllI hx
    exact lv_land C.1 C.2.1 hd (k H locs LS hw hl (okS.l (okS.tl (okS.tl hs))) ho)
  case lor =>
    have hn : nxt = pc + 1 := hn
    subst hn
    obtain ⟨z, x, r, rfl, rfl, rfl, rfl, rfl⟩ := xllI hx
    exact lv_lor C.1 C.2.1 hd (k H locs LS hw hl (okS.l (okS.tl (okS.tl hs))) ho)
  case ldiv =>
    have hn : nxt = pc + 1 := hn
    subst hn
    obtain ⟨z, x, r, rfl, h1, rfl, rfl, rfl, rfl⟩ := xldivI hx
    exact lv_ldiv C.1 C.2.1 hd h1 (k H locs LS hw hl (okS.l (okS.tl (okS.tl hs))) ho)
  case lrem =>
    have hn : nxt = pc + 1 := hn
    subst hn
    obtain ⟨z, x, r, rfl, h1, rfl, rfl, rfl, rfl⟩ := xldivI hx
    exact lv_lrem C.1 C.2.1 hd h1 (k H locs LS hw hl (okS.l (okS.tl (okS.tl hs))) ho)
  case ineg =>
    have hn : nxt = pc + 1 := hn
    subst hn
    simp only [xexec] at hx
    split at hx
    · next x r =>
      obtain ⟨rfl, rfl, rfl, rfl⟩ := nx_inv hx
      exact lv_ineg C.1 C.2.1 hd (k H locs LS hw hl (okS.i (okS.tl hs)) ho)
    · cases hx
  case i2l =>
    have hn : nxt = pc + 1 := hn
    subst hn
    simp only [xexec] at hx
    split at hx
    · next x r =>
      obtain ⟨rfl, rfl, rfl, rfl⟩ := nx_inv hx
      exact lv_i2l C.1 C.2.1 hd rfl (k H locs LS hw hl (okS.l (okS.tl hs)) ho)
    · cases hx
  case l2i =>
    have hn : nxt = pc + 1 := hn
    subst hn
    simp only [xexec] at hx
    split at hx
    · next x r =>
      obtain ⟨rfl, rfl, rfl, rfl⟩ := nx_inv hx
      exact lv_l2i C.1 C.2.1 hd rfl (k H locs LS hw hl (okS.i (okS.tl hs)) ho)
    · cases hx
  case lushr =>
    have hn : nxt = pc + 1 := hn
    subst hn
    simp only [xexec] at hx
    split at hx
    · next z x r =>
      obtain ⟨rfl, rfl, rfl, rfl⟩ := nx_inv hx
      exact lv_lushr C.1 C.2.1 hd rfl (k H locs LS hw hl (okS.l (okS.tl (okS.tl hs))) ho)
    · cases hx
  case lshl =>
    have hn : nxt = pc + 1 := hn
    subst hn
    simp only [xexec] at hx
    split at hx
    · next z x r =>
      obtain ⟨rfl, rfl, rfl, rfl⟩ := nx_inv hx
      exact lv_lshl C.1 C.2.1 hd rfl (k H locs LS hw hl (okS.l (okS.tl (okS.tl hs))) ho)
    · cases hx
  case lcmp =>
    have hn : nxt = pc + 1 := hn
    subst hn
    simp only [xexec] at hx
    split at hx
    · next z x r =>
      obtain ⟨rfl, rfl, rfl, rfl⟩ := nx_inv hx
      exact W.lcmp C.1 C.2.1 hd (k H locs LS hw hl (okS.i (okS.tl (okS.tl hs))) ho)
    · cases hx
  case pop =>
    have hn : nxt = pc + 1 := hn
    subst hn
    simp only [xexec] at hx
    split at hx
    · next x r =>
      obtain ⟨rfl, rfl, rfl, rfl⟩ := nx_inv hx
      exact lv_pop C.1 C.2.1 hd rfl (k H locs LS hw hl (okS.tl hs) ho)
    · cases hx
  case dup =>
    have hn : nxt = pc + 1 := hn
    subst hn
    simp only [xexec] at hx
    split at hx
    · next x r =>
      obtain ⟨rfl, rfl, rfl, rfl⟩ := nx_inv hx
      exact lv_dup C.1 C.2.1 hd rfl (k H locs LS hw hl (okS.i hs) ho)
    · next x r =>
      obtain ⟨rfl, rfl, rfl, rfl⟩ := nx_inv hx
      exact lv_dup C.1 C.2.1 hd rfl (k H locs LS hw hl (okS.cons (okS.hd hs) hs) ho)
    · cases hx
  case dup2 =>
    have hn : nxt = pc + 1 := hn
    subst hn
    simp only [xexec] at hx
    split at hx
    · next x z r =>
      obtain ⟨rfl, rfl, rfl, rfl⟩ := nx_inv hx
      exact lv_dup2_11 C.1 C.2.1 hd rfl rfl (k H locs LS hw hl (okS.i (okS.cons (okS.hd (okS.tl hs)) hs)) ho)
    · cases hx
  case goto off =>
    have hn : nxt = pc + 3 := hn
    subst hn
    obtain ⟨rfl, rfl, rfl, rfl⟩ := nx_inv hx
    exact lv_goto C.1 C.2.1 hd (of_decide_eq_true hk) (k H locs LS hw hl hs ho)
  case if_icmp cd off =>
    have hn : nxt = pc + 3 := hn
    subst hn
    have hk6 := of_decide_eq_true hk
    clear hk
    simp only [xexec] at hx
    split at hx
    · next z x r =>
      cases cd
      case eq =>
        split at hx
        · next hq =>
          obtain ⟨rfl, rfl, rfl, rfl⟩ := nx_inv hx
          exact lv_icmp_eq C.1 C.2.1 hd hk6 (fun _ => k H locs LS hw hl (okS.tl (okS.tl hs)) ho) (fun q => by first | exact absurd hq q | exact absurd q hq)
        · next hq =>
          obtain ⟨rfl, rfl, rfl, rfl⟩ := nx_inv hx
          exact lv_icmp_eq C.1 C.2.1 hd hk6 (fun q => by first | exact absurd q hq | exact absurd hq q) (fun _ => k H locs LS hw hl (okS.tl (okS.tl hs)) ho)
      case ne =>
        split at hx
        · next hq =>
          obtain ⟨rfl, rfl, rfl, rfl⟩ := nx_inv hx
          exact lv_icmp_ne C.1 C.2.1 hd hk6 (fun _ => k H locs LS hw hl (okS.tl (okS.tl hs)) ho) (fun q => by first | exact absurd hq q | exact absurd q hq)
        · next hq =>
          obtain ⟨rfl, rfl, rfl, rfl⟩ := nx_inv hx
          exact lv_icmp_ne C.1 C.2.1 hd hk6 (fun q => by first | exact absurd q hq | exact absurd hq q) (fun _ => k H locs LS hw hl (okS.tl (okS.tl hs)) ho)
      case lt =>
        split at hx
        · next hq =>
          obtain ⟨rfl, rfl, rfl, rfl⟩ := nx_inv hx
          exact lv_icmp_lt C.1 C.2.1 hd hk6 (fun _ => k H locs LS hw hl (okS.tl (okS.tl hs)) ho) (fun q => by first | exact absurd hq q | exact absurd q hq)
        · next hq =>
          obtain ⟨rfl, rfl, rfl, rfl⟩ := nx_inv hx
          exact lv_icmp_lt C.1 C.2.1 hd hk6 (fun q => by first | exact absurd q hq | exact absurd hq q) (fun _ => k H locs LS hw hl (okS.tl (okS.tl hs)) ho)
      case ge =>
        split at hx
        · next hq =>
          obtain ⟨rfl, rfl, rfl, rfl⟩ := nx_inv hx
          exact lv_icmp_ge C.1 C.2.1 hd hk6 (fun _ => k H locs LS hw hl (okS.tl (okS.tl hs)) ho) (fun q => by first | exact absurd hq q | exact absurd q hq)
        · next hq =>
          obtain ⟨rfl, rfl, rfl, rfl⟩ := nx_inv hx
          exact lv_icmp_ge C.1 C.2.1 hd hk6 (fun q => by first | exact absurd q hq | exact absurd hq q) (fun _ => k H locs LS hw hl (okS.tl (okS.tl hs)) ho)
      case gt =>
        split at hx
        · next hq =>
          obtain ⟨rfl, rfl, rfl, rfl⟩ := nx_inv hx
          exact lv_icmp_gt C.1 C.2.1 hd hk6 (fun _ => k H locs LS hw hl (okS.tl (okS.tl hs)) ho) (fun q => by first | exact absurd hq q | exact absurd q hq)
        · next hq =>
          obtain ⟨rfl, rfl, rfl, rfl⟩ := nx_inv hx
          exact lv_icmp_gt C.1 C.2.1 hd hk6 (fun q => by first | exact absurd q hq | exact absurd hq q) (fun _ => k H locs LS hw hl (okS.tl (okS.tl hs)) ho)
      case le =>
        split at hx
        · next hq =>
          obtain ⟨rfl, rfl, rfl, rfl⟩ := nx_inv hx
          exact lv_icmp_le C.1 C.2.1 hd hk6 (fun _ => k H locs LS hw hl (okS.tl (okS.tl hs)) ho) (fun q => by first | exact absurd hq q | exact absurd q hq)
        · next hq =>
          obtain ⟨rfl, rfl, rfl, rfl⟩ := nx_inv hx
          exact lv_icmp_le C.1 C.2.1 hd hk6 (fun q => by first | exact absurd q hq | exact absurd hq q) (fun _ => k H locs LS hw hl (okS.tl (okS.tl hs)) ho)
    · cases hx
  case ifCond cd off =>
    have hn : nxt = pc + 3 := hn
    subst hn
    have hk6 := of_decide_eq_true hk
    clear hk
    simp only [xexec] at hx
    split at hx
    · next x r =>
      cases cd
      case eq =>
        split at hx
        · next hq =>
          obtain ⟨rfl, rfl, rfl, rfl⟩ := nx_inv hx
          exact lv_if_eq C.1 C.2.1 hd hk6 (fun _ => k H locs LS hw hl (okS.tl hs) ho) (fun q => by first | exact absurd hq q | exact absurd q hq)
        · next hq =>
          obtain ⟨rfl, rfl, rfl, rfl⟩ := nx_inv hx
          exact lv_if_eq C.1 C.2.1 hd hk6 (fun q => by first | exact absurd q hq | exact absurd hq q) (fun _ => k H locs LS hw hl (okS.tl hs) ho)
      case ne =>
        split at hx
        · next hq =>
          obtain ⟨rfl, rfl, rfl, rfl⟩ := nx_inv hx
          exact lv_if_ne C.1 C.2.1 hd hk6 (fun _ => k H locs LS hw hl (okS.tl hs) ho) (fun q => by first | exact absurd hq q | exact absurd q hq)
        · next hq =>
          obtain ⟨rfl, rfl, rfl, rfl⟩ := nx_inv hx
          exact lv_if_ne C.1 C.2.1 hd hk6 (fun q => by first | exact absurd q hq | exact absurd hq q) (fun _ => k H locs LS hw hl (okS.tl hs) ho)
      case lt =>
        split at hx
        · next hq =>
          obtain ⟨rfl, rfl, rfl, rfl⟩ := nx_inv hx
          exact lv_if_lt C.1 C.2.1 hd hk6 (fun _ => k H locs LS hw hl (okS.tl hs) ho) (fun q => by first | exact absurd hq q | exact absurd q hq)
        · next hq =>
          obtain ⟨rfl, rfl, rfl, rfl⟩ := nx_inv hx
          exact lv_if_lt C.1 C.2.1 hd hk6 (fun q => by first | exact absurd q hq | exact absurd hq q) (fun _ => k H locs LS hw hl (okS.tl hs) ho)
      case ge =>
        split at hx
        · next hq =>
          obtain ⟨rfl, rfl, rfl, rfl⟩ := nx_inv hx
          exact lv_if_ge C.1 C.2.1 hd hk6 (fun _ => k H locs LS hw hl (okS.tl hs) ho) (fun q => by first | exact absurd hq q | exact absurd q hq)
        · next hq =>
          obtain ⟨rfl, rfl, rfl, rfl⟩ := nx_inv hx
          exact lv_if_ge C.1 C.2.1 hd hk6 (fun q => by first | exact absurd q hq | exact absurd hq q) (fun _ => k H locs LS hw hl (okS.tl hs) ho)
      case gt =>
        split at hx
        · next hq =>
          obtain ⟨rfl, rfl, rfl, rfl⟩ := nx_inv hx
          exact lv_if_gt C.1 C.2.1 hd hk6 (fun _ => k H locs LS hw hl (okS.tl hs) ho) (fun q => by first | exact absurd hq q | exact absurd q hq)
        · next hq =>
          obtain ⟨rfl, rfl, rfl, rfl⟩ := nx_inv hx
          exact lv_if_gt C.1 C.2.1 hd hk6 (fun q => by first | exact absurd q hq | exact absurd hq q) (fun _ => k H locs LS hw hl (okS.tl hs) ho)
      case le =>
        split at hx
        · next hq =>
          obtain ⟨rfl, rfl, rfl, rfl⟩ := nx_inv hx
          exact lv_if_le C.1 C.2.1 hd hk6 (fun _ => k H locs LS hw hl (okS.tl hs) ho) (fun q => by first | exact absurd hq q | exact absurd q hq)
        · next hq =>
          obtain ⟨rfl, rfl, rfl, rfl⟩ := nx_inv hx
          exact lv_if_le C.1 C.2.1 hd hk6 (fun q => by first | exact absurd q hq | exact absurd hq q) (fun _ => k H locs LS hw hl (okS.tl hs) ho)
    · cases hx
  case tableswitch d lo hi offs =>
    simp only [chk, Bool.and_eq_true] at hk
    obtain ⟨⟨hk1, hk2⟩, hk3⟩ := hk
    have hk1 := of_decide_eq_true hk1
    have hk2 := of_decide_eq_true hk2
    have hk3 := of_decide_eq_true hk3
    simp only [xexec] at hx
    split at hx
    · next x r =>
      obtain ⟨rfl, rfl, rfl, rfl⟩ := nx_inv hx
      have hkk := k H locs LS hw hl (okS.tl hs) ho
      by_cases hq : x.toInt < lo ∨ hi < x.toInt
      · rw [show swT x lo hi sw a = a from if_pos hq] at hkk
        exact lv_tableOut C.1 C.2.1 hd hq hk1 hkk
      · rw [show swT x lo hi sw a = sw.getD (x.toInt - lo).toNat a from if_neg hq] at hkk
        have hlt : (x.toInt - lo).toNat < sw.length := by omega
        obtain ⟨of, h1, h2⟩ := sw_at hk2 hlt
        rw [List.getD_eq_getElem?_getD, List.getElem?_eq_getElem hlt] at hkk
        refine lv_tableIn C.1 C.2.1 hd (fun h => hq (Or.inl h)) (fun h => hq (Or.inr h)) (off := of) (tgt := sw[(x.toInt - lo).toNat]) (by rw [← Array.getElem?_toList]; exact h1) h2 hkk
    · cases hx
  case lookupswitch d ps =>
    simp only [chk, Bool.and_eq_true] at hk
    obtain ⟨⟨hk1, hk2⟩, hk3⟩ := hk
    have hk1 := of_decide_eq_true hk1
    have hk2 := of_decide_eq_true hk2
    simp only [xexec] at hx
    split at hx
    · next x r =>
      obtain ⟨rfl, rfl, rfl, rfl⟩ := nx_inv hx
      have hkk := k H locs LS hw hl (okS.tl hs) ho
      exact lv_lookup C.1 C.2.1 hd hk3 rfl (lk_at x hk1 ps.toList sw hk2) hkk
    · cases hx
  case getfield i =>
    have hn : nxt = pc + 3 := hn
    subst hn
    obtain ⟨ix, r, fd, rfl, h1, rfl, rfl, rfl, rfl⟩ := xgetI hx
    exact s_get C hw hl ho hs h1 (w_fld hk) hd k
  case putfield i =>
    have hn : nxt = pc + 3 := hn
    subst hn
    simp only [chk, Bool.and_eq_true] at hk
    obtain ⟨hk1, hk2⟩ := hk
    have hk2 := of_decide_eq_true hk2
    have hk1 := w_fld (by simpa only [Bool.and_eq_true] using hk1)
    rcases xputI hx with ⟨x, ix, r, rfl, h1, h2, rfl, rfl, rfl, rfl⟩ | ⟨x, ix, r, rfl, h1, rfl, rfl, rfl, rfl⟩
    · exact s_putI C hw hl ho hs h1 h2 hk1 hk2 hd k
    · exact s_putL C hw hl ho hs h1 hk1 hk2 hd k
  case getstatic i =>
    have hn : nxt = pc + 3 := hn
    subst hn
    simp only [chk, Bool.and_eq_true] at hk
    obtain ⟨hk1, hk2⟩ := hk
    have hk1 := nb hk1
    have hk2 := nb hk2
    subst hk2
    obtain ⟨rfl, rfl, rfl, rfl⟩ := nx_inv hx
    have hown := C.2.2.2.1
    rw [hk1] at hown
    exact va_gets C.1 C.2.1 hw.2.2.2.1 hw.2.2.1 hown (C.2.2.2.2.1 _ fac_link) (fun _ h => h) hd (k H locs LS hw hl (okS.cons (Or.inr (Or.inl rfl)) hs) ho)
  case iaload =>
    have hn : nxt = pc + 1 := hn
    subst hn
    obtain ⟨i, kd, ix, n, r, rfl, h1, h2, rfl, rfl, rfl, rfl⟩ := xaldI hx
    exact s_ald C hw hl ho hs h1 h2 hd k
  case baload =>
    have hn : nxt = pc + 1 := hn
    subst hn
    obtain ⟨i, kd, ix, n, r, rfl, h1, h2, rfl, rfl, rfl, rfl⟩ := xzldI hx
    exact s_zld C hw hl ho hs h1 h2 hd k
  case aaload =>
    have hn : nxt = pc + 1 := hn
    subst hn
    obtain ⟨i, kd, ix, n, r, rfl, h1, h2, rfl, rfl, rfl, rfl⟩ := xqldI hx
    exact s_qld C hw hl ho hs h1 h2 hd k
  case iastore =>
    have hn : nxt = pc + 1 := hn
    subst hn
    obtain ⟨x, i, kd, ix, n, r, rfl, h1, h2, rfl, rfl, rfl, rfl⟩ := xastI hx
    exact s_ast C hw hl ho hs h1 h2 hd k
  case bastore =>
    have hn : nxt = pc + 1 := hn
    subst hn
    obtain ⟨x, i, kd, ix, n, r, rfl, h1, h2, h3, rfl, rfl, rfl, rfl⟩ := xzstI hx
    exact s_zst C hw hl ho hs h1 h2 h3 hd k
  case arraylength =>
    have hn : nxt = pc + 1 := hn
    subst hn
    obtain ⟨kd, ix, n, r, rfl, h1, rfl, rfl, rfl, rfl⟩ := xalenI hx
    exact s_alen C hw hl ho hs h1 hd k
  case invokestatic i =>
    have hn : nxt = pc + 3 := hn
    subst hn
    simp only [xexec] at hx
    split at hx
    · next hb0 =>
      unfold xcall at hx
      obtain ⟨_, h3⟩ := bIf_inv hx
      cases h3
    · next hb0 =>
      simp only [chk, Bool.and_eq_true] at hk
      obtain ⟨⟨hk1, hk2⟩, hk3⟩ := hk
      have hk1 := w_in (by simpa only [Bool.and_eq_true] using hk1)
      have hk2 := Nat.le_of_ble_eq_true hk2
      have hk3 := Nat.le_of_ble_eq_true hk3
      split at hx
      · next z x r =>
        obtain ⟨h4, h5⟩ := bIf_inv hx
        obtain ⟨rfl, rfl, rfl, rfl⟩ := nx_inv h5
        have h4 := Nat.le_of_ble_eq_true h4
        exact va_mmax C.1 C.2.1 (by rw [C.2.2.1, hl.1.1]) C.2.2.2.1 (C.2.2.2.2.1 _ hk1) (C.2.2.2.2.1 _ jw_2.1) (C.2.2.2.2.1 _ jw_2.2.2.2) (C.2.2.2.2.1 _ jw_3.1) (Nat.le_trans hk2 hR.1) (by rw [wds_map]; omega) hR.2.2.1 hR.2.2.2 hd (k H locs LS hw hl (okS.i (okS.tl (okS.tl hs))) ho)
      · cases hx
    · next hb0 =>
      simp only [chk, Bool.and_eq_true] at hk
      obtain ⟨⟨hk1, hk2⟩, hk3⟩ := hk
      have hk1 := w_in (by simpa only [Bool.and_eq_true] using hk1)
      have hk2 := Nat.le_of_ble_eq_true hk2
      have hk3 := Nat.le_of_ble_eq_true hk3
      split at hx
      · next z x r =>
        obtain ⟨h4, h5⟩ := bIf_inv hx
        obtain ⟨rfl, rfl, rfl, rfl⟩ := nx_inv h5
        have h4 := Nat.le_of_ble_eq_true h4
        exact va_mmin C.1 C.2.1 (by rw [C.2.2.1, hl.1.1]) C.2.2.2.1 (C.2.2.2.2.1 _ hk1) (C.2.2.2.2.1 _ jw_2.2.1) (C.2.2.2.2.1 _ jw_2.2.2.2) (C.2.2.2.2.1 _ jw_3.2.1) (Nat.le_trans hk2 hR.1) (by rw [wds_map]; omega) hR.2.2.1 hR.2.2.2 hd (k H locs LS hw hl (okS.i (okS.tl (okS.tl hs))) ho)
      · cases hx
    · next hb0 =>
      simp only [chk, Bool.and_eq_true] at hk
      obtain ⟨⟨hk1, hk2⟩, hk3⟩ := hk
      have hk1 := w_in (by simpa only [Bool.and_eq_true] using hk1)
      have hk2 := Nat.le_of_ble_eq_true hk2
      have hk3 := Nat.le_of_ble_eq_true hk3
      split at hx
      · next x r =>
        obtain ⟨h4, h5⟩ := bIf_inv hx
        obtain ⟨rfl, rfl, rfl, rfl⟩ := nx_inv h5
        have h4 := Nat.le_of_ble_eq_true h4
        exact va_mabs C.1 C.2.1 (by rw [C.2.2.1, hl.1.1]) C.2.2.2.1 (C.2.2.2.2.1 _ hk1) (C.2.2.2.2.1 _ jw_2.2.2.1) (C.2.2.2.2.1 _ jw_2.2.2.2) (C.2.2.2.2.1 _ jw_3.2.2) (Nat.le_trans hk2 hR.1) (by rw [wds_map]; omega) hR.2.2.1 hR.2.2.2 hd (k H locs LS hw hl (okS.i (okS.tl hs)) ho)
      · cases hx
    · next hb0 =>
      simp only [chk, Bool.and_eq_true] at hk
      obtain ⟨⟨hk1, hk2⟩, hk3⟩ := hk
      have hk1 := w_in (by simpa only [Bool.and_eq_true] using hk1)
      have hk2 := Nat.le_of_ble_eq_true hk2
      have hk3 := Nat.le_of_ble_eq_true hk3
      split at hx
      · next z1 z2 z3 z4 z5 r0 =>
        obtain ⟨h4, h5⟩ := bIf_inv hx
        have h4 := Nat.le_of_ble_eq_true h4
        obtain ⟨n, dp, sp, kd, ix, kd0, ix0, n0, n1, r, he, h6, h7, h8, rfl, rfl, rfl, rfl⟩ := xcpyI h5
        cases he
        exact s_cpy C hw hl ho hs h6 h7 h8 hk1 (Nat.le_trans hk2 hR.1) (Nat.le_trans hk3 hR.2.1) h4 hd k
      · cases hx
    · cases hx
  case invokevirtual i =>
    have hn : nxt = pc + 3 := hn
    subst hn
    simp only [xexec] at hx
    split at hx
    · obtain ⟨_, h3⟩ := bIf_inv hx
      unfold xcall at h3
      obtain ⟨_, h4⟩ := bIf_inv h3
      cases h4
    · cases hx
  case ireturn =>
    have hn : nxt = pc + 1 := hn
    subst hn
    simp only [xexec] at hx
    split at hx
    · split at hx
      · cases hx
      · split at hx <;> cases hx
    · cases hx
  case lreturn =>
    have hn : nxt = pc + 1 := hn
    subst hn
    simp only [xexec] at hx
    split at hx <;> cases hx
  case areturn =>
    have hn : nxt = pc + 1 := hn
    subst hn
    simp only [xexec] at hx
    split at hx <;> cases hx
  case return_ =>
    have hn : nxt = pc + 1 := hn
    subst hn
    simp only [xexec] at hx
    split at hx <;> cases hx
  all_goals cases hx
end SIM
end
section
/-! Every entry of the table is what its instruction says. Laid by wip/whole/gen.py. -/
theorem all_cut {α : Type} (k n : Nat) (l : List α) (f : α → Bool) (h1 : ((l.drop k).take n).all f = true) (h2 : (l.drop (k + n)).all f = true) : (l.drop k).all f = true := by
  rw [← List.take_append_drop n (l.drop k), List.all_append, h1, List.drop_drop, h2]
  rfl
theorem dk_93 : P93.all (chkD cX6_readItem 93) = true := all_cut 0 60 P93 _ dk_93_0 (all_cut 60 60 P93 _ dk_93_60 (all_cut 120 60 P93 _ dk_93_120 (by decide +kernel)))
theorem dk_148 : P148.all (chkD cX6_rests 148) = true := all_cut 0 60 P148 _ dk_148_0 (all_cut 60 60 P148 _ dk_148_60 (all_cut 120 60 P148 _ dk_148_120 (by decide +kernel)))
theorem dk_159 : P159.all (chkD code 159) = true := all_cut 0 60 P159 _ dk_159_0 (all_cut 60 60 P159 _ dk_159_60 (all_cut 120 60 P159 _ dk_159_120 (all_cut 180 60 P159 _ dk_159_180 (all_cut 240 60 P159 _ dk_159_240 (all_cut 300 60 P159 _ dk_159_300 (all_cut 360 60 P159 _ dk_159_360 (all_cut 420 60 P159 _ dk_159_420 (all_cut 480 60 P159 _ dk_159_480 (all_cut 540 60 P159 _ dk_159_540 (all_cut 600 60 P159 _ dk_159_600 (all_cut 660 60 P159 _ dk_159_660 (all_cut 720 60 P159 _ dk_159_720 (all_cut 780 60 P159 _ dk_159_780 (all_cut 840 60 P159 _ dk_159_840 (by decide +kernel)))))))))))))))
set_option maxRecDepth 100000 in
theorem prog_ok : ∀ (y : Nat) (e : En), e ∈ prog y → chkD (mI y).1 y e = true
  | 0, e, h => List.all_eq_true.mp dk_0 e h
  | 1, e, h => List.all_eq_true.mp dk_1 e h
  | 2, e, h => List.all_eq_true.mp dk_2 e h
  | 3, e, h => List.all_eq_true.mp dk_3 e h
  | 4, e, h => List.all_eq_true.mp dk_4 e h
  | 5, e, h => List.all_eq_true.mp dk_5 e h
  | 6, e, h => List.all_eq_true.mp dk_6 e h
  | 7, e, h => List.all_eq_true.mp dk_7 e h
  | 8, e, h => List.all_eq_true.mp dk_8 e h
  | 9, e, h => List.all_eq_true.mp dk_9 e h
  | 10, e, h => List.all_eq_true.mp dk_10 e h
  | 11, e, h => List.all_eq_true.mp dk_11 e h
  | 12, e, h => List.all_eq_true.mp dk_12 e h
  | 13, e, h => List.all_eq_true.mp dk_13 e h
  | 14, e, h => List.all_eq_true.mp dk_14 e h
  | 15, e, h => List.all_eq_true.mp dk_15 e h
  | 16, e, h => List.all_eq_true.mp dk_16 e h
  | 17, e, h => List.all_eq_true.mp dk_17 e h
  | 18, e, h => List.all_eq_true.mp dk_18 e h
  | 19, e, h => List.all_eq_true.mp dk_19 e h
  | 20, e, h => List.all_eq_true.mp dk_20 e h
  | 21, e, h => List.all_eq_true.mp dk_21 e h
  | 22, e, h => List.all_eq_true.mp dk_22 e h
  | 23, e, h => List.all_eq_true.mp dk_23 e h
  | 24, e, h => List.all_eq_true.mp dk_24 e h
  | 25, e, h => List.all_eq_true.mp dk_25 e h
  | 26, e, h => List.all_eq_true.mp dk_26 e h
  | 27, e, h => List.all_eq_true.mp dk_27 e h
  | 28, e, h => List.all_eq_true.mp dk_28 e h
  | 29, e, h => List.all_eq_true.mp dk_29 e h
  | 30, e, h => List.all_eq_true.mp dk_30 e h
  | 31, e, h => List.all_eq_true.mp dk_31 e h
  | 32, e, h => List.all_eq_true.mp dk_32 e h
  | 33, e, h => List.all_eq_true.mp dk_33 e h
  | 34, e, h => List.all_eq_true.mp dk_34 e h
  | 35, e, h => List.all_eq_true.mp dk_35 e h
  | 36, e, h => List.all_eq_true.mp dk_36 e h
  | 37, e, h => List.all_eq_true.mp dk_37 e h
  | 38, e, h => List.all_eq_true.mp dk_38 e h
  | 39, e, h => List.all_eq_true.mp dk_39 e h
  | 40, e, h => List.all_eq_true.mp dk_40 e h
  | 41, e, h => List.all_eq_true.mp dk_41 e h
  | 42, e, h => List.all_eq_true.mp dk_42 e h
  | 43, e, h => List.all_eq_true.mp dk_43 e h
  | 44, e, h => List.all_eq_true.mp dk_44 e h
  | 45, e, h => List.all_eq_true.mp dk_45 e h
  | 46, e, h => List.all_eq_true.mp dk_46 e h
  | 47, e, h => List.all_eq_true.mp dk_47 e h
  | 48, e, h => List.all_eq_true.mp dk_48 e h
  | 49, e, h => List.all_eq_true.mp dk_49 e h
  | 50, e, h => List.all_eq_true.mp dk_50 e h
  | 51, e, h => List.all_eq_true.mp dk_51 e h
  | 52, e, h => List.all_eq_true.mp dk_52 e h
  | 53, e, h => List.all_eq_true.mp dk_53 e h
  | 54, e, h => List.all_eq_true.mp dk_54 e h
  | 55, e, h => List.all_eq_true.mp dk_55 e h
  | 56, e, h => List.all_eq_true.mp dk_56 e h
  | 57, e, h => List.all_eq_true.mp dk_57 e h
  | 58, e, h => List.all_eq_true.mp dk_58 e h
  | 59, e, h => List.all_eq_true.mp dk_59 e h
  | 60, e, h => List.all_eq_true.mp dk_60 e h
  | 61, e, h => List.all_eq_true.mp dk_61 e h
  | 62, e, h => List.all_eq_true.mp dk_62 e h
  | 63, e, h => List.all_eq_true.mp dk_63 e h
  | 64, e, h => List.all_eq_true.mp dk_64 e h
  | 65, e, h => List.all_eq_true.mp dk_65 e h
  | 66, e, h => List.all_eq_true.mp dk_66 e h
  | 67, e, h => List.all_eq_true.mp dk_67 e h
  | 68, e, h => List.all_eq_true.mp dk_68 e h
  | 69, e, h => List.all_eq_true.mp dk_69 e h
  | 70, e, h => List.all_eq_true.mp dk_70 e h
  | 71, e, h => List.all_eq_true.mp dk_71 e h
  | 72, e, h => List.all_eq_true.mp dk_72 e h
  | 73, e, h => List.all_eq_true.mp dk_73 e h
  | 74, e, h => List.all_eq_true.mp dk_74 e h
  | 75, e, h => List.all_eq_true.mp dk_75 e h
  | 76, e, h => List.all_eq_true.mp dk_76 e h
  | 77, e, h => List.all_eq_true.mp dk_77 e h
  | 78, e, h => List.all_eq_true.mp dk_78 e h
  | 79, e, h => List.all_eq_true.mp dk_79 e h
  | 80, e, h => List.all_eq_true.mp dk_80 e h
  | 81, e, h => List.all_eq_true.mp dk_81 e h
  | 82, e, h => List.all_eq_true.mp dk_82 e h
  | 83, e, h => List.all_eq_true.mp dk_83 e h
  | 84, e, h => List.all_eq_true.mp dk_84 e h
  | 85, e, h => List.all_eq_true.mp dk_85 e h
  | 86, e, h => List.all_eq_true.mp dk_86 e h
  | 87, e, h => List.all_eq_true.mp dk_87 e h
  | 88, e, h => List.all_eq_true.mp dk_88 e h
  | 89, e, h => List.all_eq_true.mp dk_89 e h
  | 90, e, h => List.all_eq_true.mp dk_90 e h
  | 91, e, h => List.all_eq_true.mp dk_91 e h
  | 92, e, h => List.all_eq_true.mp dk_92 e h
  | 93, e, h => List.all_eq_true.mp dk_93 e h
  | 94, e, h => List.all_eq_true.mp dk_94 e h
  | 95, e, h => List.all_eq_true.mp dk_95 e h
  | 96, e, h => List.all_eq_true.mp dk_96 e h
  | 97, e, h => List.all_eq_true.mp dk_97 e h
  | 98, e, h => List.all_eq_true.mp dk_98 e h
  | 99, e, h => List.all_eq_true.mp dk_99 e h
  | 100, e, h => List.all_eq_true.mp dk_100 e h
  | 101, e, h => List.all_eq_true.mp dk_101 e h
  | 102, e, h => List.all_eq_true.mp dk_102 e h
  | 103, e, h => List.all_eq_true.mp dk_103 e h
  | 104, e, h => List.all_eq_true.mp dk_104 e h
  | 105, e, h => List.all_eq_true.mp dk_105 e h
  | 106, e, h => List.all_eq_true.mp dk_106 e h
  | 107, e, h => List.all_eq_true.mp dk_107 e h
  | 108, e, h => List.all_eq_true.mp dk_108 e h
  | 109, e, h => List.all_eq_true.mp dk_109 e h
  | 110, e, h => List.all_eq_true.mp dk_110 e h
  | 111, e, h => List.all_eq_true.mp dk_111 e h
  | 112, e, h => List.all_eq_true.mp dk_112 e h
  | 113, e, h => List.all_eq_true.mp dk_113 e h
  | 114, e, h => List.all_eq_true.mp dk_114 e h
  | 115, e, h => List.all_eq_true.mp dk_115 e h
  | 116, e, h => List.all_eq_true.mp dk_116 e h
  | 117, e, h => List.all_eq_true.mp dk_117 e h
  | 118, e, h => List.all_eq_true.mp dk_118 e h
  | 119, e, h => List.all_eq_true.mp dk_119 e h
  | 120, e, h => List.all_eq_true.mp dk_120 e h
  | 121, e, h => List.all_eq_true.mp dk_121 e h
  | 122, e, h => List.all_eq_true.mp dk_122 e h
  | 123, e, h => List.all_eq_true.mp dk_123 e h
  | 124, e, h => List.all_eq_true.mp dk_124 e h
  | 125, e, h => List.all_eq_true.mp dk_125 e h
  | 126, e, h => List.all_eq_true.mp dk_126 e h
  | 127, e, h => List.all_eq_true.mp dk_127 e h
  | 128, e, h => List.all_eq_true.mp dk_128 e h
  | 129, e, h => List.all_eq_true.mp dk_129 e h
  | 130, e, h => List.all_eq_true.mp dk_130 e h
  | 131, e, h => List.all_eq_true.mp dk_131 e h
  | 132, e, h => List.all_eq_true.mp dk_132 e h
  | 133, e, h => List.all_eq_true.mp dk_133 e h
  | 134, e, h => List.all_eq_true.mp dk_134 e h
  | 135, e, h => List.all_eq_true.mp dk_135 e h
  | 136, e, h => List.all_eq_true.mp dk_136 e h
  | 137, e, h => List.all_eq_true.mp dk_137 e h
  | 138, e, h => List.all_eq_true.mp dk_138 e h
  | 139, e, h => List.all_eq_true.mp dk_139 e h
  | 140, e, h => List.all_eq_true.mp dk_140 e h
  | 141, e, h => List.all_eq_true.mp dk_141 e h
  | 142, e, h => List.all_eq_true.mp dk_142 e h
  | 143, e, h => List.all_eq_true.mp dk_143 e h
  | 144, e, h => List.all_eq_true.mp dk_144 e h
  | 145, e, h => List.all_eq_true.mp dk_145 e h
  | 146, e, h => List.all_eq_true.mp dk_146 e h
  | 147, e, h => List.all_eq_true.mp dk_147 e h
  | 148, e, h => List.all_eq_true.mp dk_148 e h
  | 149, e, h => List.all_eq_true.mp dk_149 e h
  | 150, e, h => List.all_eq_true.mp dk_150 e h
  | 151, e, h => List.all_eq_true.mp dk_151 e h
  | 152, e, h => List.all_eq_true.mp dk_152 e h
  | 153, e, h => List.all_eq_true.mp dk_153 e h
  | 154, e, h => List.all_eq_true.mp dk_154 e h
  | 155, e, h => List.all_eq_true.mp dk_155 e h
  | 156, e, h => List.all_eq_true.mp dk_156 e h
  | 157, e, h => List.all_eq_true.mp dk_157 e h
  | 158, e, h => List.all_eq_true.mp dk_158 e h
  | 159, e, h => List.all_eq_true.mp dk_159 e h
  | n + 160, e, h => by
    have h2 : prog (n + 160) = [] := by
      unfold prog
      rw [List.getD_eq_getElem?_getD, List.getElem?_eq_none (by show 160 ≤ n + 160; omega)]
      rfl
    rw [h2] at h
    cases h
end
section
/-! What lies outside stays. -/
def keepE (σ σ' : Hp) : Prop := σ'.1 31 0 = σ.1 31 0 ∧ σ'.1 32 0 = σ.1 32 0 ∧ σ'.2.2 = σ.2.2
theorem keepE.rf (σ : Hp) : keepE σ σ := ⟨rfl, rfl, rfl⟩
theorem keepE.tr {σ σ1 σ2 : Hp} (h : keepE σ σ1) (h2 : keepE σ1 σ2) : keepE σ σ2 := ⟨h2.1.trans h.1, h2.2.1.trans h.2.1, h2.2.2.trans h.2.2⟩
set_option maxHeartbeats 4000000 in
theorem keep1 {y pc pc' nxt a b : Nat} {I : Jvm.ClassFile.Instr} {σ σ' : Hp} {ls ls' : Lc} {stk stk' : List PV} {sw : List Nat} {v : Int32} {l0 : Int64} (hx : xexec cn y (pc, I, nxt, a, b, sw, v, l0) ls stk σ = some (.inl (pc', ls', stk', σ'))) : keepE σ σ' := by
  cases I
  case iconst n =>
    obtain ⟨rfl, rfl, rfl, rfl⟩ := nx_inv hx
    exact ⟨rfl, rfl, rfl⟩
  case bipush n =>
    obtain ⟨rfl, rfl, rfl, rfl⟩ := nx_inv hx
    exact ⟨rfl, rfl, rfl⟩
  case sipush n =>
    obtain ⟨rfl, rfl, rfl, rfl⟩ := nx_inv hx
    exact ⟨rfl, rfl, rfl⟩
  case lconst n =>
    obtain ⟨rfl, rfl, rfl, rfl⟩ := nx_inv hx
    exact ⟨rfl, rfl, rfl⟩
  case ldc i =>
    obtain ⟨rfl, rfl, rfl, rfl⟩ := nx_inv hx
    exact ⟨rfl, rfl, rfl⟩
  case ldc_w i =>
    obtain ⟨rfl, rfl, rfl, rfl⟩ := nx_inv hx
    exact ⟨rfl, rfl, rfl⟩
  case ldc2_w i =>
    obtain ⟨rfl, rfl, rfl, rfl⟩ := nx_inv hx
    exact ⟨rfl, rfl, rfl⟩
  case goto off =>
    obtain ⟨rfl, rfl, rfl, rfl⟩ := nx_inv hx
    exact ⟨rfl, rfl, rfl⟩
  case getstatic i =>
    obtain ⟨rfl, rfl, rfl, rfl⟩ := nx_inv hx
    exact ⟨rfl, rfl, rfl⟩
  case iload i =>
    obtain ⟨x, h1, rfl, rfl, rfl, rfl⟩ := xloadI hx
    exact ⟨rfl, rfl, rfl⟩
  case istore i =>
    obtain ⟨x, r, rfl, h1, h2, rfl, rfl, rfl, rfl⟩ := xstoreI hx
    exact ⟨rfl, rfl, rfl⟩
  case iload_n i =>
    obtain ⟨x, h1, rfl, rfl, rfl, rfl⟩ := xloadI hx
    exact ⟨rfl, rfl, rfl⟩
  case istore_n i =>
    obtain ⟨x, r, rfl, h1, h2, rfl, rfl, rfl, rfl⟩ := xstoreI hx
    exact ⟨rfl, rfl, rfl⟩
  case lload i =>
    obtain ⟨x, h1, rfl, rfl, rfl, rfl⟩ := xloadL hx
    exact ⟨rfl, rfl, rfl⟩
  case lstore i =>
    obtain ⟨x, r, rfl, h1, h2, rfl, rfl, rfl, rfl⟩ := xstoreL hx
    exact ⟨rfl, rfl, rfl⟩
  case lload_n i =>
    obtain ⟨x, h1, rfl, rfl, rfl, rfl⟩ := xloadL hx
    exact ⟨rfl, rfl, rfl⟩
  case lstore_n i =>
    obtain ⟨x, r, rfl, h1, h2, rfl, rfl, rfl, rfl⟩ := xstoreL hx
    exact ⟨rfl, rfl, rfl⟩
  case aload i =>
    obtain ⟨x, h1, rfl, rfl, rfl, rfl⟩ := xloadR hx
    exact ⟨rfl, rfl, rfl⟩
  case astore i =>
    obtain ⟨x, r, rfl, h1, h2, rfl, rfl, rfl, rfl⟩ := xstoreR hx
    exact ⟨rfl, rfl, rfl⟩
  case aload_n i =>
    obtain ⟨x, h1, rfl, rfl, rfl, rfl⟩ := xloadR hx
    exact ⟨rfl, rfl, rfl⟩
  case astore_n i =>
    obtain ⟨x, r, rfl, h1, h2, rfl, rfl, rfl, rfl⟩ := xstoreR hx
    exact ⟨rfl, rfl, rfl⟩
  case iinc i n =>
    simp only [xexec] at hx
    split at hx
    · obtain ⟨h2, h3⟩ := bIf_inv hx
      obtain ⟨rfl, rfl, rfl, rfl⟩ := nx_inv h3
      exact ⟨rfl, rfl, rfl⟩
    · cases hx
  case iadd =>
    obtain ⟨z, x, r, rfl, rfl, rfl, rfl, rfl⟩ := xiiI hx
    exact ⟨rfl, rfl, rfl⟩
  case isub =>
    obtain ⟨z, x, r, rfl, rfl, rfl, rfl, rfl⟩ := xiiI hx
    exact ⟨rfl, rfl, rfl⟩
  case imul =>
    obtain ⟨z, x, r, rfl, rfl, rfl, rfl, rfl⟩ := xiiI hx
    exact ⟨rfl, rfl, rfl⟩
  case iand =>
    obtain ⟨z, x, r, rfl, rfl, rfl, rfl, rfl⟩ := xiiI hx
    exact ⟨rfl, rfl, rfl⟩
  case ior =>
    obtain ⟨z, x, r, rfl, rfl, rfl, rfl, rfl⟩ := xiiI hx
    exact ⟨rfl, rfl, rfl⟩
  case ixor =>
    obtain ⟨z, x, r, rfl, rfl, rfl, rfl, rfl⟩ := xiiI hx
    exact ⟨rfl, rfl, rfl⟩
  case ishl =>
    obtain ⟨z, x, r, rfl, rfl, rfl, rfl, rfl⟩ := xiiI hx
    exact ⟨rfl, rfl, rfl⟩
  case ishr =>
    obtain ⟨z, x, r, rfl, rfl, rfl, rfl, rfl⟩ := xiiI hx
    exact ⟨rfl, rfl, rfl⟩
  case iushr =>
    obtain ⟨z, x, r, rfl, rfl, rfl, rfl, rfl⟩ := xiiI hx
    exact ⟨rfl, rfl, rfl⟩
  case idiv =>
    obtain ⟨z, x, r, rfl, h1, rfl, rfl, rfl, rfl⟩ := xdivI hx
    exact ⟨rfl, rfl, rfl⟩
  case irem =>
    obtain ⟨z, x, r, rfl, h1, rfl, rfl, rfl, rfl⟩ := xdivI hx
    exact ⟨rfl, rfl, rfl⟩
  case ladd =>
    obtain ⟨z, x, r, rfl, rfl, rfl, rfl, rfl⟩ := xllI hx
    exact ⟨rfl, rfl, rfl⟩
  case lsub =>
    obtain ⟨z, x, r, rfl, rfl, rfl, rfl, rfl⟩ := xllI hx
    exact ⟨rfl, rfl, rfl⟩
  case lmul =>
    obtain ⟨z, x, r, rfl, rfl, rfl, rfl, rfl⟩ := xllI hx
    exact ⟨rfl, rfl, rfl⟩
  case land =>
    obtain ⟨z, x, r, rfl, rfl, rfl, rfl, rfl⟩ := xllI hx
    exact ⟨rfl, rfl, rfl⟩
  case lor =>
    obtain ⟨z, x, r, rfl, rfl, rfl, rfl, rfl⟩ := xllI hx
    exact ⟨rfl, rfl, rfl⟩
  case ldiv =>
    obtain ⟨z, x, r, rfl, h1, rfl, rfl, rfl, rfl⟩ := xldivI hx
    exact ⟨rfl, rfl, rfl⟩
  case lrem =>
    obtain ⟨z, x, r, rfl, h1, rfl, rfl, rfl, rfl⟩ := xldivI hx
    exact ⟨rfl, rfl, rfl⟩
  case ineg =>
    simp only [xexec] at hx
    split at hx
    · obtain ⟨rfl, rfl, rfl, rfl⟩ := nx_inv hx
      exact ⟨rfl, rfl, rfl⟩
    · cases hx
  case i2l =>
    simp only [xexec] at hx
    split at hx
    · obtain ⟨rfl, rfl, rfl, rfl⟩ := nx_inv hx
      exact ⟨rfl, rfl, rfl⟩
    · cases hx
  case l2i =>
    simp only [xexec] at hx
    split at hx
    · obtain ⟨rfl, rfl, rfl, rfl⟩ := nx_inv hx
      exact ⟨rfl, rfl, rfl⟩
    · cases hx
  case lushr =>
    simp only [xexec] at hx
    split at hx
    · obtain ⟨rfl, rfl, rfl, rfl⟩ := nx_inv hx
      exact ⟨rfl, rfl, rfl⟩
    · cases hx
  case lshl =>
    simp only [xexec] at hx
    split at hx
    · obtain ⟨rfl, rfl, rfl, rfl⟩ := nx_inv hx
      exact ⟨rfl, rfl, rfl⟩
    · cases hx
  case lcmp =>
    simp only [xexec] at hx
    split at hx
    · obtain ⟨rfl, rfl, rfl, rfl⟩ := nx_inv hx
      exact ⟨rfl, rfl, rfl⟩
    · cases hx
  case pop =>
    simp only [xexec] at hx
    split at hx
    · obtain ⟨rfl, rfl, rfl, rfl⟩ := nx_inv hx
      exact ⟨rfl, rfl, rfl⟩
    · cases hx
  case dup2 =>
    simp only [xexec] at hx
    split at hx
    · obtain ⟨rfl, rfl, rfl, rfl⟩ := nx_inv hx
      exact ⟨rfl, rfl, rfl⟩
    · cases hx
  case tableswitch d lo hi offs =>
    simp only [xexec] at hx
    split at hx
    · obtain ⟨rfl, rfl, rfl, rfl⟩ := nx_inv hx
      exact ⟨rfl, rfl, rfl⟩
    · cases hx
  case lookupswitch d ps =>
    simp only [xexec] at hx
    split at hx
    · obtain ⟨rfl, rfl, rfl, rfl⟩ := nx_inv hx
      exact ⟨rfl, rfl, rfl⟩
    · cases hx
  case dup =>
    simp only [xexec] at hx
    split at hx
    · obtain ⟨rfl, rfl, rfl, rfl⟩ := nx_inv hx
      exact ⟨rfl, rfl, rfl⟩
    · obtain ⟨rfl, rfl, rfl, rfl⟩ := nx_inv hx
      exact ⟨rfl, rfl, rfl⟩
    · cases hx
  case if_icmp cd off =>
    simp only [xexec] at hx
    split at hx
    · split at hx
      · obtain ⟨rfl, rfl, rfl, rfl⟩ := nx_inv hx
        exact ⟨rfl, rfl, rfl⟩
      · obtain ⟨rfl, rfl, rfl, rfl⟩ := nx_inv hx
        exact ⟨rfl, rfl, rfl⟩
    · cases hx
  case ifCond cd off =>
    simp only [xexec] at hx
    split at hx
    · split at hx
      · obtain ⟨rfl, rfl, rfl, rfl⟩ := nx_inv hx
        exact ⟨rfl, rfl, rfl⟩
      · obtain ⟨rfl, rfl, rfl, rfl⟩ := nx_inv hx
        exact ⟨rfl, rfl, rfl⟩
    · cases hx
  case getfield i =>
    obtain ⟨ix, r, fd, rfl, h1, rfl, rfl, rfl, rfl⟩ := xgetI hx
    exact ⟨rfl, rfl, rfl⟩
  case putfield i =>
    rcases xputI hx with ⟨x, ix, r, rfl, h1, h2, rfl, rfl, rfl, rfl⟩ | ⟨x, ix, r, rfl, h1, rfl, rfl, rfl, rfl⟩
    · have := (fdOf_lt h1).1
      exact ⟨hset_ne (by rintro h1; cases h1; omega), hset_ne (by rintro h1; cases h1; omega), rfl⟩
    · exact ⟨rfl, rfl, rfl⟩
  case iaload =>
    obtain ⟨i, kd, ix, n, r, rfl, h1, h2, rfl, rfl, rfl, rfl⟩ := xaldI hx
    exact ⟨rfl, rfl, rfl⟩
  case baload =>
    obtain ⟨i, kd, ix, n, r, rfl, h1, h2, rfl, rfl, rfl, rfl⟩ := xzldI hx
    exact ⟨rfl, rfl, rfl⟩
  case aaload =>
    obtain ⟨i, kd, ix, n, r, rfl, h1, h2, rfl, rfl, rfl, rfl⟩ := xqldI hx
    exact ⟨rfl, rfl, rfl⟩
  case iastore =>
    obtain ⟨x, i, kd, ix, n, r, rfl, h1, h2, rfl, rfl, rfl, rfl⟩ := xastI hx
    have := (arr_low h1 (by decide)).2.1
    exact ⟨hset_ne (by rintro h1; cases h1; omega), hset_ne (by rintro h1; cases h1; omega), rfl⟩
  case bastore =>
    obtain ⟨x, i, kd, ix, n, r, rfl, h1, h2, h3, rfl, rfl, rfl, rfl⟩ := xzstI hx
    have := (arr_low h1 (by decide)).2.1
    exact ⟨hset_ne (by rintro h1; cases h1; omega), hset_ne (by rintro h1; cases h1; omega), rfl⟩
  case arraylength =>
    obtain ⟨kd, ix, n, r, rfl, h1, rfl, rfl, rfl, rfl⟩ := xalenI hx
    exact ⟨rfl, rfl, rfl⟩
  case invokestatic i =>
    simp only [xexec] at hx
    split at hx
    · unfold xcall at hx
      obtain ⟨_, h3⟩ := bIf_inv hx
      cases h3
    · split at hx
      · obtain ⟨h4, h5⟩ := bIf_inv hx
        obtain ⟨rfl, rfl, rfl, rfl⟩ := nx_inv h5
        exact ⟨rfl, rfl, rfl⟩
      · cases hx
    · split at hx
      · obtain ⟨h4, h5⟩ := bIf_inv hx
        obtain ⟨rfl, rfl, rfl, rfl⟩ := nx_inv h5
        exact ⟨rfl, rfl, rfl⟩
      · cases hx
    · split at hx
      · obtain ⟨h4, h5⟩ := bIf_inv hx
        obtain ⟨rfl, rfl, rfl, rfl⟩ := nx_inv h5
        exact ⟨rfl, rfl, rfl⟩
      · cases hx
    · split at hx
      · obtain ⟨h4, h5⟩ := bIf_inv hx
        obtain ⟨n, dp, sp, kd, ix, kd0, ix0, n0, n1, r, he, h6, h7, h8, rfl, rfl, rfl, rfl⟩ := xcpyI h5
        have := (arr_low h7 (by decide)).2.1
        exact ⟨hrow_ne (by rintro h1; cases h1; omega), hrow_ne (by rintro h1; cases h1; omega), rfl⟩
      · cases hx
    · cases hx
  case invokevirtual i =>
    simp only [xexec] at hx
    split at hx
    · obtain ⟨_, h3⟩ := bIf_inv hx
      unfold xcall at h3
      obtain ⟨_, h4⟩ := bIf_inv h3
      cases h4
    · cases hx
  case ireturn =>
    simp only [xexec] at hx
    split at hx
    · split at hx
      · cases hx
      · split at hx <;> cases hx
    · cases hx
  case lreturn =>
    simp only [xexec] at hx
    split at hx <;> cases hx
  case areturn =>
    simp only [xexec] at hx
    split at hx <;> cases hx
  case return_ =>
    simp only [xexec] at hx
    split at hx <;> cases hx
  all_goals cases hx
theorem keepN : ∀ (n y pc : Nat) (ls : Lc) (stk : List PV) (σ : Hp) (r : Option PV) (σ' : Hp), prun n y pc ls stk σ = some (r, σ') → keepE σ σ'
  | 0, y, pc, ls, stk, σ, r, σ', h => by cases h
  | n + 1, y, pc, ls, stk, σ, r, σ', h => by
    unfold prun at h
    split at h
    · cases h
    · next e he =>
      split at h
      · cases h
      · next pc' ls' stk' σ1 hx =>
        obtain ⟨q1, q2, q3, q4, q5, q6, q7, q8⟩ := e
        exact (keep1 hx).tr (keepN n _ _ _ _ _ _ _ h)
      · next y' vs rest nxt hx =>
        split at h
        · cases h
        · split at h
          · cases h
          · next r1 σ1 h1 => exact (keepN n _ _ _ _ _ _ _ h1).tr (keepN n _ _ _ _ _ _ _ h)
      · next r1 hx =>
        cases h
        exact keepE.rf σ
end
section
/-! Calls, returns: a run of the small machine is a walk of the real one. -/
theorem wsO_D {ad : Nat → Nat → Nat} {ct : CT} {A : Nat → Prop} {σ : Hp} (σ' : Hp) (h : va_D A (wsO ad ct σ)) : va_D A (wsO ad ct σ') := by
  have key : ∀ (i : Nat) (q : Nat × va_E), (wsO ad ct σ')[i]? = some q → ∃ q' : Nat × va_E, (wsO ad ct σ)[i]? = some q' ∧ q'.1 = q.1 := by
    intro i q hq
    simp only [wsO, List.getElem?_map] at hq ⊢
    cases hr : allR[i]? with
    | none => rw [hr] at hq; cases hq
    | some r =>
      rw [hr] at hq
      cases hq
      exact ⟨_, rfl, rfl⟩
  refine ⟨fun i j p q hi hj hpq => ?_, fun i q hi => ?_⟩
  · obtain ⟨p', h1, h2⟩ := key i p hi
    obtain ⟨q', h3, h4⟩ := key j q hj
    exact h.1 i j p' q' h1 h3 (by rw [h2, h4, hpq])
  · obtain ⟨q', h1, h2⟩ := key i q hi
    rw [← h2]
    exact h.2 i q' h1
theorem wsO_A {ad : Nat → Nat → Nat} {ct : CT} {σ σ' : Hp} {sz q : Nat} (h : va_A (wsO ad ct σ') sz q) : va_A (wsO ad ct σ) sz q := by
  rcases h with ⟨k, e, h⟩ | h
  · simp only [wsO, List.getElem?_map] at h
    cases hr : allR[k]? with
    | none => rw [hr] at h; cases h
    | some r =>
      rw [hr] at h
      cases h
      exact Or.inl ⟨k, cellO ad ct σ r.1 r.2, by simp [wsO, hr]⟩
  · exact Or.inr h
def rmY (y : Nat) : Room := { frames := (mI y).2.2.2.2.1, cells := 0, slots := 0, locals := (mI y).2.2.2.2.2 }
def PcY (D : va_G) (ad : Nat → Nat → Nat) (ct : CT) (σ : Hp) (vs : List PV) (sz : Nat) : Array Value → State → Prop := va_Pc (vs.map (trV ad)) (fun U => U.heap.size = sz ∧ va_P D vwCl (wsO ad ct σ) U.heap ∧ va_K D vwCl (tysO ct) U ∧ va_D (fun _ => True) (wsO ad ct σ) ∧ Ex ad U (va_A (wsO ad ct σ) sz) σ)
def PoY (D : va_G) (ad : Nat → Nat → Nat) (ct : CT) (r : Option PV) (σ' : Hp) (v : Option Value) (t : State) : Prop := v = r.map (trV ad) ∧ va_P D vwCl (wsO ad ct σ') t.heap ∧ va_K D vwCl (tysO ct) t ∧ ∀ x, r = some x → okV x
def QcY (D : va_G) (ad : Nat → Nat → Nat) (ct : CT) (A : Nat → Prop) (r : Option PV) (σ' : Hp) : Array Value → State → Outcome → State → Prop := fun _ st oc t => (∃ v : Option Value, oc = .returned v ∧ PoY D ad ct r σ' v t) ∧ va_F A st t
theorem Ex.moved {ad : Nat → Nat → Nat} {s U : State} {A B : Nat → Prop} {σ : Hp} {H : Heap} (h : Ex ad s A σ) (hvm : s.vm.Alike U.vm) (hU : U.heap = H) (hsz : s.heap.size ≤ H.size) (hk : ∀ q : Nat, q < s.heap.size → ¬ A q → H[q]? = s.heap[q]?) (hAB : ∀ q, B q → A q) : Ex ad U B σ := by
  obtain ⟨h1, h2, h3, h4, h5, h6, h7⟩ := h
  subst hU
  exact ⟨((h1.kept hk).moved hvm).narrow hAB, (h2.kept (hk _ h3 h4)).moved hvm, by omega, fun q => h4 (hAB _ q), (h5.kept (hk _ h6 h7)).moved hvm, by omega, fun q => h7 (hAB _ q)⟩
section SIM
variable {p : Program} {l : Launch} {e : Env} {R : Room} {s : State} {m : MethodId} {args : Array Value} {below : List Frame} {meth : Method} {c : Code} {H : Heap} {locs : List Loc} {cells slots : Nat} {Q : State → Prop}
variable {D : va_G} {ad : Nat → Nat → Nat} {ct : CT} {A : Nat → Prop} {y : Nat} {σ σ' : Hp} {ls ls' : Lc} {stk stk' : List PV} {LS : Array Slot} {pc pc' nxt a b : Nat} {sw : List Nat} {v : Int32} {l0 : Int64}
variable {rest st0 : List Value} {a1 : Array Value} {A0 A1 : Nat → Prop} {H0 : Heap} {mc ms : Nat} {free : Addr → Prop} {LL : Array Slot}
theorem va_callP {post : Option Value → State → Prop} (hr : va_Run p l e R s m args below meth c H locs cells slots mc ms (F0 m pc LL st0) rest (fun st oc t => (∃ v : Option Value, oc = .returned v ∧ post v t) ∧ va_F A1 st t) free) (hS : va_S A0 H0 H locs) (hA : ∀ q, q < H.size → A1 q → A0 q) (hf : ∀ q, free q → A0 q)
    (kk : ∀ (v : Option Value) (t : State) (H1 : Heap) (locs1 : List Loc), t.heap = H1 → s.vm.Alike t.vm → post v t → H.size ≤ H1.size → va_S A0 H0 H1 locs1 → W p l e R s m args below meth c H1 locs1 (cells + mc) (slots + ms) Q (F0 m (pc + 3) LL (v.toList ++ rest))) : W p l e R s m args below meth c H locs cells slots Q (F0 m pc LL st0) := by
  intro T hT X
  obtain ⟨v, st₀, t, T', L, h0, X', hL, e1, e2, ⟨⟨v', hv, hp⟩, hz, hk⟩, st⟩ := hr T hT X
  cases hv
  rw [h0] at hz hk
  obtain ⟨t2, a1, b1⟩ := kk v t T'.heap (locs ++ L) e1.symm (by rw [← e2]; exact X'.warmed.alike) hp (by rw [e1]; exact hz)
    ⟨Nat.le_trans hS.1 (by rw [e1]; exact hz), fun q h1 h2 => by rw [e1, hk q (Nat.lt_of_lt_of_le h1 hS.1) (fun z => h2 (hA q (Nat.lt_of_lt_of_le h1 hS.1) z))]; exact hS.2.1 q h1 h2, fun q hq => by
      rcases List.mem_append.mp hq with h | h
      · exact hS.2.2 q h
      · exact hf _ (hL q h)⟩ T' rfl X'
  exact ⟨t2, st t2 a1, b1⟩
end SIM
end
section
/-! What is known of each method; its entry. -/
theorem vwT_ok : vwT.all (fun q => decide (lw_tbl[q.2.1]? = some (.instanceMethod (mY q.1)) ∧ lw_tbl[q.2.2.1]? = some (.selects (mY q.1).cls (mY q.1) (mY q.1)) ∧ lw_tbl[q.2.2.2.1]? = some (.initialized (mY q.1).cls) ∧ lw_tbl[q.2.2.2.2]? = some (cdW q.1) ∧ (mY q.1).cls = oN (cn q.1).2.1 ∧ (mI q.1).2.2.2.1 = (cn q.1).2.1) && dsc q.1 ((cn q.1).1 - 1)) = true := by
  rw [vwT_eq]
  simp only [List.all_append, vwT_0_ok, vwT_11_ok, vwT_22_ok, vwT_33_ok, vwT_44_ok, vwT_55_ok, vwT_66_ok, vwT_77_ok, vwT_88_ok, vwT_99_ok, vwT_110_ok, vwT_121_ok, Bool.and_self]
theorem csT_sw : csT.all (fun q => swT_.any (fun z => nbeq z.1 q.2.2.1)) = true := by decide +kernel
theorem cvT_vw : cvT.all (fun q => vwT.any (fun z => nbeq z.1 q.2.2.1 && Nat.blt (cn z.1).2.1 7 && Nat.blt 0 (cn z.1).1)) = true := by decide +kernel
theorem own_ok : (List.range 160).all (fun y => decide ((mY y).cls = oN (mI y).2.2.2.1) && plainName (mY y).cls) = true := by decide +kernel
theorem own_at {y : Nat} (h : y < 160) : (mY y).cls = oN (mI y).2.2.2.1 ∧ plainName (mY y).cls = true := by
  have h1 := List.all_eq_true.mp own_ok y (List.mem_range.mpr h)
  simp only [Bool.and_eq_true] at h1
  exact ⟨of_decide_eq_true h1.1, h1.2⟩
theorem st_fact {o i a : Nat} (h : csT.any (fun q => nbeq q.1 o && nbeq q.2.1 i && nbeq q.2.2.1 a) = true) : Cond.static (mY a) ∈ WL ∧ Cond.initialized (mY a).cls ∈ WL ∧ cdW a ∈ WL ∧ dsc a (cn a).1 = true ∧ a < 160 := by
  obtain ⟨q, hq, h1⟩ := List.any_eq_true.mp h
  simp only [Bool.and_eq_true] at h1
  have h2 := List.all_eq_true.mp csT_sw q hq
  obtain ⟨z, hz, h3⟩ := List.any_eq_true.mp h2
  have h4 := List.all_eq_true.mp swT_ok z hz
  simp only [Bool.and_eq_true] at h4
  have e1 := nb h1.2
  have e2 := nb h3
  rw [e1] at e2
  rw [e2] at h4
  obtain ⟨w1, w2, w3⟩ := of_decide_eq_true h4.1
  refine ⟨WL_of w1 rfl, WL_of w2 rfl, WL_of w3 rfl, h4.2, ?_⟩
  have h5 : swT_.all (fun z => Nat.blt z.1 160) = true := by decide +kernel
  have h6 := List.all_eq_true.mp h5 z hz
  rw [e2] at h6
  simpa using h6
theorem vi_fact {o i a : Nat} (h : cvT.any (fun q => nbeq q.1 o && nbeq q.2.1 i && nbeq q.2.2.1 a) = true) : Cond.instanceMethod (mY a) ∈ WL ∧ Cond.selects (mY a).cls (mY a) (mY a) ∈ WL ∧ Cond.initialized (mY a).cls ∈ WL ∧ cdW a ∈ WL ∧ dsc a ((cn a).1 - 1) = true ∧ (mY a).cls = oN (cn a).2.1 ∧ (cn a).2.1 < 7 ∧ 0 < (cn a).1 ∧ a < 160 := by
  obtain ⟨q, hq, h1⟩ := List.any_eq_true.mp h
  simp only [Bool.and_eq_true] at h1
  have h2 := List.all_eq_true.mp cvT_vw q hq
  obtain ⟨z, hz, h3⟩ := List.any_eq_true.mp h2
  have h4 := List.all_eq_true.mp vwT_ok z hz
  simp only [Bool.and_eq_true] at h3 h4
  obtain ⟨⟨h31, h32⟩, h33⟩ := h3
  have e1 := nb h1.2
  have e2 := nb h31
  rw [e1] at e2
  rw [e2] at h4 h32 h33
  obtain ⟨w1, w2, w3, w4, w5, w6⟩ := of_decide_eq_true h4.1
  refine ⟨WL_of w1 rfl, WL_of w2 rfl, WL_of w3 rfl, WL_of w4 rfl, h4.2, w5, by simpa using h32, by simpa using h33, ?_⟩
  have h5 : vwT.all (fun z => Nat.blt z.1 160) = true := by decide +kernel
  have h6 := List.all_eq_true.mp h5 z hz
  rw [e2] at h6
  simpa using h6
theorem lvargs_mem (ad : Nat → Nat → Nat) : ∀ (vs : List PV) (i k : Nat) (v : PV), (entA vs)[k]? = some (some v) → (i + k, trV ad v) ∈ lv_args i (vs.map (trV ad))
  | [], i, k, v, h => by simp [entA] at h
  | .inl x :: vs, i, k, v, h => by
    show _ ∈ (i, trV ad (.inl x)) :: lv_args (if (trV ad (.inl x)).category = 2 then i + 2 else i + 1) (vs.map (trV ad))
    rw [if_neg (by rw [trV_cat]; simp [catP])]
    cases k with
    | zero =>
      simp only [entA, List.getElem?_cons_zero, Option.some.injEq] at h
      rw [← h]
      exact List.mem_cons_self
    | succ k =>
      simp only [entA, List.getElem?_cons_succ] at h
      have := lvargs_mem ad vs (i + 1) k v h
      rw [show i + (k + 1) = i + 1 + k by omega]
      exact List.mem_cons_of_mem _ this
  | .inr (.inr x) :: vs, i, k, v, h => by
    show _ ∈ (i, trV ad (.inr (.inr x))) :: lv_args (if (trV ad (.inr (.inr x))).category = 2 then i + 2 else i + 1) (vs.map (trV ad))
    rw [if_neg (by rw [trV_cat]; simp [catP])]
    cases k with
    | zero =>
      simp only [entA, List.getElem?_cons_zero, Option.some.injEq] at h
      rw [← h]
      exact List.mem_cons_self
    | succ k =>
      simp only [entA, List.getElem?_cons_succ] at h
      have := lvargs_mem ad vs (i + 1) k v h
      rw [show i + (k + 1) = i + 1 + k by omega]
      exact List.mem_cons_of_mem _ this
  | .inr (.inl x) :: vs, i, k, v, h => by
    show _ ∈ (i, trV ad (.inr (.inl x))) :: lv_args (if (trV ad (.inr (.inl x))).category = 2 then i + 2 else i + 1) (vs.map (trV ad))
    rw [if_pos (by rw [trV_cat]; rfl)]
    match k, h with
    | 0, h =>
      simp only [entA, List.getElem?_cons_zero, Option.some.injEq] at h
      rw [← h]
      exact List.mem_cons_self
    | 1, h => simp [entA] at h
    | k + 2, h =>
      simp only [entA, List.getElem?_cons_succ] at h
      have := lvargs_mem ad vs (i + 2) k v h
      rw [show i + (k + 2) = i + 2 + k by omega]
      exact List.mem_cons_of_mem _ this
theorem lgsl_len (ad : Nat → Nat → Nat) : ∀ (vs : List PV), (lg_sl (vs.map (trV ad))).length = (entA vs).length
  | [] => rfl
  | .inl x :: vs => by
    have := lgsl_len ad vs
    simp only [lg_sl, List.map_cons, List.flatMap_cons, List.length_append, entA, List.length_cons] at this ⊢
    rw [this, if_neg (by rw [trV_cat]; simp [catP])]
    simp
    omega
  | .inr (.inr x) :: vs => by
    have := lgsl_len ad vs
    simp only [lg_sl, List.map_cons, List.flatMap_cons, List.length_append, entA, List.length_cons] at this ⊢
    rw [this, if_neg (by rw [trV_cat]; simp [catP])]
    simp
    omega
  | .inr (.inl x) :: vs => by
    have := lgsl_len ad vs
    simp only [lg_sl, List.map_cons, List.flatMap_cons, List.length_append, entA, List.length_cons] at this ⊢
    rw [this, if_pos (by rw [trV_cat]; rfl)]
    simp
    omega
theorem entA_ok : ∀ (vs : List PV), okS vs → okL (entA vs)
  | [], _ => by intro k v h; simp [entA] at h
  | .inl x :: vs, h => by
    intro k v hk
    cases k with
    | zero => simp only [entA, List.getElem?_cons_zero, Option.some.injEq] at hk; rw [← hk]; trivial
    | succ k => exact entA_ok vs h.tl k v (by simpa [entA] using hk)
  | .inr (.inr x) :: vs, h => by
    intro k v hk
    cases k with
    | zero => simp only [entA, List.getElem?_cons_zero, Option.some.injEq] at hk; rw [← hk]; exact h.hd
    | succ k => exact entA_ok vs h.tl k v (by simpa [entA] using hk)
  | .inr (.inl x) :: vs, h => by
    intro k v hk
    match k, hk with
    | 0, hk => simp only [entA, List.getElem?_cons_zero, Option.some.injEq] at hk; rw [← hk]; trivial
    | 1, hk => simp [entA] at hk
    | k + 2, hk => exact entA_ok vs h.tl k v (by simpa [entA] using hk)
theorem ent_at {y k : Nat} {vs : List PV} {v : PV} (h : (ent y vs)[k]? = some (some v)) : (entA vs)[k]? = some (some v) := by
  unfold ent at h
  rw [List.getElem?_append] at h
  split at h
  · exact h
  · rw [List.getElem?_replicate] at h
    split at h <;> cases h
theorem ent_ok {y : Nat} {vs : List PV} (h : okS vs) : okL (ent y vs) := fun k v hk => entA_ok vs h k v (ent_at hk)
theorem ent_len {y : Nat} {vs : List PV} (h : (entA vs).length ≤ (mI y).2.1) : (ent y vs).length = (mI y).2.1 := by
  unfold ent
  simp
  omega
/-- how a method's return looks -/
def RetOK (y : Nat) (r : Option PV) (pcr : Nat) : Prop := match r with
  | some (.inl x) => decode (mI y).1 pcr = .ok (.ireturn, 1) ∧ ((mI y).2.2.1 = some .int ∨ ((mI y).2.2.1 = some .boolean ∧ zOk x))
  | some (.inr (.inl _)) => decode (mI y).1 pcr = .ok (.lreturn, 1) ∧ (mI y).2.2.1 = some .long
  | some (.inr (.inr _)) => decode (mI y).1 pcr = .ok (.areturn, 1) ∧ (mI y).2.2.1 = some (.object "ThreeGaps$Items")
  | none => decode (mI y).1 pcr = .ok (.return_, 1) ∧ (mI y).2.2.1 = none
set_option maxHeartbeats 4000000 in
theorem ret_inv {y pc nxt a b : Nat} {I : Jvm.ClassFile.Instr} {σ : Hp} {ls : Lc} {stk : List PV} {sw : List Nat} {v : Int32} {l0 : Int64} {r : Option PV} (hc : chkD (mI y).1 y (pc, I, nxt, a, b, sw, v, l0) = true) (hx : xexec cn y (pc, I, nxt, a, b, sw, v, l0) ls stk σ = some (.inr (.inr r))) : RetOK y r pc ∧ stk = r.toList := by
  simp only [chkD, Bool.and_eq_true] at hc
  obtain ⟨hd0, hn0, hk⟩ := hc
  have hd := of_decide_eq_true hd0
  clear hd0 hn0
  cases I
  case ireturn =>
    simp only [xexec] at hx
    simp only [chk] at hk
    split at hx
    · next x =>
      cases hb : (cn y).2.2 with
      | false =>
        rw [hb] at hx hk
        cases hx
        exact ⟨⟨hd, Or.inl (of_decide_eq_true hk)⟩, rfl⟩
      | true =>
        rw [hb] at hx hk
        simp only at hx
        split at hx
        · next hz =>
          cases hx
          exact ⟨⟨hd, Or.inr ⟨of_decide_eq_true hk, hz⟩⟩, rfl⟩
        · cases hx
    · cases hx
  case lreturn =>
    simp only [xexec] at hx
    split at hx
    · cases hx
      exact ⟨⟨hd, of_decide_eq_true hk⟩, rfl⟩
    · cases hx
  case areturn =>
    simp only [xexec] at hx
    split at hx
    · cases hx
      exact ⟨⟨hd, of_decide_eq_true hk⟩, rfl⟩
    · cases hx
  case return_ =>
    simp only [xexec] at hx
    split at hx
    · cases hx
      exact ⟨⟨hd, of_decide_eq_true hk⟩, rfl⟩
    · cases hx
  all_goals exfalso
  all_goals first
    | (cases hx; done)
    | (simp only [xexec, xload, xstore, xii, xll, xdiv, xldiv, xget, xput, xald, xzld, xqld, xast, xzst, xalen, xcpy, xcall, nx, bIf] at hx
       repeat' (split at hx)
       all_goals (first | (cases hx; done) | (simp at hx; done) | contradiction))
theorem xcall_inv {nxt a n y' nxt' : Nat} {stk vs rest : List PV} (h : xcall nxt a n stk = some (.inr (.inl (y', vs, rest, nxt')))) : y' = a ∧ nxt' = nxt ∧ stk = vs.reverse ++ rest ∧ vs.length = n ∧ wds rest ≤ 8 := by
  unfold xcall at h
  obtain ⟨h1, h2⟩ := bIf_inv h
  simp only [Bool.and_eq_true] at h1
  have h3 := Nat.le_of_ble_eq_true h1.1
  have h4 := Nat.le_of_ble_eq_true h1.2
  cases h2
  exact ⟨rfl, rfl, by simp, by simp; omega, h4⟩
set_option maxHeartbeats 4000000 in
theorem call_inv {y pc nxt a b : Nat} {I : Jvm.ClassFile.Instr} {σ : Hp} {ls : Lc} {stk : List PV} {sw : List Nat} {v : Int32} {l0 : Int64} {y' nxt' : Nat} {vs rest : List PV} (hx : xexec cn y (pc, I, nxt, a, b, sw, v, l0) ls stk σ = some (.inr (.inl (y', vs, rest, nxt')))) :
    (y' = a ∧ nxt' = nxt ∧ stk = vs.reverse ++ rest ∧ vs.length = (cn a).1 ∧ wds rest ≤ 8) ∧ ((∃ i, I = .invokestatic i ∧ b = 0) ∨ (∃ i kd ix tl, I = .invokevirtual i ∧ stk.drop ((cn a).1 - 1) = .inr (.inr (kd, ix)) :: tl ∧ kd = (cn a).2.1)) := by
  cases I
  case invokestatic i =>
    simp only [xexec] at hx
    split at hx
    · exact ⟨xcall_inv hx, Or.inl ⟨i, rfl, rfl⟩⟩
    all_goals exfalso
    all_goals (try simp only [xcpy, nx, bIf] at hx)
    all_goals (repeat' (split at hx))
    all_goals (first | (cases hx; done) | (simp at hx; done) | contradiction)
  case invokevirtual i =>
    simp only [xexec] at hx
    split at hx
    · next kd ix tl hdr =>
      obtain ⟨h1, h2⟩ := bIf_inv hx
      exact ⟨xcall_inv h2, Or.inr ⟨i, kd, ix, tl, rfl, hdr, Nat.eq_of_beq_eq_true h1⟩⟩
    · cases hx
  all_goals exfalso
  all_goals first
    | (cases hx; done)
    | (simp only [xexec, xload, xstore, xii, xll, xdiv, xldiv, xget, xput, xald, xzld, xqld, xast, xzst, xalen, xcpy, xcall, nx, bIf] at hx
       repeat' (split at hx)
       all_goals (first | (cases hx; done) | (simp at hx; done) | contradiction))
end
section
/-! The whole run. -/
theorem gd_mem {big : List Cond} {w : Cond} (hb : ∀ w ∈ WL, w ∈ big) (h : w ∈ WL) : w ∈ big ∧ ((w.onTables && w.keeps) = true ∨ ∃ ty, w = .arrayClass ty) := ⟨hb w h, good_of_word (List.mem_filter.mp h).2⟩
theorem gd_cd {big : List Cond} (hb : ∀ w ∈ WL, w ∈ big) {y : Nat} (h : cdW y ∈ WL) : GoodIn big (cdW y :: WL) := by
  intro w hw
  rcases List.mem_cons.mp hw with h1 | h1
  · rw [h1]
    exact gd_mem hb h
  · exact gd_mem hb h1
theorem PcY_blind {D : va_G} {ad : Nat → Nat → Nat} {ct : CT} {σ : Hp} {vs : List PV} {sz : Nat} : FrameBlind (PcY D ad ct σ vs sz) := by
  intro a U g mk q
  obtain ⟨q0, q1, qP, qK, qD, e1, e2, e3, e4, e5, e6, e7⟩ := q
  exact ⟨q0, q1, qP, va_K.moved (u := U) (U := U.calling g mk a) (Vm.Alike.refl U.vm) qK, qD, e1.moved (u := U) (U := U.calling g mk a) (Vm.Alike.refl U.vm), e2.moved (u := U) (U := U.calling g mk a) (Vm.Alike.refl U.vm), e3, e4, e5.moved (u := U) (U := U.calling g mk a) (Vm.Alike.refl U.vm), e6, e7⟩
/-- n steps: whatever the frame, from a run of the small machine the real one comes to the return -/
def SimAt (n : Nat) : Prop := ∀ (y pc : Nat) (ls : Lc) (stk : List PV) (σ : Hp) (r : Option PV) (σ' : Hp), prun n y pc ls stk σ = some (r, σ') →
  ∀ (p : Program) (l : Launch) (e : Env) (R : Room) (s : State) (m : MethodId) (args : Array Value) (below : List Frame) (meth : Method) (c : Code) (H : Heap) (locs : List Loc) (cells slots : Nat) (Q : State → Prop) (D : va_G) (ad : Nat → Nat → Nat) (ct : CT) (A : Nat → Prop) (LS : Array Slot),
  Cx D ct y p s m args c → ((mI y).2.2.2.2.1 ≤ R.frames ∧ (mI y).2.2.2.2.2 ≤ R.locals ∧ cells ≤ R.cells ∧ slots ≤ R.slots) → (∀ q, s.heap.size ≤ q → A q) → Wd D ad ct s A σ H locs → Lr ad (mI y).2.1 LS ls → okS stk → okL ls →
  (∀ (H' : Heap) (locs' : List Loc) (LS' : Array Slot) (pcr : Nat), RetOK y r pcr → (∀ v, r = some v → okV v) → Wd D ad ct s A σ' H' locs' → W p l e R s m args below meth c H' locs' cells slots Q (F0 m pcr LS' (r.toList.map (trV ad)))) →
  W p l e R s m args below meth c H locs cells slots Q (F0 m pc LS (stk.map (trV ad)))
theorem met_of {n : Nat} (hS : SimAt n) {y : Nat} {vs : List PV} {σ σ' : Hp} {r : Option PV} (hrun : prun n y 0 (ent y vs) [] σ = some (r, σ')) (hv : okS vs) (hlen : (entA vs).length ≤ (mI y).2.1) (hy : y < 160) (l : Launch) (D : va_G) (ad : Nat → Nat → Nat) (ct : CT) (sz : Nat) :
    Met l (mY y) (cdW y :: WL) (rmY y) (PcY D ad ct σ vs sz) (QcY D ad ct (va_A (wsO ad ct σ) sz) r σ') 0 0 (va_A (wsO ad ct σ) sz) := by
  refine Met.ofW (cc := (mI y).1) (maxL := (mI y).2.1) (ret := (mI y).2.2.1) (own_at hy).2 rfl ?_
  intro p e s m args below meth c s₁ B hml hpc
  obtain ⟨rfl, hsz, hP, hK, hD0, hEx⟩ := hpc
  have hts := atoms_spec (ws := cdW y :: WL) B.pre
  have hown : s.vm.findClass (mY y).cls = some m.cls := findClass_of_methodNamed B.named
  have hlocks := B.notSynchronized
  rw [(own_at hy).1] at hown
  subst hsz
  have hC : Cx D ct y p s m (vs.map (trV ad)).toArray c := ⟨B.exec, B.bytes, hml, hown, fun w hw => hts w (List.mem_cons_of_mem _ hw), hK⟩
  have hD := hD0.self (sz := s.heap.size)
  have hl := lv_entry (vs.map (trV ad)) (n := (mI y).2.1) (by rw [lgsl_len]; exact hlen)
  rw [lg_entry_eq]
  generalize (lg_sl (vs.map (trV ad)) ++ List.replicate ((mI y).2.1 - (lg_sl (vs.map (trV ad))).length) Slot.unset).toArray = LS at hl ⊢
  refine hS y 0 (ent y vs) [] σ r σ' hrun p l e _ s m _ below meth c s.heap [] 0 0 _ D ad ct (va_A (wsO ad ct σ) s.heap.size) LS hC ⟨Nat.le_refl _, Nat.le_refl _, Nat.zero_le _, Nat.zero_le _⟩ (fun q h => Or.inr h) ⟨hP, hD, va_S.rf, hEx⟩ ⟨⟨hl.1, ent_len hlen⟩, hl.2.1, fun k v hk => ?_⟩ (fun v h => by cases h) (ent_ok hv) ?_
  · have := lvargs_mem ad vs 0 k v (ent_at hk)
    rw [Nat.zero_add] at this
    exact hl.2.2 _ this
  · intro H' locs' LS' pcr hret hrv hw
    have hq : ∀ t : State, t.heap = H' → s.WarmedH t.vm → ∀ v : Option Value, v = r.map (trV ad) → QcY D ad ct (va_A (wsO ad ct σ) s.heap.size) r σ' (vs.map (trV ad)).toArray s (.returned v) t := by
      intro t ht hW v hv
      exact ⟨⟨v, rfl, hv, by rw [ht]; exact hw.1, va_K.moved hW.alike hK, hrv⟩, hw.2.2.1.F ht⟩
    match r, hret, hq with
    | some (.inl x), hret, hq =>
      rcases hret.2 with h1 | ⟨h1, h2⟩
      · exact W.iret B.exec B.bytes (B.returns.trans h1) (fun t ht hW => hq t ht hW _ rfl) hw.2.2.1.2.2 hret.1
      · exact W.zret B.exec B.bytes (B.returns.trans h1) (narZ h2).1 (fun t ht hW => hq t ht hW _ rfl) hw.2.2.1.2.2 hret.1
    | some (.inr (.inl x)), hret, hq => exact W.lret B.exec B.bytes (B.returns.trans hret.2) (fun t ht hW => hq t ht hW _ rfl) hw.2.2.1.2.2 hret.1
    | some (.inr (.inr (x1, x2))), hret, hq => exact W.aret B.exec B.bytes (B.returns.trans hret.2) (Or.inl ⟨_, rfl⟩) (Or.inr ⟨_, rfl⟩) (fun t ht hW => hq t ht hW _ rfl) hw.2.2.1.2.2 hret.1
    | none, hret, hq => exact W.vret B.exec B.bytes (B.returns.trans hret.2) (fun t ht hW => hq t ht hW _ rfl) hw.2.2.1.2.2 hret.1
end
section
section SIM
variable {p : Program} {l : Launch} {e : Env} {R : Room} {s : State} {m : MethodId} {args : Array Value} {below : List Frame} {meth : Method} {c : Code} {H : Heap} {locs : List Loc} {cells slots : Nat} {Q : State → Prop}
variable {D : va_G} {ad : Nat → Nat → Nat} {ct : CT} {A : Nat → Prop} {y : Nat} {σ σ' σ1 : Hp} {ls ls' : Lc} {stk stk' : List PV} {LS : Array Slot} {pc pc' nxt a b : Nat} {sw : List Nat} {v : Int32} {l0 : Int64} {vs rest : List PV} {r1 : Option PV}
theorem va_A_sub (hA : ∀ q, s.heap.size ≤ q → A q) (hw : Wd D ad ct s A σ H locs) : ∀ q, va_A (wsO ad ct σ) H.size q → A q := by
  intro q hq
  rcases hq with ⟨k, e, h⟩ | h
  · exact hw.2.1.2 k (q, e) h
  · exact hA q (Nat.le_trans hw.2.2.1.1 h)
theorem PcY_pre (C : Cx D ct y p s m args c) (hA : ∀ q, s.heap.size ≤ q → A q) (hw : Wd D ad ct s A σ H locs) : ∀ U : State, U.heap = H → s.WarmedH U.vm → PcY D ad ct σ vs H.size (vs.map (trV ad)).toArray U := by
  intro U hU hW
  refine ⟨rfl, by rw [hU], by rw [hU]; exact hw.1, va_K.moved hW.alike C.2.2.2.2.2, hw.2.1.weaken (fun _ _ _ _ => trivial), ?_⟩
  exact hw.2.2.2.moved hW.alike hU hw.2.2.1.1 hw.2.2.1.2.1 (va_A_sub hA hw)
theorem after_call (C : Cx D ct y p s m args c) (hw : Wd D ad ct s A σ H locs) (hl : Lr ad (mI y).2.1 LS ls) (hs : okS (vs.reverse ++ rest)) (ho : okL ls) (hkeep : keepE σ σ1)
    (k : KN p l e R s m args below meth c cells slots Q D ad ct A y (pc + 3) ls (r1.toList ++ rest) σ1)
    {v : Option Value} {t : State} {H1 : Heap} {locs1 : List Loc} (ht : t.heap = H1) (hp : PoY D ad ct r1 σ1 v t) (hS1 : va_S A s.heap H1 locs1) :
    W p l e R s m args below meth c H1 locs1 (cells + 0) (slots + 0) Q (F0 m (pc + 3) LS (v.toList ++ rest.map (trV ad))) := by
  obtain ⟨rfl, hP, hK, hr⟩ := hp
  have hk := k H1 locs1 LS ⟨by rw [← ht]; exact hP, wsO_D σ1 hw.2.1, hS1, hw.2.2.2.congr hkeep.1 hkeep.2.1 hkeep.2.2⟩ hl (fun x hx => by
    rcases List.mem_append.mp hx with h | h
    · exact hr x (by cases r1 with
        | none => cases h
        | some z => simp at h; rw [h])
    · exact hs x (List.mem_append_right _ h)) ho
  rw [List.map_append] at hk
  have e1 : (r1.map (trV ad)).toList = r1.toList.map (trV ad) := by cases r1 <;> rfl
  rw [e1]
  exact hk
theorem okS_rev (hs : okS (vs.reverse ++ rest)) : okS vs := fun x hx => hs x (List.mem_append_left _ (List.mem_reverse.mpr hx))
theorem s_callS {n a idx : Nat} (hSim : SimAt n) (C : Cx D ct y p s m args c) (hR : (mI y).2.2.2.2.1 ≤ R.frames ∧ (mI y).2.2.2.2.2 ≤ R.locals ∧ cells ≤ R.cells ∧ slots ≤ R.slots) (hA : ∀ q, s.heap.size ≤ q → A q) (hw : Wd D ad ct s A σ H locs) (hl : Lr ad (mI y).2.1 LS ls) (hs : okS (vs.reverse ++ rest)) (ho : okL ls)
    (hcs : csT.any (fun q => nbeq q.1 (mI y).2.2.2.1 && nbeq q.2.1 idx && nbeq q.2.2.1 a) = true) (hf1 : (mI a).2.2.2.2.1 + 1 ≤ (mI y).2.2.2.2.1) (hf2 : 8 + ((mI a).2.1 + 11) + (mI a).2.2.2.2.2 ≤ (mI y).2.2.2.2.2) (hvs : vs.length = (cn a).1) (hwd : wds rest ≤ 8) (hlen : (entA vs).length ≤ (mI a).2.1)
    (hrun : prun n a 0 (ent a vs) [] σ = some (r1, σ1)) (hdg : decode (mI y).1 pc = .ok (.invokestatic idx, 3))
    (k : KN p l e R s m args below meth c cells slots Q D ad ct A y (pc + 3) ls (r1.toList ++ rest) σ1) : W p l e R s m args below meth c H locs cells slots Q (F0 m pc LS ((vs.reverse ++ rest).map (trV ad))) := by
  obtain ⟨w1, w2, w3, w4, w5⟩ := st_fact hcs
  have w4 := of_decide_eq_true w4
  obtain ⟨hx, hb, hml, hown, hts, hK⟩ := id C
  have hM := met_of hSim hrun (okS_rev hs) hlen w5 l D ad ct H.size
  have hFc := va_A_sub hA hw
  have hstack : (F0 m pc LS ((vs.reverse ++ rest).map (trV ad))).stack = (vs.map (trV ad)).reverse ++ rest.map (trV ad) := by
    show (vs.reverse ++ rest).map (trV ad) = _
    rw [List.map_append, List.map_reverse]
  refine va_callP (post := PoY D ad ct r1 σ1) (A1 := va_A (wsO ad ct σ) H.size) (va_runS (As := vs.map (trV ad)) (rest := rest.map (trV ad)) ⟨hx, hb, hml, hown, hts⟩ hM (va_cwS (cn a).1 hts (goodIn_app (fun w hw' => ?_) (gd_cd (fun _ h => h) w3)) rfl rfl rfl ⟨w4.1, w4.2.1, w4.2.2.1⟩ ⟨by show (mI a).2.2.2.2.1 + 1 ≤ R.frames; omega, by show 8 + ((mI a).2.1 + 11) + (mI a).2.2.2.2.2 ≤ R.locals; omega⟩) ⟨PcY_blind, PcY_pre C hA hw⟩ rfl (by rw [List.length_map]; exact hvs) hl.1.1 hstack (lv_room (by rw [wds_map]; exact hwd)) hdg ⟨by omega, by omega⟩) hw.2.2.1 (fun q _ h => hFc q h) hFc (fun v t H1 locs1 ht hvm hp hz hS1 => ?_)
  · simp only [List.mem_cons, List.not_mem_nil, or_false] at hw'
    rcases hw' with rfl | rfl | rfl
    · exact gd_mem (fun _ h => h) (w_cs hcs)
    · exact gd_mem (fun _ h => h) w1
    · exact gd_mem (fun _ h => h) w2
  · exact after_call C hw hl hs ho (keepN n _ _ _ _ _ _ _ hrun) k ht hp hS1
theorem s_callV {n a idx kd ix : Nat} {tl : List PV} (hSim : SimAt n) (C : Cx D ct y p s m args c) (hR : (mI y).2.2.2.2.1 ≤ R.frames ∧ (mI y).2.2.2.2.2 ≤ R.locals ∧ cells ≤ R.cells ∧ slots ≤ R.slots) (hA : ∀ q, s.heap.size ≤ q → A q) (hw : Wd D ad ct s A σ H locs) (hl : Lr ad (mI y).2.1 LS ls) (hs : okS (vs.reverse ++ rest)) (ho : okL ls)
    (hcs : cvT.any (fun q => nbeq q.1 (mI y).2.2.2.1 && nbeq q.2.1 idx && nbeq q.2.2.1 a) = true) (hf1 : (mI a).2.2.2.2.1 + 1 ≤ (mI y).2.2.2.2.1) (hf2 : 8 + ((mI a).2.1 + 11) + (mI a).2.2.2.2.2 ≤ (mI y).2.2.2.2.2) (hvs : vs.length = (cn a).1) (hwd : wds rest ≤ 8) (hlen : (entA vs).length ≤ (mI a).2.1) (hrec : (vs.reverse ++ rest).drop ((cn a).1 - 1) = .inr (.inr (kd, ix)) :: tl) (hkd : kd = (cn a).2.1)
    (hrun : prun n a 0 (ent a vs) [] σ = some (r1, σ1)) (hdg : decode (mI y).1 pc = .ok (.invokevirtual idx, 3))
    (k : KN p l e R s m args below meth c cells slots Q D ad ct A y (pc + 3) ls (r1.toList ++ rest) σ1) : W p l e R s m args below meth c H locs cells slots Q (F0 m pc LS ((vs.reverse ++ rest).map (trV ad))) := by
  obtain ⟨w1, w2, w3, w4, w5, w6, w7, w8, w9⟩ := vi_fact hcs
  have w5 := of_decide_eq_true w5
  obtain ⟨hx, hb, hml, hown, hts, hK⟩ := id C
  obtain ⟨v0, vt, rfl⟩ : ∃ v0 vt, vs = v0 :: vt := by
    cases vs with
    | nil => simp at hvs; omega
    | cons v0 vt => exact ⟨v0, vt, rfl⟩
  have hv0 : v0 = .inr (.inr (kd, ix)) := by
    have h1 : (cn a).1 - 1 = vt.reverse.length := by simp at hvs ⊢; omega
    rw [h1, List.reverse_cons, List.append_assoc, List.drop_left] at hrec
    simp only [List.cons_append, List.nil_append, List.cons.injEq] at hrec
    exact hrec.1
  subst hv0
  have hM := met_of hSim hrun (okS_rev hs) hlen w9 l D ad ct H.size
  have hFc := va_A_sub hA hw
  have hin : (kd, ix) ∈ allR := okR_low (by show kd < 31; omega) (hs (.inr (.inr (kd, ix))) (by simp))
  obtain ⟨q0, hq, hat⟩ := wsO_at ad ct hin
  have hcell : cellO ad ct σ kd ix = .inr (kd, (List.range (ftab.getD kd []).length).map (fval ad σ kd ix)) := by
    unfold cellO
    rw [arr_obj (by omega)]
  have he := hat σ
  rw [hcell] at he
  obtain ⟨N, ty, c1, -⟩ := cls_ok kd (by omega)
  have hcls : (mY a).cls = oN kd := by rw [w6, hkd]
  have hstack : (F0 m pc LS (((.inr (.inr (kd, ix)) :: vt).reverse ++ rest).map (trV ad))).stack = (vt.map (trV ad)).reverse ++ .ref (ad kd ix) :: rest.map (trV ad) := by
    show ((.inr (.inr (kd, ix)) :: vt).reverse ++ rest).map (trV ad) = _
    rw [List.map_append, List.reverse_cons, List.map_append, List.map_reverse, List.append_assoc]
    rfl
  have hrv := va_recv hK hw.1 c1 he
  rw [show ((oN kd, tN kd, N) : vw_C).1 = (mY a).cls from hcls.symm] at hrv
  refine va_callP (post := PoY D ad ct r1 σ1) (A1 := va_A (wsO ad ct σ) H.size) (va_runV (As := vt.map (trV ad)) (rest := rest.map (trV ad)) (b := ad kd ix) (C := (mY a).cls) ⟨hx, hb, hml, hown, hts⟩ hM (cwV ((cn a).1 - 1) hts (goodIn_app (fun w hw' => ?_) (gd_cd (fun _ h => h) w4)) rfl rfl rfl ⟨rfl, w5.1, w5.2.1, w5.2.2.1⟩ ⟨by show (mI a).2.2.2.2.1 + 1 ≤ R.frames; omega, by show 8 + ((mI a).2.1 + 11) + (mI a).2.2.2.2.2 ≤ R.locals; omega⟩) ⟨PcY_blind, hrv, PcY_pre C hA hw⟩ rfl (by rw [List.length_map]; simp at hvs; omega) hl.1.1 hstack (lv_room (by rw [wds_map]; exact hwd)) hdg ⟨by omega, by omega⟩) hw.2.2.1 (fun q _ h => hFc q h) hFc (fun v t H1 locs1 ht hvm hp hz hS1 => ?_)
  · simp only [List.mem_cons, List.not_mem_nil, or_false] at hw'
    rcases hw' with rfl | rfl | rfl | rfl
    · exact gd_mem (fun _ h => h) (w_cv hcs)
    · exact gd_mem (fun _ h => h) w1
    · exact gd_mem (fun _ h => h) w2
    · exact gd_mem (fun _ h => h) w3
  · exact after_call C hw hl hs ho (keepN n _ _ _ _ _ _ _ hrun) k ht hp hS1
end SIM
theorem fetch_inv {y pc : Nat} {e : En} (h : fetch y pc = some e) : e ∈ prog y ∧ e.1 = pc := by
  unfold fetch at h
  have h1 := List.find?_some h
  exact ⟨List.mem_of_find?_eq_some h, Nat.eq_of_beq_eq_true h1⟩
theorem simAll : ∀ n, SimAt n
  | 0 => by intro y pc ls stk σ r σ' h; cases h
  | n + 1 => by
    have ih := simAll n
    intro y pc ls stk σ r σ' h p l e R s m args below meth c H locs cells slots Q D ad ct A LS C hR hA hw hl hs ho kret
    unfold prun at h
    split at h
    · cases h
    · next en he =>
      obtain ⟨hmem, hpc⟩ := fetch_inv he
      have hchk := prog_ok y en hmem
      obtain ⟨pc0, I, nxt, a, b, sw, v, l0⟩ := en
      have hpc : pc0 = pc := hpc
      subst hpc
      split at h
      · cases h
      · next pc' ls' stk' σ1 hx =>
        refine sim1 hchk C hR hw hl hs ho hx (fun H' locs' LS' hw' hl' hs' ho' => ?_)
        exact ih y pc' ls' stk' σ1 r σ' h p l e R s m args below meth c H' locs' cells slots Q D ad ct A LS' C hR hA hw' hl' hs' ho' kret
      · next y' vs rest nxt' hx =>
        split at h
        · cases h
        · next hble =>
          have hlen := Nat.le_of_ble_eq_true hble
          split at h
          · cases h
          · next r1 σ1 hrun =>
            obtain ⟨⟨rfl, rfl, rfl, hvs, hwd⟩, hkind⟩ := call_inv hx
            have hk : KN p l e R s m args below meth c cells slots Q D ad ct A y nxt' ls (r1.toList ++ rest) σ1 := fun H' locs' LS' hw' hl' hs' ho' => ih y nxt' ls (r1.toList ++ rest) σ1 r σ' h p l e R s m args below meth c H' locs' cells slots Q D ad ct A LS' C hR hA hw' hl' hs' ho' kret
            simp only [chkD, Bool.and_eq_true] at hchk
            obtain ⟨hd0, hn0, hkk⟩ := hchk
            have hd := of_decide_eq_true hd0
            have hn := nb hn0
            rcases hkind with ⟨i, rfl, rfl⟩ | ⟨i, kd, ix, tl, rfl, hdr, hkd⟩
            · have hn : nxt' = pc0 + 3 := hn
              subst hn
              simp only [chk, Bool.and_eq_true] at hkk
              exact s_callS ih C hR hA hw hl hs ho (by simpa only [Bool.and_eq_true] using hkk.1.1) (Nat.le_of_ble_eq_true hkk.1.2) (Nat.le_of_ble_eq_true hkk.2) hvs hwd hlen hrun hd hk
            · have hn : nxt' = pc0 + 3 := hn
              subst hn
              simp only [chk, Bool.and_eq_true] at hkk
              exact s_callV ih C hR hA hw hl hs ho (by simpa only [Bool.and_eq_true] using hkk.1.1) (Nat.le_of_ble_eq_true hkk.1.2) (Nat.le_of_ble_eq_true hkk.2) hvs hwd hlen hdr hkd hrun hd hk
      · next r0 hx =>
        cases h
        obtain ⟨h1, h2⟩ := ret_inv hchk hx
        subst h2
        exact kret H locs LS pc0 h1 (fun v hv => hs v (by rw [hv]; exact List.mem_cons_self)) hw
end
section
/-! Rules for runs of the small machine. -/
theorem prun_mono : ∀ (n y pc : Nat) (ls : Lc) (stk : List PV) (σ : Hp) (x : Option PV × Hp), prun n y pc ls stk σ = some x → prun (n + 1) y pc ls stk σ = some x
  | 0, y, pc, ls, stk, σ, x, h => by cases h
  | n + 1, y, pc, ls, stk, σ, x, h => by
    have ih := prun_mono n
    unfold prun at h ⊢
    split at h
    · cases h
    · next e he =>
      split at h
      · cases h
      · next pc' ls' stk' σ1 hx => exact ih _ _ _ _ _ _ h
      · next y' vs rest nxt hx =>
        split at h
        · cases h
        · next hb =>
          split at h
          · cases h
          · next r1 σ1 h1 =>
            rw [ih _ _ _ _ _ _ h1]
            exact ih _ _ _ _ _ _ h
      · next r1 hx => exact h
theorem prun_le {n m y pc : Nat} {ls : Lc} {stk : List PV} {σ : Hp} {x : Option PV × Hp} (h : prun n y pc ls stk σ = some x) (hnm : n ≤ m) : prun m y pc ls stk σ = some x := by
  induction hnm with
  | refl => exact h
  | step _ ih => exact prun_mono _ _ _ _ _ _ _ ih
/-- from here it comes to a return with Q -/
def RR (y pc : Nat) (ls : Lc) (stk : List PV) (σ : Hp) (Q : Option PV → Hp → Prop) : Prop := ∃ (n : Nat) (r : Option PV) (σ' : Hp), prun n y pc ls stk σ = some (r, σ') ∧ Q r σ'
/-- a method, called with these values -/
def Ev (y : Nat) (vs : List PV) (σ : Hp) (Q : Option PV → Hp → Prop) : Prop := RR y 0 (ent y vs) [] σ Q
section RU
variable {y pc pc' nxt : Nat} {ls ls' : Lc} {stk stk' r : List PV} {σ σ' : Hp} {Q Q' : Option PV → Hp → Prop} {e : En}
theorem RR.mono (h : RR y pc ls stk σ Q) (hq : ∀ r σ', Q r σ' → Q' r σ') : RR y pc ls stk σ Q' := by
  obtain ⟨n, r, σ', h1, h2⟩ := h
  exact ⟨n, r, σ', h1, hq _ _ h2⟩
theorem RR_step (hf : fetch y pc = some e) (hx : xexec cn y e ls stk σ = some (.inl (pc', ls', stk', σ'))) (k : RR y pc' ls' stk' σ' Q) : RR y pc ls stk σ Q := by
  obtain ⟨n, r, s', h, hq⟩ := k
  refine ⟨n + 1, r, s', ?_, hq⟩
  unfold prun
  rw [hf]
  simp only [hx]
  exact h
theorem RR_ret0 {rv : Option PV} (hf : fetch y pc = some e) (hx : xexec cn y e ls stk σ = some (.inr (.inr rv))) (k : Q rv σ) : RR y pc ls stk σ Q := by
  refine ⟨1, rv, σ, ?_, k⟩
  unfold prun
  rw [hf]
  simp only [hx]
theorem RR_call0 {y' : Nat} {vs rest : List PV} (hf : fetch y pc = some e) (hx : xexec cn y e ls stk σ = some (.inr (.inl (y', vs, rest, nxt)))) (hb : Nat.ble (entA vs).length (mI y').2.1 = true) (hc : Ev y' vs σ Q') (k : ∀ r1 σ1, Q' r1 σ1 → RR y nxt ls (r1.toList ++ rest) σ1 Q) : RR y pc ls stk σ Q := by
  obtain ⟨n1, r1, s1, h1, hq1⟩ := hc
  obtain ⟨n2, r2, s2, h2, hq2⟩ := k r1 s1 hq1
  refine ⟨max n1 n2 + 1, r2, s2, ?_, hq2⟩
  unfold prun
  rw [hf]
  simp only [hx, hb]
  rw [prun_le h1 (Nat.le_max_left n1 n2)]
  exact prun_le h2 (Nat.le_max_right n1 n2)
/-- a list, laid anew -/
def nrm {α : Type} : List α → Option (List α)
  | [] => some []
  | x :: xs => match nrm xs with
    | none => none
    | some ys => some (x :: ys)
theorem nrm_eq {α : Type} : ∀ (l : List α), nrm l = some l
  | [] => rfl
  | x :: xs => by
    unfold nrm
    rw [nrm_eq xs]
/-- k steps that stay in the frame and need no proof -/
def bl (y : Nat) : Nat → Nat → Lc → List PV → Hp → Option (Nat × (Lc × (List PV × Hp)))
  | 0, pc, ls, stk, σ => some (pc, ls, stk, σ)
  | k + 1, pc, ls, stk, σ => match fetch y pc with
    | none => none
    | some e => match xexec cn y e ls stk σ with
      | some (.inl (pc', ls', stk', σ')) => match nrm ls' with
        | none => none
        | some l1 => match nrm stk' with
          | none => none
          | some l2 => bl y k pc' l1 l2 σ'
      | _ => none
theorem RR_bl : ∀ (k : Nat) {pc pc' : Nat} {ls ls' : Lc} {stk stk' : List PV} {σ σ' : Hp} (_ : bl y k pc ls stk σ = some (pc', ls', stk', σ')) (_ : RR y pc' ls' stk' σ' Q), RR y pc ls stk σ Q
  | 0, _, _, _, _, _, _, _, _, h, kk => by cases h; exact kk
  | k + 1, _, _, _, _, _, _, _, _, h, kk => by
    unfold bl at h
    split at h
    · cases h
    · next e he =>
      split at h
      · next hx =>
        rw [nrm_eq, nrm_eq] at h
        exact RR_step he hx (RR_bl k h kk)
      · cases h
/-- a branch: what is asked, where to, what is left -/
def brq (y pc : Nat) (stk : List PV) : Option (Prop × (Nat × (Nat × List PV))) := match fetch y pc with
  | some (_, .if_icmp c _, nxt, a, _) => match stk with
    | .inl z :: .inl x :: r => match c with
      | .eq => some (x = z, a, nxt, r)
      | .ne => some (¬ x = z, a, nxt, r)
      | .lt => some (x < z, a, nxt, r)
      | .ge => some (z ≤ x, a, nxt, r)
      | .gt => some (z < x, a, nxt, r)
      | .le => some (x ≤ z, a, nxt, r)
    | _ => none
  | some (_, .ifCond c _, nxt, a, _) => match stk with
    | .inl x :: r => match c with
      | .eq => some (x = 0, a, nxt, r)
      | .ne => some (¬ x = 0, a, nxt, r)
      | .lt => some (x < 0, a, nxt, r)
      | .ge => some (0 ≤ x, a, nxt, r)
      | .gt => some (0 < x, a, nxt, r)
      | .le => some (x ≤ 0, a, nxt, r)
    | _ => none
  | _ => none
theorem RR_if {P : Prop} {t f : Nat} (h : brq y pc stk = some (P, t, f, r)) (kt : P → RR y t ls r σ Q) (kf : ¬ P → RR y f ls r σ Q) : RR y pc ls stk σ Q := by
  unfold brq at h
  split at h
  · next q0 c off nxt a q1 he =>
    split at h
    · next z x r0 =>
      have hx : ∀ (b : Bool), True := fun _ => trivial
      cases c <;> simp only [Option.some.injEq, Prod.mk.injEq] at h <;> obtain ⟨rfl, rfl, rfl, rfl⟩ := h
      · by_cases hc : x = z
        · exact RR_step he (by simp only [xexec]; exact if_pos hc) (kt hc)
        · exact RR_step he (by simp only [xexec]; exact if_neg hc) (kf hc)
      · by_cases hc : ¬ x = z
        · exact RR_step he (by simp only [xexec]; exact if_pos hc) (kt hc)
        · exact RR_step he (by simp only [xexec]; exact if_neg hc) (kf hc)
      · by_cases hc : x < z
        · exact RR_step he (by simp only [xexec]; exact if_pos hc) (kt hc)
        · exact RR_step he (by simp only [xexec]; exact if_neg hc) (kf hc)
      · by_cases hc : z ≤ x
        · exact RR_step he (by simp only [xexec]; exact if_pos hc) (kt hc)
        · exact RR_step he (by simp only [xexec]; exact if_neg hc) (kf hc)
      · by_cases hc : z < x
        · exact RR_step he (by simp only [xexec]; exact if_pos hc) (kt hc)
        · exact RR_step he (by simp only [xexec]; exact if_neg hc) (kf hc)
      · by_cases hc : x ≤ z
        · exact RR_step he (by simp only [xexec]; exact if_pos hc) (kt hc)
        · exact RR_step he (by simp only [xexec]; exact if_neg hc) (kf hc)
    · cases h
  · next q0 c off nxt a q1 he =>
    split at h
    · next x r0 =>
      cases c <;> simp only [Option.some.injEq, Prod.mk.injEq] at h <;> obtain ⟨rfl, rfl, rfl, rfl⟩ := h
      · by_cases hc : x = 0
        · exact RR_step he (by simp only [xexec]; exact if_pos hc) (kt hc)
        · exact RR_step he (by simp only [xexec]; exact if_neg hc) (kf hc)
      · by_cases hc : ¬ x = 0
        · exact RR_step he (by simp only [xexec]; exact if_pos hc) (kt hc)
        · exact RR_step he (by simp only [xexec]; exact if_neg hc) (kf hc)
      · by_cases hc : x < 0
        · exact RR_step he (by simp only [xexec]; exact if_pos hc) (kt hc)
        · exact RR_step he (by simp only [xexec]; exact if_neg hc) (kf hc)
      · by_cases hc : 0 ≤ x
        · exact RR_step he (by simp only [xexec]; exact if_pos hc) (kt hc)
        · exact RR_step he (by simp only [xexec]; exact if_neg hc) (kf hc)
      · by_cases hc : 0 < x
        · exact RR_step he (by simp only [xexec]; exact if_pos hc) (kt hc)
        · exact RR_step he (by simp only [xexec]; exact if_neg hc) (kf hc)
      · by_cases hc : x ≤ 0
        · exact RR_step he (by simp only [xexec]; exact if_pos hc) (kt hc)
        · exact RR_step he (by simp only [xexec]; exact if_neg hc) (kf hc)
    · cases h
  · cases h
/-- a place of an array is read -/
def aldq (y pc : Nat) (stk : List PV) (σ : Hp) : Option (Int32 × (Nat × ((Nat → PV) × (Nat × List PV)))) := match fetch y pc with
  | some (_, .iaload, nxt, _) => match stk with
    | .inl i :: .inr (.inr (kd, ix)) :: r => match arr σ kd with
      | some (0, n) => some (i, n, fun j => .inl (σ.1 kd ix j), nxt, r)
      | some (3, n) => some (i, n, fun j => .inl (σ.1 kd ix j), nxt, r)
      | _ => none
    | _ => none
  | some (_, .baload, nxt, _) => match stk with
    | .inl i :: .inr (.inr (kd, ix)) :: r => match arr σ kd with
      | some (1, n) => some (i, n, fun j => .inl (σ.1 kd ix j), nxt, r)
      | _ => none
    | _ => none
  | some (_, .aaload, nxt, _) => match stk with
    | .inl i :: .inr (.inr (kd, _)) :: r => match arr σ kd with
      | some (2, n) => some (i, n, fun j => .inr (.inr (1, qb kd + j)), nxt, r)
      | _ => none
    | _ => none
  | _ => none
theorem RR_ald {i : Int32} {n : Nat} {f : Nat → PV} (h : aldq y pc stk σ = some (i, n, f, nxt, r)) (j : Nat) (hi : i = nI j) (hj : j < n) (hn : n < 2147483648) (k : RR y nxt ls (f j :: r) σ Q) : RR y pc ls stk σ Q := by
  have hin : vp_in i n := by rw [hi]; exact vp_in_nI hj hn
  have hcl : i.toNatClampNeg = j := by rw [hi]; exact nI_clamp (Nat.lt_trans hj hn)
  unfold aldq at h
  split at h
  · next he =>
    split at h
    · split at h
      · next ha =>
        cases h
        refine RR_step he (by simp only [xexec, xald, ha]; exact if_pos hin) ?_
        rw [hcl]
        exact k
      · next ha =>
        cases h
        refine RR_step he (by simp only [xexec, xald, ha]; exact if_pos hin) ?_
        rw [hcl]
        exact k
      · cases h
    · cases h
  · next he =>
    split at h
    · split at h
      · next ha =>
        cases h
        refine RR_step he (by simp only [xexec, xzld, ha]; exact if_pos hin) ?_
        rw [hcl]
        exact k
      · cases h
    · cases h
  · next he =>
    split at h
    · split at h
      · next ha =>
        cases h
        refine RR_step he (by simp only [xexec, xqld, ha]; exact if_pos hin) ?_
        rw [hcl]
        exact k
      · cases h
    · cases h
  · cases h
/-- a place of an array is written -/
def astq (y pc : Nat) (stk : List PV) (σ : Hp) : Option (Int32 × (Int32 × (Nat × ((Nat → Hp) × (Nat × (List PV × Bool)))))) := match fetch y pc with
  | some (_, .iastore, nxt, _) => match stk with
    | .inl v :: .inl i :: .inr (.inr (kd, ix)) :: r => match arr σ kd with
      | some (0, n) => some (v, i, n, fun j => (hset σ.1 kd ix j v, σ.2), nxt, r, false)
      | _ => none
    | _ => none
  | some (_, .bastore, nxt, _) => match stk with
    | .inl v :: .inl i :: .inr (.inr (kd, ix)) :: r => match arr σ kd with
      | some (1, n) => some (v, i, n, fun j => (hset σ.1 kd ix j v, σ.2), nxt, r, true)
      | _ => none
    | _ => none
  | _ => none
theorem RR_ast {i v : Int32} {n : Nat} {f : Nat → Hp} {z : Bool} (h : astq y pc stk σ = some (v, i, n, f, nxt, r, z)) (j : Nat) (hi : i = nI j) (hj : j < n) (hn : n < 2147483648) (hz : z = true → zOk v) (k : RR y nxt ls r (f j) Q) : RR y pc ls stk σ Q := by
  have hin : vp_in i n := by rw [hi]; exact vp_in_nI hj hn
  have hcl : i.toNatClampNeg = j := by rw [hi]; exact nI_clamp (Nat.lt_trans hj hn)
  unfold astq at h
  split at h
  · next he =>
    split at h
    · split at h
      · next ha =>
        cases h
        refine RR_step he (by simp only [xexec, xast, ha]; exact if_pos hin) ?_
        rw [hcl]
        exact k
      · cases h
    · cases h
  · next he =>
    split at h
    · split at h
      · next ha =>
        cases h
        refine RR_step he (by simp only [xexec, xzst, ha]; exact if_pos ⟨hin, hz rfl⟩) ?_
        rw [hcl]
        exact k
      · cases h
    · cases h
  · cases h
/-- a division or a rest -/
def divq (y pc : Nat) (stk : List PV) : Option ((Int32 × Int32) × (Nat × List PV)) := match fetch y pc with
  | some (_, .idiv, nxt, _) => match stk with
    | .inl z :: .inl x :: r => some ((z, x / z), nxt, r)
    | _ => none
  | some (_, .irem, nxt, _) => match stk with
    | .inl z :: .inl x :: r => some ((z, jrem x z), nxt, r)
    | _ => none
  | _ => none
theorem RR_div {z w : Int32} (h : divq y pc stk = some ((z, w), nxt, r)) (hz : ¬ z = 0) (k : RR y nxt ls (.inl w :: r) σ Q) : RR y pc ls stk σ Q := by
  unfold divq at h
  split at h
  · next he =>
    split at h
    · cases h
      exact RR_step he (by simp only [xexec, xdiv]; exact if_neg hz) k
    · cases h
  · next he =>
    split at h
    · cases h
      exact RR_step he (by simp only [xexec, xdiv]; exact if_neg hz) k
    · cases h
  · cases h
def ldivq (y pc : Nat) (stk : List PV) : Option ((Int64 × Int64) × (Nat × List PV)) := match fetch y pc with
  | some (_, .ldiv, nxt, _) => match stk with
    | .inr (.inl z) :: .inr (.inl x) :: r => some ((z, x / z), nxt, r)
    | _ => none
  | some (_, .lrem, nxt, _) => match stk with
    | .inr (.inl z) :: .inr (.inl x) :: r => some ((z, jlrem x z), nxt, r)
    | _ => none
  | _ => none
theorem RR_ldiv {z w : Int64} (h : ldivq y pc stk = some ((z, w), nxt, r)) (hz : ¬ z = 0) (k : RR y nxt ls (.inr (.inl w) :: r) σ Q) : RR y pc ls stk σ Q := by
  unfold ldivq at h
  split at h
  · next he =>
    split at h
    · cases h
      exact RR_step he (by simp only [xexec, xldiv]; exact if_neg hz) k
    · cases h
  · next he =>
    split at h
    · cases h
      exact RR_step he (by simp only [xexec, xldiv]; exact if_neg hz) k
    · cases h
  · cases h
/-- the upper values of a stack, the lowest first, and the rest -/
def take2 : Nat → List PV → List PV → Option (List PV × List PV)
  | 0, st, acc => some (acc, st)
  | n + 1, v :: st, acc => take2 n st (v :: acc)
  | _ + 1, [], _ => none
theorem take2_eq : ∀ (n : Nat) (st acc vs rest : List PV), take2 n st acc = some (vs, rest) → vs = (st.take n).reverse ++ acc ∧ rest = st.drop n ∧ n ≤ st.length
  | 0, st, acc, vs, rest, h => by cases h; simp
  | n + 1, v :: st, acc, vs, rest, h => by
    obtain ⟨h1, h2, h3⟩ := take2_eq n st (v :: acc) vs rest h
    exact ⟨by rw [h1]; simp, by rw [h2]; simp, by simpa using h3⟩
  | n + 1, [], acc, vs, rest, h => by cases h
/-- a call: which method, its values, the rest, the next pc -/
def callq (y pc : Nat) (stk : List PV) : Option (Nat × (List PV × (List PV × Nat))) := match fetch y pc with
  | some (_, .invokestatic _, nxt, a, 0, _) => match take2 (cn a).1 stk [] with
    | some (vs, rest) => match Nat.ble (wds rest) 8 && Nat.ble (entA vs).length (mI a).2.1 with
      | true => some (a, vs, rest, nxt)
      | false => none
    | none => none
  | some (_, .invokevirtual _, nxt, a, _) => match take2 (cn a).1 stk [] with
    | some (.inr (.inr (kd, ix)) :: vs, rest) => match Nat.beq kd (cn a).2.1 && (Nat.ble (wds rest) 8 && Nat.ble (entA (.inr (.inr (kd, ix)) :: vs)).length (mI a).2.1) with
      | true => some (a, .inr (.inr (kd, ix)) :: vs, rest, nxt)
      | false => none
    | _ => none
  | _ => none
theorem RR_call {y' : Nat} {vs rest : List PV} (h : callq y pc stk = some (y', vs, rest, nxt)) (hc : Ev y' vs σ Q') (k : ∀ r1 σ1, Q' r1 σ1 → RR y nxt ls (r1.toList ++ rest) σ1 Q) : RR y pc ls stk σ Q := by
  unfold callq at h
  split at h
  · next he =>
    split at h
    · next ht =>
      split at h
      · next hb =>
        cases h
        simp only [Bool.and_eq_true] at hb
        obtain ⟨h1, h2, h3⟩ := take2_eq _ _ _ _ _ ht
        refine RR_call0 he ?_ hb.2 hc k
        simp only [xexec, xcall]
        rw [show (Nat.ble (cn y').1 stk.length && Nat.ble (wds (stk.drop (cn y').1)) 8) = true by rw [← h2]; simp only [Bool.and_eq_true]; exact ⟨Nat.ble_eq_true_of_le h3, hb.1⟩]
        rw [h1, h2]
        simp [bIf]
      · cases h
    · cases h
  · next he =>
    split at h
    · next kd ix vs0 rest0 ht =>
      split at h
      · next hb =>
        cases h
        simp only [Bool.and_eq_true] at hb
        obtain ⟨h1, h2, h3⟩ := take2_eq _ _ _ _ _ ht
        rw [List.append_nil] at h1
        refine RR_call0 he ?_ hb.2.2 hc k
        have h4 : stk.drop ((cn y').1 - 1) = .inr (.inr (kd, ix)) :: rest := by
          have h5 : stk = (Sum.inr (Sum.inr (kd, ix)) :: vs0).reverse ++ rest := by
            rw [h1, List.reverse_reverse, h2, List.take_append_drop]
          have h6 : (cn y').1 - 1 = vs0.reverse.length := by
            have h7 : (stk.take (cn y').1).reverse.length = (Sum.inr (Sum.inr (kd, ix)) :: vs0 : List PV).length := by rw [← h1]
            simp at h7 ⊢
            omega
          rw [h5, h6, List.reverse_cons, List.append_assoc, List.drop_left]
          rfl
        simp only [xexec, h4, hb.1, bIf, xcall]
        rw [show (Nat.ble (cn y').1 stk.length && Nat.ble (wds (stk.drop (cn y').1)) 8) = true by rw [← h2]; simp only [Bool.and_eq_true]; exact ⟨Nat.ble_eq_true_of_le h3, hb.2.1⟩]
        simp only [h1, h2]
      · cases h
    · cases h
  · cases h
/-- a return; of a boolean's method the answer is 0 or 1 -/
def retq (y pc : Nat) (stk : List PV) : Option (Option PV × Bool) := match fetch y pc with
  | some (_, .ireturn, _) => match stk with
    | [.inl x] => some (some (.inl x), (cn y).2.2)
    | _ => none
  | some (_, .lreturn, _) => match stk with
    | [.inr (.inl x)] => some (some (.inr (.inl x)), false)
    | _ => none
  | some (_, .areturn, _) => match stk with
    | [.inr (.inr x)] => some (some (.inr (.inr x)), false)
    | _ => none
  | some (_, .return_, _) => match stk with
    | [] => some (none, false)
    | _ => none
  | _ => none
theorem RR_ret {rv : Option PV} (h : retq y pc stk = some (rv, false)) (k : Q rv σ) : RR y pc ls stk σ Q := by
  unfold retq at h
  split at h
  · next he =>
    split at h
    · simp only [Option.some.injEq, Prod.mk.injEq] at h
      obtain ⟨rfl, h2⟩ := h
      exact RR_ret0 he (by simp only [xexec, h2]) k
    · cases h
  · next he =>
    split at h
    · cases h
      exact RR_ret0 he (by simp only [xexec]) k
    · cases h
  · next he =>
    split at h
    · cases h
      exact RR_ret0 he (by simp only [xexec]) k
    · cases h
  · next he =>
    split at h
    · cases h
      exact RR_ret0 he (by simp only [xexec]) k
    · cases h
  · cases h
theorem RR_retZ {x : Int32} (h : retq y pc stk = some (some (.inl x), true)) (hz : zOk x) (k : Q (some (.inl x)) σ) : RR y pc ls stk σ Q := by
  unfold retq at h
  split at h
  · next he =>
    split at h
    · simp only [Option.some.injEq, Prod.mk.injEq, Sum.inl.injEq] at h
      obtain ⟨rfl, h2⟩ := h
      exact RR_ret0 he (by simp only [xexec, h2]; exact if_pos hz) k
    · cases h
  · next he =>
    split at h
    · cases h
    · cases h
  · next he =>
    split at h
    · cases h
    · cases h
  · next he =>
    split at h
    · cases h
    · cases h
  · cases h
end RU
end
section
/-! Runs of straight stretches, and what ends them. -/
/-- whether an instruction is one of a straight stretch; b: which call -/
def strt (I : Jvm.ClassFile.Instr) (b : Nat) : Bool := match I with
  | .iaload => false
  | .baload => false
  | .aaload => false
  | .iastore => false
  | .bastore => false
  | .idiv => false
  | .irem => false
  | .ldiv => false
  | .lrem => false
  | .if_icmp _ _ => false
  | .ifCond _ _ => false
  | .invokevirtual _ => false
  | .invokestatic _ => match b with
    | 0 => false
    | 4 => false
    | _ => true
  | .tableswitch _ _ _ _ => false
  | .lookupswitch _ _ => false
  | .ireturn => false
  | .lreturn => false
  | .areturn => false
  | .return_ => false
  | _ => true
/-- whether a number is in a list -/
def inl (n : Nat) : List Nat → Bool
  | [] => false
  | m :: ms => match Nat.beq n m with
    | true => true
    | false => inl n ms
def go (y : Nat) (S : List Nat) : Nat → Nat → Lc → List PV → Hp → Option (Nat × (Lc × (List PV × Hp)))
  | 0, pc, ls, stk, σ => some (pc, ls, stk, σ)
  | k + 1, pc, ls, stk, σ => match fetch y pc with
    | none => none
    | some e => match strt e.2.1 e.2.2.2.2.1 with
      | false => match nrm stk with
        | none => none
        | some l2 => some (pc, ls, l2, σ)
      | true => match xexec cn y e ls stk σ with
        | some (.inl (pc', ls', stk', σ')) => match nrm ls' with
          | none => none
          | some l1 => match nrm stk' with
            | none => none
            | some l2 => match inl pc' S with
              | true => some (pc', l1, l2, σ')
              | false => go y S k pc' l1 l2 σ'
        | _ => none
section RU
variable {y pc pc' nxt : Nat} {ls ls' : Lc} {stk stk' r : List PV} {σ σ' : Hp} {Q Q' : Option PV → Hp → Prop} {e : En} {S : List Nat}
theorem RR_go0 : ∀ (k : Nat) {pc pc' : Nat} {ls ls' : Lc} {stk stk' : List PV} {σ σ' : Hp} (_ : go y S k pc ls stk σ = some (pc', ls', stk', σ')) (_ : RR y pc' ls' stk' σ' Q), RR y pc ls stk σ Q
  | 0, _, _, _, _, _, _, _, _, h, kk => by cases h; exact kk
  | k + 1, _, _, _, _, _, _, _, _, h, kk => by
    unfold go at h
    split at h
    · cases h
    · next e he =>
      split at h
      · rw [nrm_eq] at h
        cases h
        exact kk
      · split at h
        · next hx =>
          rw [nrm_eq, nrm_eq] at h
          simp only at h
          split at h
          · cases h
            exact RR_step he hx kk
          · exact RR_step he hx (RR_go0 k h kk)
        · cases h
/-- run to a place of S, or to what ends a straight stretch -/
theorem G_to (S : List Nat) (h : go y S 80 pc ls stk σ = some (pc', ls', stk', σ')) (k : RR y pc' ls' stk' σ' Q) : RR y pc ls stk σ Q := RR_go0 80 h k
def gif (y pc : Nat) (ls : Lc) (stk : List PV) (σ : Hp) : Option ((Prop × (Nat × (Nat × List PV))) × (Lc × Hp)) := match go y [] 80 pc ls stk σ with
  | none => none
  | some (pc', ls', stk', σ') => match brq y pc' stk' with
    | none => none
    | some q => some (q, ls', σ')
theorem G_if {P : Prop} {t f : Nat} (h : gif y pc ls stk σ = some ((P, t, f, r), ls', σ')) (kt : P → RR y t ls' r σ' Q) (kf : ¬ P → RR y f ls' r σ' Q) : RR y pc ls stk σ Q := by
  unfold gif at h
  split at h
  · cases h
  · next h1 =>
    split at h
    · cases h
    · next h2 =>
      cases h
      exact RR_go0 80 h1 (RR_if h2 kt kf)
def gald (y pc : Nat) (ls : Lc) (stk : List PV) (σ : Hp) : Option ((Int32 × (Nat × ((Nat → PV) × (Nat × List PV)))) × (Lc × Hp)) := match go y [] 80 pc ls stk σ with
  | none => none
  | some (pc', ls', stk', σ') => match aldq y pc' stk' σ' with
    | none => none
    | some q => some (q, ls', σ')
theorem G_ald {i : Int32} {n : Nat} {f : Nat → PV} (h : gald y pc ls stk σ = some ((i, n, f, nxt, r), ls', σ')) (j : Nat) (hi : i = nI j) (hj : j < n) (hn : n < 2147483648) (k : RR y nxt ls' (f j :: r) σ' Q) : RR y pc ls stk σ Q := by
  unfold gald at h
  split at h
  · cases h
  · next h1 =>
    split at h
    · cases h
    · next h2 =>
      cases h
      exact RR_go0 80 h1 (RR_ald h2 j hi hj hn k)
def gast (y pc : Nat) (ls : Lc) (stk : List PV) (σ : Hp) : Option ((Int32 × (Int32 × (Nat × ((Nat → Hp) × (Nat × (List PV × Bool)))))) × Lc) := match go y [] 80 pc ls stk σ with
  | none => none
  | some (pc', ls', stk', σ') => match astq y pc' stk' σ' with
    | none => none
    | some q => some (q, ls')
theorem G_ast {i v : Int32} {n : Nat} {f : Nat → Hp} (h : gast y pc ls stk σ = some ((v, i, n, f, nxt, r, false), ls')) (j : Nat) (hi : i = nI j) (hj : j < n) (hn : n < 2147483648) (k : RR y nxt ls' r (f j) Q) : RR y pc ls stk σ Q := by
  unfold gast at h
  split at h
  · cases h
  · next h1 =>
    split at h
    · cases h
    · next h2 =>
      cases h
      exact RR_go0 80 h1 (RR_ast h2 j hi hj hn (fun q => by cases q) k)
theorem G_zst {i v : Int32} {n : Nat} {f : Nat → Hp} (h : gast y pc ls stk σ = some ((v, i, n, f, nxt, r, true), ls')) (j : Nat) (hi : i = nI j) (hj : j < n) (hn : n < 2147483648) (hz : zOk v) (k : RR y nxt ls' r (f j) Q) : RR y pc ls stk σ Q := by
  unfold gast at h
  split at h
  · cases h
  · next h1 =>
    split at h
    · cases h
    · next h2 =>
      cases h
      exact RR_go0 80 h1 (RR_ast h2 j hi hj hn (fun _ => hz) k)
def gdiv (y pc : Nat) (ls : Lc) (stk : List PV) (σ : Hp) : Option (((Int32 × Int32) × (Nat × List PV)) × (Lc × Hp)) := match go y [] 80 pc ls stk σ with
  | none => none
  | some (pc', ls', stk', σ') => match divq y pc' stk' with
    | none => none
    | some q => some (q, ls', σ')
theorem G_div {z w : Int32} (h : gdiv y pc ls stk σ = some (((z, w), nxt, r), ls', σ')) (hz : ¬ z = 0) (k : RR y nxt ls' (.inl w :: r) σ' Q) : RR y pc ls stk σ Q := by
  unfold gdiv at h
  split at h
  · cases h
  · next h1 =>
    split at h
    · cases h
    · next h2 =>
      cases h
      exact RR_go0 80 h1 (RR_div h2 hz k)
def gldiv (y pc : Nat) (ls : Lc) (stk : List PV) (σ : Hp) : Option (((Int64 × Int64) × (Nat × List PV)) × (Lc × Hp)) := match go y [] 80 pc ls stk σ with
  | none => none
  | some (pc', ls', stk', σ') => match ldivq y pc' stk' with
    | none => none
    | some q => some (q, ls', σ')
theorem G_ldiv {z w : Int64} (h : gldiv y pc ls stk σ = some (((z, w), nxt, r), ls', σ')) (hz : ¬ z = 0) (k : RR y nxt ls' (.inr (.inl w) :: r) σ' Q) : RR y pc ls stk σ Q := by
  unfold gldiv at h
  split at h
  · cases h
  · next h1 =>
    split at h
    · cases h
    · next h2 =>
      cases h
      exact RR_go0 80 h1 (RR_ldiv h2 hz k)
def gcall (y pc : Nat) (ls : Lc) (stk : List PV) (σ : Hp) : Option ((Nat × (List PV × (List PV × Nat))) × (Lc × Hp)) := match go y [] 80 pc ls stk σ with
  | none => none
  | some (pc', ls', stk', σ') => match callq y pc' stk' with
    | none => none
    | some q => some (q, ls', σ')
theorem G_call {y' : Nat} {vs rest : List PV} (h : gcall y pc ls stk σ = some ((y', vs, rest, nxt), ls', σ')) (hc : Ev y' vs σ' Q') (k : ∀ r1 σ1, Q' r1 σ1 → RR y nxt ls' (r1.toList ++ rest) σ1 Q) : RR y pc ls stk σ Q := by
  unfold gcall at h
  split at h
  · cases h
  · next h1 =>
    split at h
    · cases h
    · next h2 =>
      cases h
      exact RR_go0 80 h1 (RR_call h2 hc k)
theorem G_callv {y' : Nat} {vs vs0 rest : List PV} (h : gcall y pc ls stk σ = some ((y', vs0, rest, nxt), ls', σ')) (hv : vs0 = vs) (hc : Ev y' vs σ' Q') (k : ∀ r1 σ1, Q' r1 σ1 → RR y nxt ls' (r1.toList ++ rest) σ1 Q) : RR y pc ls stk σ Q := by
  subst hv
  exact G_call h hc k
def gret (y pc : Nat) (ls : Lc) (stk : List PV) (σ : Hp) : Option ((Option PV × Bool) × Hp) := match go y [] 80 pc ls stk σ with
  | none => none
  | some (pc', _, stk', σ') => match retq y pc' stk' with
    | none => none
    | some q => some (q, σ')
theorem G_ret {rv : Option PV} (h : gret y pc ls stk σ = some ((rv, false), σ')) (k : Q rv σ') : RR y pc ls stk σ Q := by
  unfold gret at h
  split at h
  · cases h
  · next h1 =>
    split at h
    · cases h
    · next h2 =>
      cases h
      exact RR_go0 80 h1 (RR_ret h2 k)
theorem G_retZ {x : Int32} (h : gret y pc ls stk σ = some ((some (.inl x), true), σ')) (hz : zOk x) (k : Q (some (.inl x)) σ') : RR y pc ls stk σ Q := by
  unfold gret at h
  split at h
  · cases h
  · next h1 =>
    split at h
    · cases h
    · next h2 =>
      cases h
      exact RR_go0 80 h1 (RR_retZ h2 hz k)
end RU
end
section
/-! A map, told by its number of items and what lies at each place: keys, values, heights. -/
abbrev AM : Type := Nat × ((Nat → Nat) × ((Nat → Nat) × (Nat → Nat)))
/-- the first place from i on, within m, where p fails -/
def scn (p : Nat → Bool) : Nat → Nat → Nat
  | 0, i => i
  | m + 1, i => match p i with
    | true => scn p m (i + 1)
    | false => i
theorem scn_t {p : Nat → Bool} {m i : Nat} (h : p i = true) : scn p (m + 1) i = scn p m (i + 1) := by simp [scn, h]
theorem scn_f {p : Nat → Bool} {m i : Nat} (h : p i = false) : scn p (m + 1) i = i := by simp [scn, h]
theorem scn_spec (p : Nat → Bool) : ∀ (m i : Nat), i ≤ scn p m i ∧ scn p m i ≤ i + m ∧ (∀ k, i ≤ k → k < scn p m i → p k = true) ∧ (scn p m i < i + m → p (scn p m i) = false)
  | 0, i => ⟨Nat.le_refl _, Nat.le_refl _, fun k h1 h2 => by simp [scn] at h2; omega, fun h => by simp [scn] at h⟩
  | m + 1, i => by
    cases h : p i with
    | true =>
      rw [scn_t h]
      obtain ⟨h1, h2, h3, h4⟩ := scn_spec p m (i + 1)
      refine ⟨by omega, by omega, fun k hk1 hk2 => ?_, fun hh => h4 (by omega)⟩
      by_cases hki : k = i
      · rw [hki]; exact h
      · exact h3 k (by omega) hk2
    | false =>
      rw [scn_f h]
      exact ⟨Nat.le_refl _, by omega, fun k h1 h2 => by omega, fun _ => h⟩
/-- the number of items whose keys are less, as keys grow -/
def les (M : AM) (key : Nat) : Nat := scn (fun i => decide (M.2.1 i < key)) M.1 0
def has (M : AM) (key : Nat) : Prop := les M key < M.1 ∧ M.2.1 (les M key) = key
def topF (T : Nat → Nat) : Nat → Nat
  | 0 => 0
  | n + 1 => max (topF T n) (T n + 1)
/-- one more than the last place ahead of p that is so high; 0 if there is none -/
def ahF (T : Nat → Nat) (l : Nat) : Nat → Nat
  | 0 => 0
  | p + 1 => if T p < l then ahF T l p else p + 1
/-- the first place from p on that is so high; n if there is none -/
def bhF (n : Nat) (T : Nat → Nat) (l p : Nat) : Nat := scn (fun i => decide (T i < l)) (n - p) p
/-- how many of m places from i on have a height -/
def cntF (T : Nat → Nat) (h : Nat) : Nat → Nat → Nat
  | 0, _ => 0
  | m + 1, i => (if T i = h then 1 else 0) + cntF T h m (i + 1)
/-- the so manyth of them (from 1 on) -/
def nthF (T : Nat → Nat) (h : Nat) : Nat → Nat → Nat → Nat
  | 0, i, _ => i
  | m + 1, i, k => if T i = h then (if k = 1 then i else nthF T h m (i + 1) (k - 1)) else nthF T h m (i + 1) k
def upN (f : Nat → Nat) (k v : Nat) : Nat → Nat := fun j => if j = k then v else f j
def insF (f : Nat → Nat) (at_ v : Nat) : Nat → Nat := fun j => if j < at_ then f j else if j = at_ then v else f (j - 1)
def delF (f : Nat → Nat) (at_ : Nat) : Nat → Nat := fun j => if j < at_ then f j else f (j + 1)
/-- keys grow, all is small -/
def wfM (M : AM) : Prop := M.1 ≤ 40 ∧ (∀ i, i < M.1 → M.2.1 i < 100 ∧ M.2.2.1 i < 1000000 ∧ M.2.2.2 i < 64) ∧ ∀ i, i + 1 < M.1 → M.2.1 i < M.2.1 (i + 1)
/-- heights alone are small -/
def wfT (M : AM) : Prop := M.1 ≤ 40 ∧ ∀ i, i < M.1 → M.2.2.2 i < 64
theorem wfM.t {M : AM} (h : wfM M) : wfT M := ⟨h.1, fun i hi => (h.2.1 i hi).2.2⟩
/-- the class's Items number j hold a map -/
def isI (σ : Hp) (j : Nat) (M : AM) : Prop := σ.1 2 j 3 = nI M.1 ∧ ∀ i, i < M.1 → σ.1 7 j i = nI (M.2.1 i) ∧ σ.1 8 j i = nI (M.2.2.1 i) ∧ σ.1 9 j i = nI (M.2.2.2 i)
abbrev rI (j : Nat) : PV := .inr (.inr (2, j))
theorem big40 {n : Nat} (h : n ≤ 40) : n < 2147483648 := by omega
theorem nle {a b : Nat} (h : ¬ nI a ≤ nI b) (ha : a < 2147483648) (hb : b < 2147483648) : b < a := by
  rcases Nat.lt_or_ge b a with h1 | h1
  · exact h1
  · exact absurd ((nI_leI ha hb).mpr h1) h
theorem nlt {a b : Nat} (h : ¬ nI a < nI b) (ha : a < 2147483648) (hb : b < 2147483648) : b ≤ a := by
  rcases Nat.lt_or_ge a b with h1 | h1
  · exact absurd ((nI_ltI ha hb).mpr h1) h
  · exact h1
theorem ile {a b : Nat} (h : nI a ≤ nI b) (ha : a < 2147483648) (hb : b < 2147483648) : a ≤ b := (nI_leI ha hb).mp h
theorem ilt {a b : Nat} (h : nI a < nI b) (ha : a < 2147483648) (hb : b < 2147483648) : a < b := (nI_ltI ha hb).mp h
theorem ieq {a b : Nat} (h : nI a = nI b) (ha : a < 2147483648) (hb : b < 2147483648) : a = b := (nI_eq ha hb).mp h
theorem imax {a b : Nat} (ha : a < 2147483648) (hb : b < 2147483648) : (if nI a < nI b then nI b else nI a) = nI (max a b) := by
  by_cases h : nI a < nI b
  · rw [if_pos h, Nat.max_eq_right (Nat.le_of_lt (ilt h ha hb))]
  · rw [if_neg h, Nat.max_eq_left (nlt h ha hb)]
theorem imin {a b : Nat} (ha : a < 2147483648) (hb : b < 2147483648) : (if nI b < nI a then nI b else nI a) = nI (min a b) := by
  by_cases h : nI b < nI a
  · rw [if_pos h, Nat.min_eq_right (Nat.le_of_lt (ilt h hb ha))]
  · rw [if_neg h, Nat.min_eq_left (nlt h hb ha)]
/-- a place that may be one ahead of the first: nI q - 1 -/
theorem im1_neg : nI 0 - 1 = -1 := by decide
theorem im1_lt {q : Nat} (hq : q < 2147483648) : nI q - 1 < 0 ↔ q = 0 := by
  cases q with
  | zero => simp [im1_neg]
  | succ q =>
    rw [nI_pred]
    constructor
    · intro h
      exact absurd h (nI_pos (by omega))
    · intro h
      cases h
theorem im1_add (q : Nat) : nI q - 1 + 1 = nI q := by
  rw [Int32.sub_add_cancel]
theorem im1_dec (q : Nat) : nI (q + 1) - 1 + (-1) = nI q - 1 := by
  rw [nI_pred, Int32.sub_eq_add_neg]
theorem topF_le {T : Nat → Nat} {b : Nat} : ∀ (n : Nat), (∀ i, i < n → T i < b) → topF T n ≤ b
  | 0, _ => Nat.zero_le _
  | n + 1, h => by
    have h1 := topF_le n (fun i hi => h i (by omega))
    have h2 := h n (by omega)
    simp only [topF]
    omega
theorem ahF_le (T : Nat → Nat) (l : Nat) : ∀ p, ahF T l p ≤ p
  | 0 => Nat.le_refl _
  | p + 1 => by
    have := ahF_le T l p
    unfold ahF
    split <;> omega
theorem bhF_le {n : Nat} (T : Nat → Nat) (l : Nat) {p : Nat} (h : p ≤ n) : p ≤ bhF n T l p ∧ bhF n T l p ≤ n := by
  obtain ⟨h1, h2, -, -⟩ := scn_spec (fun i => decide (T i < l)) (n - p) p
  unfold bhF
  omega
theorem cntF_le (T : Nat → Nat) (h : Nat) : ∀ (m i : Nat), cntF T h m i ≤ m
  | 0, _ => Nat.le_refl _
  | m + 1, i => by
    have := cntF_le T h m (i + 1)
    unfold cntF
    split <;> omega
theorem nthF_in (T : Nat → Nat) (h : Nat) : ∀ (m i k : Nat), 1 ≤ k → k ≤ cntF T h m i → i ≤ nthF T h m i k ∧ nthF T h m i k < i + m ∧ T (nthF T h m i k) = h
  | 0, i, k, h1, h2 => by simp [cntF] at h2; omega
  | m + 1, i, k, h1, h2 => by
    unfold cntF at h2
    unfold nthF
    by_cases hT : T i = h
    · rw [if_pos hT] at h2 ⊢
      by_cases hk : k = 1
      · rw [if_pos hk]
        exact ⟨Nat.le_refl _, by omega, hT⟩
      · rw [if_neg hk]
        have := nthF_in T h m (i + 1) (k - 1) (by omega) (by omega)
        omega
    · rw [if_neg hT] at h2 ⊢
      have := nthF_in T h m (i + 1) k h1 (by omega)
      omega
theorem les_le (M : AM) (key : Nat) : les M key ≤ M.1 := by
  have := (scn_spec (fun i => decide (M.2.1 i < key)) M.1 0).2.1
  unfold les
  omega
theorem wf_mono {M : AM} (h : wfM M) : ∀ (d i : Nat), i + d < M.1 → M.2.1 i + d ≤ M.2.1 (i + d)
  | 0, i, _ => by simp
  | d + 1, i, hd => by
    have h1 := wf_mono h d i (by omega)
    have h2 := h.2.2 (i + d) (by omega)
    have h3 : i + (d + 1) = i + d + 1 := rfl
    rw [h3]
    omega
theorem wf_lt {M : AM} (h : wfM M) {i k : Nat} (hik : i < k) (hk : k < M.1) : M.2.1 i < M.2.1 k := by
  have := wf_mono h (k - i) i (by omega)
  rw [show i + (k - i) = k by omega] at this
  omega
/-- where a key stands, or would -/
theorem les_spec {M : AM} (hw : wfM M) (key : Nat) : (∀ i, i < les M key → M.2.1 i < key) ∧ ∀ i, les M key ≤ i → i < M.1 → key ≤ M.2.1 i := by
  obtain ⟨h1, h2, h3, h4⟩ := scn_spec (fun i => decide (M.2.1 i < key)) M.1 0
  refine ⟨fun i hi => by simpa using h3 i (Nat.zero_le _) hi, fun i hi hin => ?_⟩
  have h5 : key ≤ M.2.1 (les M key) := by
    have := h4 (by unfold les at hi; omega)
    unfold les
    simpa using this
  rcases Nat.lt_or_ge (les M key) i with h6 | h6
  · have := wf_lt hw h6 hin
    omega
  · have : i = les M key := by omega
    rw [this]
    exact h5
theorem les_uniq {M : AM} (hw : wfM M) {key a : Nat} (h0 : a ≤ M.1) (h1 : ∀ i, i < a → M.2.1 i < key) (h2 : ∀ i, a ≤ i → i < M.1 → key ≤ M.2.1 i) : a = les M key := by
  obtain ⟨h3, h4⟩ := les_spec hw key
  have h5 := les_le M key
  rcases Nat.lt_trichotomy a (les M key) with h | h | h
  · have h6 := h3 a h
    have h7 := h2 a (Nat.le_refl _) (by omega)
    omega
  · exact h
  · have h6 := h1 _ h
    have h7 := h4 _ (Nat.le_refl _) (by omega)
    omega
theorem les_at {M : AM} (hw : wfM M) {i : Nat} (hi : i < M.1) : les M (M.2.1 i) = i := by
  refine (les_uniq hw (by omega) (fun k hk => wf_lt hw hk hi) (fun k hk hkn => ?_)).symm
  rcases Nat.lt_or_ge i k with h | h
  · exact Nat.le_of_lt (wf_lt hw h hkn)
  · have : k = i := by omega
    rw [this]
    exact Nat.le_refl _
theorem has_iff {M : AM} (hw : wfM M) {key : Nat} : has M key ↔ ∃ i, i < M.1 ∧ M.2.1 i = key := by
  constructor
  · intro h
    exact ⟨_, h⟩
  · rintro ⟨i, hi, rfl⟩
    unfold has
    rw [les_at hw hi]
    exact ⟨hi, rfl⟩
end
section
/-! Items: what it reads. -/
section IT
variable {σ : Hp} {j : Nat} {M : AM}
theorem ev_lesser (hI : isI σ j M) (hw : wfM M) {key : Nat} (hk : key < 2147483648) : Ev 10 [rI j, .inl (nI key)] σ (fun r σ' => r = some (.inl (nI (les M key))) ∧ σ' = σ) := by
  have hn := hw.1
  have loop : ∀ (m i : Nat) (x : Int32), x = nI i → i + m = M.1 → RR 10 2 [some (rI j), some (.inl (nI key)), some (.inl x)] [] σ (fun r σ' => r = some (.inl (nI (scn (fun i => decide (M.2.1 i < key)) m i))) ∧ σ' = σ) := by
    intro m
    induction m with
    | zero =>
      intro i x hx hi
      refine G_if rfl (fun h => ?_) (fun h => ?_)
      · exact G_ret rfl ⟨by rw [hx]; rfl, rfl⟩
      · rw [hI.1, hx] at h
        exact absurd (nle h (by omega) (by omega)) (by omega)
    | succ m ih =>
      intro i x hx hi
      have hiM : i < M.1 := by omega
      refine G_if rfl (fun h => ?_) (fun h => ?_)
      · rw [hI.1, hx] at h
        exact absurd (ile h (by omega) (by omega)) (by omega)
      · refine G_ald rfl i hx (by omega) (by decide) ?_
        rw [(hI.2 i hiM).1]
        have hKi := (hw.2.1 i hiM).1
        refine G_if rfl (fun h => ?_) (fun h => ?_)
        · have h := ile h hk (by omega)
          rw [scn_f (by simpa using h)]
          exact G_ret rfl ⟨by rw [hx], rfl⟩
        · have h := nle h hk (by omega)
          rw [scn_t (by simpa using h)]
          refine G_to [2] rfl ?_
          exact ih (i + 1) _ (by rw [hx]; exact nI_1 i) (by omega)
  refine G_to [2] rfl ?_
  exact loop M.1 0 0 nI_0.symm (by omega)
theorem ev_indexOf (hI : isI σ j M) (hw : wfM M) {key : Nat} (hk : key < 2147483648) : Ev 9 [rI j, .inl (nI key)] σ (fun r σ' => σ' = σ ∧ ((has M key ∧ r = some (.inl (nI (les M key)))) ∨ (¬ has M key ∧ r = some (.inl (-1))))) := by
  have hn := hw.1
  have hle := les_le M key
  refine G_call rfl (ev_lesser hI hw hk) ?_
  rintro r1 σ1 ⟨rfl, rfl⟩
  refine G_if rfl (fun h => ?_) (fun h => ?_)
  · rw [hI.1] at h
    have h := ile h (by omega) (by omega)
    exact G_ret rfl ⟨rfl, Or.inr ⟨fun q => by have := q.1; omega, rfl⟩⟩
  · rw [hI.1] at h
    have h := nle h (by omega) (by omega)
    refine G_ald rfl (les M key) rfl (by omega) (by decide) ?_
    have hKi := (hw.2.1 _ h).1
    rw [(hI.2 _ h).1]
    refine G_if rfl (fun h2 => ?_) (fun h2 => ?_)
    · exact G_ret rfl ⟨rfl, Or.inr ⟨fun q => h2 (by rw [q.2]), rfl⟩⟩
    · have h3 := ieq (Classical.not_not.mp h2) (by omega) hk
      exact G_ret rfl ⟨rfl, Or.inl ⟨⟨h, h3⟩, rfl⟩⟩
theorem ev_top (hI : isI σ j M) (hw : wfT M) : Ev 12 [rI j] σ (fun r σ' => r = some (.inl (nI (topF M.2.2.2 M.1))) ∧ σ' = σ) := by
  have hn := hw.1
  have htop : ∀ i, i ≤ M.1 → topF M.2.2.2 i ≤ 64 := fun i hi => topF_le i (fun k hk => hw.2 k (by omega))
  have loop : ∀ (m i : Nat) (x1 x2 : Int32), x1 = nI (topF M.2.2.2 i) → x2 = nI i → i + m = M.1 → RR 12 4 [some (rI j), some (.inl x1), some (.inl x2)] [] σ (fun r σ' => r = some (.inl (nI (topF M.2.2.2 M.1))) ∧ σ' = σ) := by
    intro m
    induction m with
    | zero =>
      intro i x1 x2 hx1 hx2 hi
      refine G_if rfl (fun h => ?_) (fun h => ?_)
      · have : i = M.1 := by omega
        subst this
        exact G_ret rfl ⟨by rw [hx1], rfl⟩
      · rw [hI.1, hx2] at h
        exact absurd (nle h (by omega) (by omega)) (by omega)
    | succ m ih =>
      intro i x1 x2 hx1 hx2 hi
      have hiM : i < M.1 := by omega
      refine G_if rfl (fun h => ?_) (fun h => ?_)
      · rw [hI.1, hx2] at h
        exact absurd (ile h (by omega) (by omega)) (by omega)
      · refine G_ald rfl i hx2 (by omega) (by decide) ?_
        rw [(hI.2 i hiM).2.2]
        have hTi := hw.2 i hiM
        have := htop i (by omega)
        refine G_to [4] rfl ?_
        exact ih (i + 1) _ _ (by rw [hx1, nI_1, imax (by omega) (by omega)]; rfl) (by rw [hx2]; exact nI_1 i) (by omega)
  refine G_to [4] rfl ?_
  exact loop M.1 0 0 0 nI_0.symm nI_0.symm (by omega)
theorem ev_ahead (hI : isI σ j M) (hw : wfT M) {p l : Nat} (hp : p ≤ M.1) (hl : l < 2147483648) : Ev 14 [rI j, .inl (nI p), .inl (nI l)] σ (fun r σ' => r = some (.inl (nI (ahF M.2.2.2 l p) - 1)) ∧ σ' = σ) := by
  have hn := hw.1
  have loop : ∀ (q : Nat) (x : Int32), x = nI q - 1 → q ≤ M.1 → RR 14 11 [some (rI j), some (.inl (nI p)), some (.inl (nI l)), some (.inl x)] [] σ (fun r σ' => r = some (.inl (nI (ahF M.2.2.2 l q) - 1)) ∧ σ' = σ) := by
    intro q
    induction q with
    | zero =>
      intro x hx hq
      refine G_if rfl (fun h => ?_) (fun h => ?_)
      · exact G_ret rfl ⟨by rw [hx]; rfl, rfl⟩
      · rw [hx] at h
        exact absurd ((im1_lt (by omega)).mpr rfl) h
    | succ q ih =>
      intro x hx hq
      refine G_if rfl (fun h => ?_) (fun h => ?_)
      · rw [hx] at h
        exact absurd ((im1_lt (by omega)).mp h) (by omega)
      · refine G_ald rfl q (by rw [hx]; exact nI_pred q) (by omega) (by decide) ?_
        rw [(hI.2 q (by omega)).2.2]
        have hT := hw.2 q (by omega)
        refine G_if rfl (fun h2 => ?_) (fun h2 => ?_)
        · have h2 := ile h2 hl (by omega)
          refine G_ret rfl ⟨?_, rfl⟩
          rw [hx, ahF, if_neg (by omega)]
        · have h2 := nle h2 hl (by omega)
          refine G_to [11] rfl ?_
          rw [ahF, if_pos h2]
          exact ih _ (by rw [hx]; exact im1_dec q) (by omega)
  refine G_to [11] rfl ?_
  refine loop p _ ?_ hp
  rw [hI.1, imin (by omega) (by omega), Nat.min_eq_left hp]
theorem ev_behind (hI : isI σ j M) (hw : wfT M) {p l : Nat} (hp : p ≤ M.1) (hl : l < 2147483648) : Ev 15 [rI j, .inl (nI p), .inl (nI l)] σ (fun r σ' => r = some (.inl (nI (bhF M.1 M.2.2.2 l p))) ∧ σ' = σ) := by
  have hn := hw.1
  have loop : ∀ (m i : Nat) (x : Int32), x = nI i → i + m = M.1 → RR 15 6 [some (rI j), some (.inl (nI p)), some (.inl (nI l)), some (.inl x)] [] σ (fun r σ' => r = some (.inl (nI (scn (fun i => decide (M.2.2.2 i < l)) m i))) ∧ σ' = σ) := by
    intro m
    induction m with
    | zero =>
      intro i x hx hi
      refine G_if rfl (fun h => ?_) (fun h => ?_)
      · refine G_ret rfl ⟨?_, rfl⟩
        rw [hx, hI.1, imin (by omega) (by omega), Nat.min_eq_left (by omega)]
        rfl
      · rw [hI.1, hx] at h
        exact absurd (nle h (by omega) (by omega)) (by omega)
    | succ m ih =>
      intro i x hx hi
      have hiM : i < M.1 := by omega
      refine G_if rfl (fun h => ?_) (fun h => ?_)
      · rw [hI.1, hx] at h
        exact absurd (ile h (by omega) (by omega)) (by omega)
      · refine G_ald rfl i hx (by omega) (by decide) ?_
        rw [(hI.2 i hiM).2.2]
        have hTi := hw.2 i hiM
        refine G_if rfl (fun h => ?_) (fun h => ?_)
        · have h := ile h hl (by omega)
          rw [scn_f (by simpa using h)]
          refine G_ret rfl ⟨?_, rfl⟩
          rw [hx, hI.1, imin (by omega) (by omega), Nat.min_eq_left (by omega)]
        · have h := nle h hl (by omega)
          rw [scn_t (by simpa using h)]
          refine G_to [6] rfl ?_
          exact ih (i + 1) _ (by rw [hx]; exact nI_1 i) (by omega)
  refine G_to [6] rfl ?_
  refine loop (M.1 - p) p _ ?_ (by omega)
  rw [← nI_0, imax (by omega) (by omega), Nat.max_eq_left (Nat.zero_le _)]
theorem ev_countOf (hI : isI σ j M) (hw : wfT M) {h f t : Nat} (hh : h < 2147483648) (hf : f ≤ M.1) (ht : t ≤ M.1) : Ev 16 [rI j, .inl (nI h), .inl (nI f), .inl (nI t)] σ (fun r σ' => r = some (.inl (nI (cntF M.2.2.2 h (t - f) f))) ∧ σ' = σ) := by
  have hn := hw.1
  have loop : ∀ (m i c : Nat) (x4 x5 : Int32), x4 = nI c → x5 = nI i → i + m = max t i → i ≤ M.1 → RR 16 10 [some (rI j), some (.inl (nI h)), some (.inl (nI f)), some (.inl (nI t)), some (.inl x4), some (.inl x5)] [] σ (fun r σ' => r = some (.inl (nI (c + cntF M.2.2.2 h m i))) ∧ σ' = σ) := by
    intro m
    induction m with
    | zero =>
      intro i c x4 x5 hx4 hx5 hi hiM
      refine G_if rfl (fun q => ?_) (fun q => ?_)
      · exact G_ret rfl ⟨by rw [hx4]; rfl, rfl⟩
      · rw [hx5] at q
        exact absurd (nle q (by omega) (by omega)) (by omega)
    | succ m ih =>
      intro i c x4 x5 hx4 hx5 hi hiM
      have hit : i < t := by omega
      refine G_if rfl (fun q => ?_) (fun q => ?_)
      · rw [hx5] at q
        exact absurd (ile q (by omega) (by omega)) (by omega)
      · refine G_if rfl (fun q => ?_) (fun q => ?_)
        · rw [hI.1, hx5] at q
          exact absurd (ile q (by omega) (by omega)) (by omega)
        · refine G_ald rfl i hx5 (by omega) (by decide) ?_
          rw [(hI.2 i (by omega)).2.2]
          have hTi := hw.2 i (by omega)
          refine G_if rfl (fun q => ?_) (fun q => ?_)
          · refine G_to [10] rfl ?_
            rw [cntF, if_neg (fun e => q (by rw [e])), Nat.zero_add]
            exact ih (i + 1) c _ _ hx4 (by rw [hx5]; exact nI_1 i) (by omega) (by omega)
          · have q := ieq (Classical.not_not.mp q) (by omega) hh
            refine G_to [10] rfl ?_
            rw [cntF, if_pos q, ← Nat.add_assoc]
            exact ih (i + 1) (c + 1) _ _ (by rw [hx4]; exact nI_1 c) (by rw [hx5]; exact nI_1 i) (by omega) (by omega)
  refine G_to [10] rfl ?_
  have := loop (t - f) f 0 0 (if nI f < 0 then 0 else nI f) nI_0.symm (by rw [← nI_0, imax (by omega) (by omega), Nat.max_eq_left (Nat.zero_le _)]) (by omega) hf
  rw [Nat.zero_add] at this
  exact this
theorem ev_nth (hI : isI σ j M) (hw : wfT M) {k h f t : Nat} (hh : h < 2147483648) (hf : f ≤ t) (ht : t ≤ M.1) (hk1 : 1 ≤ k) (hk : k ≤ cntF M.2.2.2 h (t - f) f) : Ev 17 [rI j, .inl (nI k), .inl (nI h), .inl (nI f), .inl (nI t)] σ (fun r σ' => r = some (.inl (nI (nthF M.2.2.2 h (t - f) f k))) ∧ σ' = σ) := by
  have hn := hw.1
  have hk2 := cntF_le M.2.2.2 h (t - f) f
  have loop : ∀ (m i c k' : Nat) (x5 x6 : Int32), x5 = nI c → x6 = nI i → i + m = t → c + k' = k → 1 ≤ k' → k' ≤ cntF M.2.2.2 h m i → RR 17 10 [some (rI j), some (.inl (nI k)), some (.inl (nI h)), some (.inl (nI f)), some (.inl (nI t)), some (.inl x5), some (.inl x6)] [] σ (fun r σ' => r = some (.inl (nI (nthF M.2.2.2 h m i k'))) ∧ σ' = σ) := by
    intro m
    induction m with
    | zero =>
      intro i c k' x5 x6 hx5 hx6 hi hc h1 h2
      simp [cntF] at h2
      omega
    | succ m ih =>
      intro i c k' x5 x6 hx5 hx6 hi hc h1 h2
      refine G_if rfl (fun q => ?_) (fun q => ?_)
      · rw [hx6] at q
        exact absurd (ile q (by omega) (by omega)) (by omega)
      · refine G_if rfl (fun q => ?_) (fun q => ?_)
        · rw [hI.1, hx6] at q
          exact absurd (ile q (by omega) (by omega)) (by omega)
        · refine G_ald rfl i hx6 (by omega) (by decide) ?_
          rw [(hI.2 i (by omega)).2.2]
          have hTi := hw.2 i (by omega)
          rw [cntF] at h2
          refine G_if rfl (fun q => ?_) (fun q => ?_)
          · have q2 : ¬ M.2.2.2 i = h := fun e => q (by rw [e])
            refine G_to [10] rfl ?_
            rw [nthF, if_neg q2]
            rw [if_neg q2] at h2
            exact ih (i + 1) c k' _ _ hx5 (by rw [hx6]; exact nI_1 i) (by omega) hc h1 (by omega)
          · have q := ieq (Classical.not_not.mp q) (by omega) hh
            rw [if_pos q] at h2
            rw [nthF, if_pos q]
            refine G_if rfl (fun q2 => ?_) (fun q2 => ?_)
            · rw [hx5, nI_1] at q2
              have q2 : ¬ c + 1 = k := fun e => q2 (by rw [e])
              refine G_to [10] rfl ?_
              rw [if_neg (by omega)]
              exact ih (i + 1) (c + 1) (k' - 1) _ _ (by rw [hx5]; exact nI_1 c) (by rw [hx6]; exact nI_1 i) (by omega) (by omega) (by omega) (by omega)
            · rw [hx5, nI_1] at q2
              have q2 := ieq (Classical.not_not.mp q2) (by omega) (by omega)
              rw [if_pos (by omega)]
              exact G_ret rfl ⟨by rw [hx6], rfl⟩
  refine G_to [10] rfl ?_
  exact loop (t - f) f 0 k 0 _ nI_0.symm (by rw [← nI_0, imax (by omega) (by omega), Nat.max_eq_left (Nat.zero_le _)]) (by omega) (by omega) hk1 hk
end IT
end
section
/-! Items: what it writes. -/
/-- only Items number j has changed -/
def frI (j : Nat) (σ σ' : Hp) : Prop := (∀ k i, ¬ (i = j ∧ (k = 2 ∨ k = 7 ∨ k = 8 ∨ k = 9)) → σ'.1 k i = σ.1 k i) ∧ σ'.2 = σ.2
theorem frI.rf (j : Nat) (σ : Hp) : frI j σ σ := ⟨fun _ _ _ => rfl, rfl⟩
theorem frI.tr {j : Nat} {σ σ1 σ2 : Hp} (h : frI j σ σ1) (h2 : frI j σ1 σ2) : frI j σ σ2 := ⟨fun k i q => (h2.1 k i q).trans (h.1 k i q), h2.2.trans h.2⟩
theorem frI.st {j k i : Nat} {σ σ1 : Hp} {v : Int32} (h : frI j σ σ1) (hk : k = 2 ∨ k = 7 ∨ k = 8 ∨ k = 9) : frI j σ (hset σ1.1 k j i v, σ1.2) := by
  refine ⟨fun k' i' q => ?_, h.2⟩
  show hset σ1.1 k j i v k' i' = _
  rw [hset_ne (by rintro h1; cases h1; exact q ⟨rfl, hk⟩)]
  exact h.1 k' i' q
theorem frI.is {j j' : Nat} {σ σ' : Hp} {M : AM} (h : frI j σ σ') (hj : j' ≠ j) (hI : isI σ j' M) : isI σ' j' M := by
  have e : ∀ k, σ'.1 k j' = σ.1 k j' := fun k => h.1 k j' (fun q => hj q.1)
  unfold isI at hI ⊢
  rw [e 2, e 7, e 8, e 9]
  exact hI
def setT (M : AM) (T : Nat → Nat) : AM := (M.1, M.2.1, M.2.2.1, T)
theorem wf_setT {M : AM} {T : Nat → Nat} (h : wfM M) (hT : ∀ i, i < M.1 → T i < 64) : wfM (setT M T) := ⟨h.1, fun i hi => ⟨(h.2.1 i hi).1, (h.2.1 i hi).2.1, hT i hi⟩, h.2.2⟩
theorem wt_setT {M : AM} {T : Nat → Nat} (h : M.1 ≤ 40) (hT : ∀ i, i < M.1 → T i < 64) : wfT (setT M T) := ⟨h, hT⟩
/-- one more at a place: only places below n count -/
def partF (n : Nat) (T : Nat → Nat) (l p : Nat) : Nat → Nat :=
  if cntF T (l - 1) (bhF n T l p - ahF T l p) (ahF T l p) = 3 then upN T (nthF T (l - 1) (bhF n T l p - ahF T l p) (ahF T l p) 2) (T (nthF T (l - 1) (bhF n T l p - ahF T l p) (ahF T l p) 2) + 1) else T
theorem isI_up {σ : Hp} {j q v : Nat} {M : AM} (hI : isI σ j M) : isI (hset σ.1 9 j q (nI v), σ.2) j (setT M (upN M.2.2.2 q v)) := by
  refine ⟨by rw [show (hset σ.1 9 j q (nI v), σ.2).1 2 j 3 = σ.1 2 j 3 by simp [hset]]; exact hI.1, fun i hi => ?_⟩
  obtain ⟨h1, h2, h3⟩ := hI.2 i hi
  refine ⟨by simpa [hset, setT] using h1, by simpa [hset, setT] using h2, ?_⟩
  by_cases hq : i = q
  · simp [hset, setT, upN, hq]
  · simpa [hset, setT, upN, hq] using h3
section IT
variable {σ : Hp} {j : Nat} {M : AM}
theorem ev_raise (hI : isI σ j M) (hw : wfT M) {q : Nat} (hq : q < M.1) : Ev 18 [rI j, .inl (nI q)] σ (fun r σ' => r = none ∧ isI σ' j (setT M (upN M.2.2.2 q (M.2.2.2 q + 1))) ∧ frI j σ σ') := by
  have hn := hw.1
  refine G_if rfl (fun h => ?_) (fun h => ?_)
  · exact absurd h (nI_pos (by omega))
  · refine G_if rfl (fun h2 => ?_) (fun h2 => ?_)
    · rw [hI.1] at h2
      exact absurd (ile h2 (by omega) (by omega)) (by omega)
    · refine G_ald rfl q rfl (by omega) (by decide) ?_
      refine G_ast rfl q rfl (by omega) (by decide) ?_
      refine G_ret rfl ⟨rfl, ?_, (frI.rf j σ).st (by decide)⟩
      rw [(hI.2 q hq).2.2, nI_1]
      exact isI_up hI
theorem ev_partIfFull (hI : isI σ j M) (hw : wfT M) {l p : Nat} (hl : 1 ≤ l) (hl2 : l < 64) (hp : p ≤ M.1) : Ev 13 [rI j, .inl (nI l), .inl (nI p)] σ (fun r σ' => r = none ∧ isI σ' j (setT M (partF M.1 M.2.2.2 l p)) ∧ frI j σ σ') := by
  have hn := hw.1
  have ha := ahF_le M.2.2.2 l p
  have hb := bhF_le M.2.2.2 l hp
  have hc := cntF_le M.2.2.2 (l - 1) (bhF M.1 M.2.2.2 l p - ahF M.2.2.2 l p) (ahF M.2.2.2 l p)
  have hl3 : nI l - 1 = nI (l - 1) := by
    obtain ⟨l', rfl⟩ : ∃ l', l = l' + 1 := ⟨l - 1, by omega⟩
    exact nI_pred l'
  refine G_call rfl (ev_ahead hI hw hp (by omega)) ?_
  rintro r1 σ1 ⟨rfl, rfl⟩
  refine G_call rfl (ev_behind hI hw hp (by omega)) ?_
  rintro r1 σ1 ⟨rfl, rfl⟩
  rw [im1_add]
  refine G_callv rfl (by rw [hl3]) (ev_countOf hI hw (h := l - 1) (f := ahF M.2.2.2 l p) (t := bhF M.1 M.2.2.2 l p) (by omega) (by omega) (by omega)) ?_
  rintro r1 σ1 ⟨rfl, rfl⟩
  refine G_if rfl (fun h => ?_) (fun h => ?_)
  · have h2 : ¬ cntF M.2.2.2 (l - 1) (bhF M.1 M.2.2.2 l p - ahF M.2.2.2 l p) (ahF M.2.2.2 l p) = 3 := fun e => h (by rw [e]; rfl)
    refine G_ret rfl ⟨rfl, ?_, frI.rf j _⟩
    rw [partF, if_neg h2]
    exact hI
  · have h2 : cntF M.2.2.2 (l - 1) (bhF M.1 M.2.2.2 l p - ahF M.2.2.2 l p) (ahF M.2.2.2 l p) = 3 := ieq (b := 3) (Classical.not_not.mp h) (by omega) (by decide)
    obtain ⟨n1, n2, n3⟩ := nthF_in M.2.2.2 (l - 1) (bhF M.1 M.2.2.2 l p - ahF M.2.2.2 l p) (ahF M.2.2.2 l p) 2 (by decide) (by omega)
    refine G_callv rfl (by rw [hl3]; rfl) (ev_nth hI hw (k := 2) (h := l - 1) (f := ahF M.2.2.2 l p) (t := bhF M.1 M.2.2.2 l p) (by omega) (by omega) (by omega) (by decide) (by omega)) ?_
    rintro r1 σ1 ⟨rfl, rfl⟩
    refine G_call rfl (ev_raise hI hw (by omega)) ?_
    rintro r1 σ1 ⟨rfl, h3, h4⟩
    refine G_ret rfl ⟨rfl, ?_, h4⟩
    rw [partF, if_pos h2]
    exact h3
end IT
end
section
/-! Items: places opened and closed. -/
def insM (M : AM) (p k v h : Nat) : AM := (M.1 + 1, insF M.2.1 p k, insF M.2.2.1 p v, insF M.2.2.2 p h)
def delM (M : AM) (p : Nat) : AM := (M.1 - 1, delF M.2.1 p, delF M.2.2.1 p, delF M.2.2.2 p)
def shU (σ : Hp) (k j n i : Nat) (f : Nat → Nat) : Prop := (∀ x, x < i → σ.1 k j x = nI (f x)) ∧ ∀ x, i < x → x ≤ n → σ.1 k j x = nI (f (x - 1))
def shD (σ : Hp) (k j n i p : Nat) (f : Nat → Nat) : Prop := (∀ x, x < i → σ.1 k j x = nI (delF f p x)) ∧ ∀ x, i < x → x < n → σ.1 k j x = nI (f x)
section IT
variable {σ : Hp} {j : Nat} {M : AM}
theorem ev_openAt (hI : isI σ j M) {p k v h : Nat} (hn : M.1 < 40) (hp : p ≤ M.1) : Ev 7 [rI j, .inl (nI p), .inl (nI k), .inl (nI v), .inl (nI h)] σ (fun r σ' => r = none ∧ isI σ' j (insM M p k v h) ∧ frI j σ σ') := by
  have loop : ∀ (d : Nat) (x : Int32) (σ1 : Hp), x = nI (p + d) → p + d ≤ M.1 → σ1.1 2 j 3 = nI M.1 → shU σ1 7 j M.1 (p + d) M.2.1 → shU σ1 8 j M.1 (p + d) M.2.2.1 → shU σ1 9 j M.1 (p + d) M.2.2.2 → frI j σ σ1 →
      RR 7 28 [some (rI j), some (.inl (nI p)), some (.inl (nI k)), some (.inl (nI v)), some (.inl (nI h)), some (.inl x)] [] σ1 (fun r σ' => r = none ∧ isI σ' j (insM M p k v h) ∧ frI j σ σ') := by
    intro d
    induction d with
    | zero =>
      intro x σ1 hx hd hs h7 h8 h9 hf
      refine G_if rfl (fun q => ?_) (fun q => ?_)
      · refine G_ast rfl p rfl (by omega) (by decide) ?_
        refine G_ast rfl p rfl (by omega) (by decide) ?_
        refine G_ast rfl p rfl (by omega) (by decide) ?_
        refine G_ret rfl ⟨rfl, ⟨?_, fun i hi => ?_⟩, (((hf.st (by decide)).st (by decide)).st (by decide)).st (by decide)⟩
        · simp only [hset, insM]
          simp [hs, nI_1]
        · have hi : i < M.1 + 1 := hi
          have a7 := h7.1 i
          have b7 := h7.2 i
          have a8 := h8.1 i
          have b8 := h8.2 i
          have a9 := h9.1 i
          have b9 := h9.2 i
          rcases Nat.lt_trichotomy i p with hip | hip | hip
          · refine ⟨?_, ?_, ?_⟩ <;> simp [hset, insM, insF, hip, Nat.ne_of_lt hip]
            · exact a7 (by omega)
            · exact a8 (by omega)
            · exact a9 (by omega)
          · subst hip
            refine ⟨?_, ?_, ?_⟩ <;> simp [hset, insM, insF]
          · have h1 : ¬ i < p := by omega
            have h2 : ¬ i = p := by omega
            refine ⟨?_, ?_, ?_⟩ <;> simp [hset, insM, insF, h1, h2]
            · exact b7 (by omega) (by omega)
            · exact b8 (by omega) (by omega)
            · exact b9 (by omega) (by omega)
      · rw [hx] at q
        exact absurd (nle q (by omega) (by omega)) (by omega)
    | succ d ih =>
      intro x σ1 hx hd hs h7 h8 h9 hf
      have hd' : x - 1 = nI (p + d) := by rw [hx]; exact nI_pred (p + d)
      refine G_if rfl (fun q => ?_) (fun q => ?_)
      · rw [hx] at q
        exact absurd (ile q (by omega) (by omega)) (by omega)
      · refine G_ald rfl (p + d) hd' (by omega) (by decide) ?_
        refine G_ast rfl (p + (d + 1)) hx (by omega) (by decide) ?_
        refine G_ald rfl (p + d) hd' (by omega) (by decide) ?_
        refine G_ast rfl (p + (d + 1)) hx (by omega) (by decide) ?_
        refine G_ald rfl (p + d) hd' (by omega) (by decide) ?_
        refine G_ast rfl (p + (d + 1)) hx (by omega) (by decide) ?_
        refine G_to [28] rfl ?_
        refine ih _ _ (by rw [hx]; exact pk_m1 (p + d)) (by omega) ?_ ⟨fun y hy => ?_, fun y hy hy2 => ?_⟩ ⟨fun y hy => ?_, fun y hy hy2 => ?_⟩ ⟨fun y hy => ?_, fun y hy hy2 => ?_⟩ (((hf.st (by decide)).st (by decide)).st (by decide))
        · simpa [hset] using hs
        · have := h7.1 y (by omega)
          simpa [hset, show ¬ y = p + (d + 1) by omega] using this
        · by_cases hyy : y = p + (d + 1)
          · have := h7.1 (p + d) (by omega)
            subst hyy
            simpa [hset] using this
          · have := h7.2 y (by omega) hy2
            simpa [hset, hyy] using this
        · have := h8.1 y (by omega)
          simpa [hset, show ¬ y = p + (d + 1) by omega] using this
        · by_cases hyy : y = p + (d + 1)
          · have := h8.1 (p + d) (by omega)
            subst hyy
            simpa [hset] using this
          · have := h8.2 y (by omega) hy2
            simpa [hset, hyy] using this
        · have := h9.1 y (by omega)
          simpa [hset, show ¬ y = p + (d + 1) by omega] using this
        · by_cases hyy : y = p + (d + 1)
          · have := h9.1 (p + d) (by omega)
            subst hyy
            simpa [hset] using this
          · have := h9.2 y (by omega) hy2
            simpa [hset, hyy] using this
  refine G_if rfl (fun q => ?_) (fun q => ?_)
  · rw [hI.1] at q
    exact absurd (ile (a := 40) q (by omega) (by omega)) (by omega)
  · refine G_if rfl (fun q => ?_) (fun q => ?_)
    · exact absurd q (nI_pos (by omega))
    · refine G_if rfl (fun q => ?_) (fun q => ?_)
      · refine G_to [28] rfl ?_
        exact loop (M.1 - p) _ σ (by rw [hI.1, show p + (M.1 - p) = M.1 by omega]) (by omega) hI.1 ⟨fun y hy => (hI.2 y (by omega)).1, fun y h1 h2 => by omega⟩ ⟨fun y hy => (hI.2 y (by omega)).2.1, fun y h1 h2 => by omega⟩ ⟨fun y hy => (hI.2 y (by omega)).2.2, fun y h1 h2 => by omega⟩ (frI.rf j σ)
      · rw [hI.1] at q
        exact absurd (nle q (by omega) (by omega)) (by omega)
theorem ev_closeAt (hI : isI σ j M) {p : Nat} (hn : M.1 ≤ 40) (hp : p < M.1) : Ev 24 [rI j, .inl (nI p)] σ (fun r σ' => r = none ∧ isI σ' j (delM M p) ∧ frI j σ σ') := by
  have loop : ∀ (m i : Nat) (x : Int32) (σ1 : Hp), x = nI i → i + m = M.1 - 1 → p ≤ i → σ1.1 2 j 3 = nI (M.1 - 1) → shD σ1 7 j M.1 i p M.2.1 → shD σ1 8 j M.1 i p M.2.2.1 → shD σ1 9 j M.1 i p M.2.2.2 → frI j σ σ1 →
      RR 24 25 [some (rI j), some (.inl (nI p)), some (.inl x)] [] σ1 (fun r σ' => r = none ∧ isI σ' j (delM M p) ∧ frI j σ σ') := by
    intro m
    induction m with
    | zero =>
      intro i x σ1 hx hi hpi hs h7 h8 h9 hf
      refine G_if rfl (fun q => ?_) (fun q => ?_)
      · refine G_ret rfl ⟨rfl, ⟨hs, fun y hy => ?_⟩, hf⟩
        have hy : y < M.1 - 1 := hy
        exact ⟨h7.1 y (by omega), h8.1 y (by omega), h9.1 y (by omega)⟩
      · rw [hs, hx] at q
        exact absurd (nle q (by omega) (by omega)) (by omega)
    | succ m ih =>
      intro i x σ1 hx hi hpi hs h7 h8 h9 hf
      have hx1 : x + 1 = nI (i + 1) := by rw [hx]; exact nI_1 i
      refine G_if rfl (fun q => ?_) (fun q => ?_)
      · rw [hs, hx] at q
        exact absurd (ile q (by omega) (by omega)) (by omega)
      · refine G_ald rfl (i + 1) hx1 (by omega) (by decide) ?_
        refine G_ast rfl i hx (by omega) (by decide) ?_
        refine G_ald rfl (i + 1) hx1 (by omega) (by decide) ?_
        refine G_ast rfl i hx (by omega) (by decide) ?_
        refine G_ald rfl (i + 1) hx1 (by omega) (by decide) ?_
        refine G_ast rfl i hx (by omega) (by decide) ?_
        refine G_to [25] rfl ?_
        refine ih (i + 1) _ _ hx1 (by omega) (by omega) ?_ ⟨fun y hy => ?_, fun y hy hy2 => ?_⟩ ⟨fun y hy => ?_, fun y hy hy2 => ?_⟩ ⟨fun y hy => ?_, fun y hy hy2 => ?_⟩ (((hf.st (by decide)).st (by decide)).st (by decide))
        · simpa [hset] using hs
        · by_cases hyy : y = i
          · have := h7.2 (i + 1) (by omega) (by omega)
            subst hyy
            simpa [hset, delF, show ¬ y < p by omega] using this
          · have := h7.1 y (by omega)
            simpa [hset, hyy] using this
        · have := h7.2 y (by omega) hy2
          simpa [hset, show ¬ y = i by omega] using this
        · by_cases hyy : y = i
          · have := h8.2 (i + 1) (by omega) (by omega)
            subst hyy
            simpa [hset, delF, show ¬ y < p by omega] using this
          · have := h8.1 y (by omega)
            simpa [hset, hyy] using this
        · have := h8.2 y (by omega) hy2
          simpa [hset, show ¬ y = i by omega] using this
        · by_cases hyy : y = i
          · have := h9.2 (i + 1) (by omega) (by omega)
            subst hyy
            simpa [hset, delF, show ¬ y < p by omega] using this
          · have := h9.1 y (by omega)
            simpa [hset, hyy] using this
        · have := h9.2 y (by omega) hy2
          simpa [hset, show ¬ y = i by omega] using this
  refine G_if rfl (fun q => ?_) (fun q => ?_)
  · exact absurd q (nI_pos (by omega))
  · refine G_if rfl (fun q => ?_) (fun q => ?_)
    · refine G_to [25] rfl ?_
      have hdl : ∀ (f : Nat → Nat) (y : Nat), y < p → delF f p y = f y := fun f y hy => by simp [delF, hy]
      refine loop (M.1 - 1 - p) p _ _ rfl (by omega) (Nat.le_refl _) ?_ ⟨fun y hy => ?_, fun y h1 h2 => ?_⟩ ⟨fun y hy => ?_, fun y h1 h2 => ?_⟩ ⟨fun y hy => ?_, fun y h1 h2 => ?_⟩ ((frI.rf j σ).st (by decide))
      · show hset σ.1 2 j 3 (σ.1 2 j 3 - 1) 2 j 3 = _
        unfold hset
        rw [if_pos ⟨rfl, rfl, rfl⟩, hI.1]
        obtain ⟨n', hn'⟩ : ∃ n', M.1 = n' + 1 := ⟨M.1 - 1, by omega⟩
        rw [hn']
        exact nI_pred n'
      · rw [hdl _ _ hy]
        simpa [hset] using (hI.2 y (by omega)).1
      · simpa [hset] using (hI.2 y (by omega)).1
      · rw [hdl _ _ hy]
        simpa [hset] using (hI.2 y (by omega)).2.1
      · simpa [hset] using (hI.2 y (by omega)).2.1
      · rw [hdl _ _ hy]
        simpa [hset] using (hI.2 y (by omega)).2.2
      · simpa [hset] using (hI.2 y (by omega)).2.2
    · rw [hI.1] at q
      exact absurd (nlt q (by omega) (by omega)) (by omega)
/-- two neighbours change places, but for their heights -/
def swpF (f : Nat → Nat) (p : Nat) : Nat → Nat := fun i => if i = p then f (p + 1) else if i = p + 1 then f p else f i
theorem ev_changePlaces (hI : isI σ j M) {p : Nat} (hn : M.1 ≤ 40) (hp : p + 1 < M.1) : Ev 20 [rI j, .inl (nI p)] σ (fun r σ' => r = none ∧ isI σ' j (M.1, swpF M.2.1 p, swpF M.2.2.1 p, M.2.2.2) ∧ frI j σ σ') := by
  refine G_ald rfl p rfl (by omega) (by decide) ?_
  refine G_ald rfl p rfl (by omega) (by decide) ?_
  refine G_ald rfl (p + 1) (nI_1 p) (by omega) (by decide) ?_
  refine G_ast rfl p rfl (by omega) (by decide) ?_
  refine G_ald rfl (p + 1) (nI_1 p) (by omega) (by decide) ?_
  refine G_ast rfl p rfl (by omega) (by decide) ?_
  refine G_ast rfl (p + 1) (nI_1 p) (by omega) (by decide) ?_
  refine G_ast rfl (p + 1) (nI_1 p) (by omega) (by decide) ?_
  refine G_ret rfl ⟨rfl, ⟨by simpa [hset] using hI.1, fun i hi => ?_⟩, ((((frI.rf j σ).st (by decide)).st (by decide)).st (by decide)).st (by decide)⟩
  have hi : i < M.1 := hi
  obtain ⟨a1, a2, a3⟩ := hI.2 i hi
  obtain ⟨b1, b2, b3⟩ := hI.2 p (by omega)
  obtain ⟨c1, c2, c3⟩ := hI.2 (p + 1) (by omega)
  rcases Nat.lt_trichotomy i p with hip | hip | hip
  · refine ⟨?_, ?_, ?_⟩ <;> simp [hset, swpF, show ¬ i = p by omega, show ¬ i = p + 1 by omega, a1, a2, a3]
  · subst hip
    refine ⟨?_, ?_, ?_⟩ <;> simp [hset, swpF, c1, c2, a3]
  · by_cases hip2 : i = p + 1
    · subst hip2
      refine ⟨?_, ?_, ?_⟩ <;> simp [hset, swpF, b1, b2, a3]
    · refine ⟨?_, ?_, ?_⟩ <;> simp [hset, swpF, show ¬ i = p by omega, hip2, a1, a2, a3]
end IT
end
section
/-! Items: poor gaps are helped; a key put in, taken out. -/
def hB1 (n : Nat) (T : Nat → Nat) (l f : Nat) : Nat → Nat :=
  if 2 ≤ cntF T (l - 1) (bhF n T l (f + 1) - (f + 1)) (f + 1) then upN T (nthF T (l - 1) (bhF n T l (f + 1) - (f + 1)) (f + 1) 1) (T (nthF T (l - 1) (bhF n T l (f + 1) - (f + 1)) (f + 1) 1) + 1) else T
def helpB (n : Nat) (T : Nat → Nat) (l f : Nat) : Nat → Nat := upN (hB1 n T l f) f (hB1 n T l f f - 1)
def hA1 (T : Nat → Nat) (l f : Nat) : Nat → Nat :=
  if 2 ≤ cntF T (l - 1) (f - ahF T l f) (ahF T l f) then upN T (nthF T (l - 1) (f - ahF T l f) (ahF T l f) (cntF T (l - 1) (f - ahF T l f) (ahF T l f))) (T (nthF T (l - 1) (f - ahF T l f) (ahF T l f) (cntF T (l - 1) (f - ahF T l f) (ahF T l f))) + 1) else T
def helpA (T : Nat → Nat) (l f : Nat) : Nat → Nat := upN (hA1 T l f) f (hA1 T l f f - 1)
def helpF (n : Nat) (T : Nat → Nat) (l p : Nat) : Nat → Nat :=
  if cntF T (l - 1) (bhF n T l p - ahF T l p) (ahF T l p) = 1 then
    (if bhF n T l p < n ∧ T (bhF n T l p) = l then helpB n T l (bhF n T l p) else if 0 < ahF T l p then helpA T l (ahF T l p - 1) else T)
  else T
theorem ahF_at (T : Nat → Nat) (l : Nat) : ∀ p q, ahF T l p = q + 1 → l ≤ T q
  | 0, q, h => by simp [ahF] at h
  | p + 1, q, h => by
    unfold ahF at h
    split at h
    · exact ahF_at T l p q h
    · have : p = q := by omega
      subst this
      omega
theorem lm1 {l : Nat} (h : 1 ≤ l) : nI l - 1 = nI (l - 1) := by
  obtain ⟨l', rfl⟩ : ∃ l', l = l' + 1 := ⟨l - 1, by omega⟩
  exact nI_pred l'
section IT
variable {σ : Hp} {j : Nat} {M : AM}
theorem ev_helpFromBehind (hI : isI σ j M) (hw : wfT M) {l f : Nat} (hl : 1 ≤ l) (hl2 : l < 63) (hf : f < M.1) (hTf : l ≤ M.2.2.2 f) : Ev 22 [rI j, .inl (nI l), .inl (nI f)] σ (fun r σ' => r = none ∧ isI σ' j (setT M (helpB M.1 M.2.2.2 l f)) ∧ frI j σ σ') := by
  have hn := hw.1
  have hb := bhF_le M.2.2.2 l (show f + 1 ≤ M.1 by omega)
  have hc := cntF_le M.2.2.2 (l - 1) (bhF M.1 M.2.2.2 l (f + 1) - (f + 1)) (f + 1)
  refine G_callv rfl (by rw [nI_1]) (ev_behind hI hw (p := f + 1) (l := l) (by omega) (by omega)) ?_
  rintro r1 σ1 ⟨rfl, rfl⟩
  refine G_callv rfl (by rw [nI_1, lm1 hl]) (ev_countOf hI hw (h := l - 1) (f := f + 1) (t := bhF M.1 M.2.2.2 l (f + 1)) (by omega) (by omega) (by omega)) ?_
  rintro r1 σ1 ⟨rfl, rfl⟩
  have fin : ∀ (σ2 : Hp) (T1 : Nat → Nat), isI σ2 j (setT M T1) → (∀ i, i < M.1 → T1 i < 64) → T1 f = M.2.2.2 f → frI j σ1 σ2 → ∀ (x3 : Int32), RR 22 40 [some (rI j), some (.inl (nI l)), some (.inl (nI f)), some (.inl x3)] [] σ2 (fun r σ' => r = none ∧ isI σ' j (setT M (upN T1 f (T1 f - 1))) ∧ frI j σ1 σ') := by
    intro σ2 T1 hI2 hT1 hT1f hfr x3
    refine G_ald rfl f rfl (by omega) (by decide) ?_
    refine G_ast rfl f rfl (by omega) (by decide) ?_
    refine G_ret rfl ⟨rfl, ?_, hfr.st (by decide)⟩
    rw [(hI2.2 f hf).2.2]
    show isI (hset σ2.1 9 j f (nI (T1 f) - 1), σ2.2) j _
    rw [lm1 (by omega)]
    exact isI_up hI2
  refine G_if rfl (fun h => ?_) (fun h => ?_)
  · have h := ilt (b := 2) h (by omega) (by decide)
    have := fin σ1 M.2.2.2 hI (fun i hi => hw.2 i hi) rfl (frI.rf j σ1) (nI (bhF M.1 M.2.2.2 l (f + 1)))
    unfold helpB hB1
    simp only [if_neg (show ¬ 2 ≤ cntF M.2.2.2 (l - 1) (bhF M.1 M.2.2.2 l (f + 1) - (f + 1)) (f + 1) by omega)]
    exact this
  · have h := nlt (b := 2) h (by omega) (by decide)
    obtain ⟨n1, n2, n3⟩ := nthF_in M.2.2.2 (l - 1) (bhF M.1 M.2.2.2 l (f + 1) - (f + 1)) (f + 1) 1 (by decide) (by omega)
    refine G_callv rfl (by rw [nI_1, lm1 hl]; rfl) (ev_nth hI hw (k := 1) (h := l - 1) (f := f + 1) (t := bhF M.1 M.2.2.2 l (f + 1)) (by omega) (by omega) (by omega) (by decide) (by omega)) ?_
    rintro r1 σ2 ⟨rfl, rfl⟩
    refine G_call rfl (ev_raise hI hw (by omega)) ?_
    rintro r1 σ3 ⟨rfl, h3, h4⟩
    have := fin σ3 _ h3 (fun i hi => by
      have := hw.2 i hi
      unfold upN
      split <;> omega) (by unfold upN; rw [if_neg (by omega)]) h4 (nI (bhF M.1 M.2.2.2 l (f + 1)))
    unfold helpB hB1
    simp only [if_pos h]
    exact this
theorem ev_helpFromAhead (hI : isI σ j M) (hw : wfT M) {l f : Nat} (hl : 1 ≤ l) (hl2 : l < 63) (hf : f < M.1) (hTf : l ≤ M.2.2.2 f) : Ev 23 [rI j, .inl (nI l), .inl (nI f)] σ (fun r σ' => r = none ∧ isI σ' j (setT M (helpA M.2.2.2 l f)) ∧ frI j σ σ') := by
  have hn := hw.1
  have hb := ahF_le M.2.2.2 l f
  have hc := cntF_le M.2.2.2 (l - 1) (f - ahF M.2.2.2 l f) (ahF M.2.2.2 l f)
  refine G_call rfl (ev_ahead hI hw (p := f) (l := l) (by omega) (by omega)) ?_
  rintro r1 σ1 ⟨rfl, rfl⟩
  refine G_callv rfl (by rw [im1_add, lm1 hl]) (ev_countOf hI hw (h := l - 1) (f := ahF M.2.2.2 l f) (t := f) (by omega) (by omega) (by omega)) ?_
  rintro r1 σ1 ⟨rfl, rfl⟩
  have fin : ∀ (σ2 : Hp) (T1 : Nat → Nat), isI σ2 j (setT M T1) → (∀ i, i < M.1 → T1 i < 64) → T1 f = M.2.2.2 f → frI j σ1 σ2 → ∀ (x3 x4 : Int32), RR 23 41 [some (rI j), some (.inl (nI l)), some (.inl (nI f)), some (.inl x3), some (.inl x4)] [] σ2 (fun r σ' => r = none ∧ isI σ' j (setT M (upN T1 f (T1 f - 1))) ∧ frI j σ1 σ') := by
    intro σ2 T1 hI2 hT1 hT1f hfr x3 x4
    refine G_ald rfl f rfl (by omega) (by decide) ?_
    refine G_ast rfl f rfl (by omega) (by decide) ?_
    refine G_ret rfl ⟨rfl, ?_, hfr.st (by decide)⟩
    rw [(hI2.2 f hf).2.2]
    show isI (hset σ2.1 9 j f (nI (T1 f) - 1), σ2.2) j _
    rw [lm1 (by omega)]
    exact isI_up hI2
  refine G_if rfl (fun h => ?_) (fun h => ?_)
  · have h := ilt (b := 2) h (by omega) (by decide)
    have := fin σ1 M.2.2.2 hI (fun i hi => hw.2 i hi) rfl (frI.rf j σ1) (nI (ahF M.2.2.2 l f) - 1 + 1) (nI (cntF M.2.2.2 (l - 1) (f - ahF M.2.2.2 l f) (ahF M.2.2.2 l f)))
    unfold helpA hA1
    simp only [if_neg (show ¬ 2 ≤ cntF M.2.2.2 (l - 1) (f - ahF M.2.2.2 l f) (ahF M.2.2.2 l f) by omega)]
    exact this
  · have h := nlt (b := 2) h (by omega) (by decide)
    obtain ⟨n1, n2, n3⟩ := nthF_in M.2.2.2 (l - 1) (f - ahF M.2.2.2 l f) (ahF M.2.2.2 l f) (cntF M.2.2.2 (l - 1) (f - ahF M.2.2.2 l f) (ahF M.2.2.2 l f)) (by omega) (by omega)
    refine G_callv rfl (by rw [im1_add, lm1 hl]) (ev_nth hI hw (k := cntF M.2.2.2 (l - 1) (f - ahF M.2.2.2 l f) (ahF M.2.2.2 l f)) (h := l - 1) (f := ahF M.2.2.2 l f) (t := f) (by omega) (by omega) (by omega) (by omega) (by omega)) ?_
    rintro r1 σ2 ⟨rfl, rfl⟩
    refine G_call rfl (ev_raise hI hw (by omega)) ?_
    rintro r1 σ3 ⟨rfl, h3, h4⟩
    have := fin σ3 _ h3 (fun i hi => by
      have := hw.2 i hi
      unfold upN
      split <;> omega) (by unfold upN; rw [if_neg (by omega)]) h4 (nI (ahF M.2.2.2 l f) - 1 + 1) (nI (cntF M.2.2.2 (l - 1) (f - ahF M.2.2.2 l f) (ahF M.2.2.2 l f)))
    unfold helpA hA1
    simp only [if_pos h]
    exact this
theorem ev_helpIfPoor (hI : isI σ j M) (hw : wfT M) {l p : Nat} (hl : 1 ≤ l) (hl2 : l < 63) (hp : p ≤ M.1) : Ev 21 [rI j, .inl (nI l), .inl (nI p)] σ (fun r σ' => r = none ∧ isI σ' j (setT M (helpF M.1 M.2.2.2 l p)) ∧ frI j σ σ') := by
  have hn := hw.1
  have ha := ahF_le M.2.2.2 l p
  have hb := bhF_le M.2.2.2 l hp
  have hc := cntF_le M.2.2.2 (l - 1) (bhF M.1 M.2.2.2 l p - ahF M.2.2.2 l p) (ahF M.2.2.2 l p)
  refine G_call rfl (ev_ahead hI hw hp (by omega)) ?_
  rintro r1 σ1 ⟨rfl, rfl⟩
  refine G_call rfl (ev_behind hI hw hp (by omega)) ?_
  rintro r1 σ1 ⟨rfl, rfl⟩
  refine G_callv rfl (by rw [lm1 hl, im1_add]) (ev_countOf hI hw (h := l - 1) (f := ahF M.2.2.2 l p) (t := bhF M.1 M.2.2.2 l p) (by omega) (by omega) (by omega)) ?_
  rintro r1 σ1 ⟨rfl, rfl⟩
  refine G_if rfl (fun h => ?_) (fun h => ?_)
  · have h := ieq (b := 1) h (by omega) (by decide)
    unfold helpF
    rw [if_pos h]
    have els : ¬ (bhF M.1 M.2.2.2 l p < M.1 ∧ M.2.2.2 (bhF M.1 M.2.2.2 l p) = l) → RR 21 62 [some (rI j), some (.inl (nI l)), some (.inl (nI p)), some (.inl (nI (ahF M.2.2.2 l p) - 1)), some (.inl (nI (bhF M.1 M.2.2.2 l p)))] [] σ1 (fun r σ' => r = none ∧ isI σ' j (setT M (if bhF M.1 M.2.2.2 l p < M.1 ∧ M.2.2.2 (bhF M.1 M.2.2.2 l p) = l then helpB M.1 M.2.2.2 l (bhF M.1 M.2.2.2 l p) else if 0 < ahF M.2.2.2 l p then helpA M.2.2.2 l (ahF M.2.2.2 l p - 1) else M.2.2.2)) ∧ frI j σ1 σ') := by
      intro hno
      rw [if_neg hno]
      refine G_if rfl (fun q => ?_) (fun q => ?_)
      · have q := (im1_lt (by omega)).mp q
        rw [if_neg (by omega)]
        exact G_ret rfl ⟨rfl, hI, frI.rf j _⟩
      · have q : 0 < ahF M.2.2.2 l p := by
          rcases Nat.eq_zero_or_pos (ahF M.2.2.2 l p) with h0 | h0
          · exact absurd ((im1_lt (by omega)).mpr h0) q
          · exact h0
        rw [if_pos q]
        have hat := ahF_at M.2.2.2 l p (ahF M.2.2.2 l p - 1) (by omega)
        refine G_callv rfl (by rw [lm1 q]) (ev_helpFromAhead hI hw hl hl2 (f := ahF M.2.2.2 l p - 1) (by omega) hat) ?_
        rintro r1 σ2 ⟨rfl, h3, h4⟩
        exact G_ret rfl ⟨rfl, h3, h4⟩
    refine G_if rfl (fun q => ?_) (fun q => ?_)
    · rw [hI.1] at q
      have q := ile q (by omega) (by omega)
      exact els (by omega)
    · rw [hI.1] at q
      have q := nle q (by omega) (by omega)
      refine G_ald rfl (bhF M.1 M.2.2.2 l p) rfl (by omega) (by decide) ?_
      rw [(hI.2 _ q).2.2]
      have hT := hw.2 _ q
      refine G_if rfl (fun q2 => ?_) (fun q2 => ?_)
      · exact els (fun e => q2 (by rw [e.2]))
      · have q2 := ieq (Classical.not_not.mp q2) (by omega) (by omega)
        rw [if_pos ⟨q, q2⟩]
        refine G_call rfl (ev_helpFromBehind hI hw hl hl2 q (by omega)) ?_
        rintro r1 σ2 ⟨rfl, h3, h4⟩
        exact G_ret rfl ⟨rfl, h3, h4⟩
  · have h : ¬ cntF M.2.2.2 (l - 1) (bhF M.1 M.2.2.2 l p - ahF M.2.2.2 l p) (ahF M.2.2.2 l p) = 1 := fun e => h (by rw [e]; rfl)
    unfold helpF
    rw [if_neg h]
    exact G_ret rfl ⟨rfl, hI, frI.rf j _⟩
end IT
end
section
/-! Items: a key put in, taken out. -/
def partL (n p : Nat) : Nat → (Nat → Nat) → (Nat → Nat)
  | 0, T => T
  | l + 1, T => partL n p l (partF n T (l + 1) p)
def helpL (n p : Nat) : Nat → (Nat → Nat) → (Nat → Nat)
  | 0, T => T
  | l + 1, T => helpL n p l (helpF n T (l + 1) p)
theorem partF_le {n l p b : Nat} {T : Nat → Nat} (hl : l ≤ b) (hp : p ≤ n) (h : ∀ i, i < n → T i ≤ b) (h1 : 1 ≤ l) : ∀ i, i < n → partF n T l p i ≤ b := by
  intro i hi
  unfold partF
  split
  · next hc =>
    have ha := ahF_le T l p
    have hb := bhF_le T l hp
    obtain ⟨n1, n2, n3⟩ := nthF_in T (l - 1) (bhF n T l p - ahF T l p) (ahF T l p) 2 (by decide) (by omega)
    unfold upN
    split
    · omega
    · exact h i hi
  · exact h i hi
theorem helpF_le {n l p b : Nat} {T : Nat → Nat} (hl : l ≤ b) (hp : p ≤ n) (h : ∀ i, i < n → T i ≤ b) (h1 : 1 ≤ l) : ∀ i, i < n → helpF n T l p i ≤ b := by
  intro i hi
  have hi2 := h i hi
  unfold helpF
  split
  · split
    · next hc hq =>
      unfold helpB hB1
      have hb := bhF_le T l (show bhF n T l p + 1 ≤ n by omega)
      split
      · next hc2 =>
        obtain ⟨n1, n2, n3⟩ := nthF_in T (l - 1) (bhF n T l (bhF n T l p + 1) - (bhF n T l p + 1)) (bhF n T l p + 1) 1 (by decide) (by omega)
        have hfi := h _ hq.1
        unfold upN
        split
        · rw [if_neg (by omega)]
          omega
        · split <;> omega
      · have hfi := h _ hq.1
        unfold upN
        split <;> omega
    · split
      · next hc hq ha =>
        have hap := ahF_le T l p
        have hfi := h (ahF T l p - 1) (by omega)
        have hfa := ahF_le T l (ahF T l p - 1)
        unfold helpA hA1
        split
        · next hc2 =>
          obtain ⟨n1, n2, n3⟩ := nthF_in T (l - 1) (ahF T l p - 1 - ahF T l (ahF T l p - 1)) (ahF T l (ahF T l p - 1)) (cntF T (l - 1) (ahF T l p - 1 - ahF T l (ahF T l p - 1)) (ahF T l (ahF T l p - 1))) (by omega) (by omega)
          unfold upN
          split
          · rw [if_neg (by omega)]
            omega
          · split <;> omega
        · unfold upN
          split <;> omega
      · exact hi2
  · exact hi2
def placeM (M : AM) (key v : Nat) : AM := insM (setT M (partL M.1 (les M key) (topF M.2.2.2 M.1) M.2.2.2)) (les M key) key v 0
def setV (M : AM) (p v : Nat) : AM := (M.1, M.2.1, upN M.2.2.1 p v, M.2.2.2)
def outP (M : AM) (p : Nat) : Nat := if 0 < M.2.2.2 p ∧ p + 1 < M.1 then p + 1 else p
def outM (M : AM) (p : Nat) : AM := (M.1 - 1, delF M.2.1 p, delF M.2.2.1 p, delF (helpL M.1 (outP M p) (topF M.2.2.2 M.1 - 1) M.2.2.2) (outP M p))
theorem del_swp (f : Nat → Nat) (p : Nat) : delF (swpF f p) (p + 1) = delF f p := by
  funext i
  unfold delF swpF
  rcases Nat.lt_trichotomy i p with h | h | h
  · rw [if_pos (by omega), if_neg (by omega), if_neg (by omega), if_pos h]
  · subst h
    simp
  · rw [if_neg (by omega), if_neg (by omega), if_neg (by omega), if_neg (by omega)]
/-- heights are less than 40 -/
def lowM (M : AM) : Prop := ∀ i, i < M.1 → M.2.2.2 i < 40
theorem low_top {M : AM} (h : lowM M) : topF M.2.2.2 M.1 ≤ 40 := topF_le _ h
section IT
variable {σ : Hp} {j : Nat} {M : AM}
theorem ev_place (hI : isI σ j M) (hw : wfM M) (hlow : lowM M) {key v : Nat} (hk : key < 100) (hv : v < 1000000) : Ev 11 [rI j, .inl (nI key), .inl (nI v)] σ (fun r σ' => (¬ has M key ∧ 40 ≤ M.1 ∧ r = some (.inl 0) ∧ σ' = σ) ∨ (has M key ∧ r = some (.inl 1) ∧ isI σ' j (setV M (les M key) v) ∧ frI j σ σ') ∨ (¬ has M key ∧ M.1 < 40 ∧ r = some (.inl 1) ∧ isI σ' j (placeM M key v) ∧ frI j σ σ')) := by
  have hn := hw.1
  have hle := les_le M key
  have htop := low_top hlow
  refine G_call rfl (ev_lesser hI hw (by omega)) ?_
  rintro r1 σ1 ⟨rfl, rfl⟩
  have els : ¬ has M key → RR 11 33 [some (rI j), some (.inl (nI key)), some (.inl (nI v)), some (.inl (nI (les M key))), none] [] σ1 (fun r σ' => (¬ has M key ∧ 40 ≤ M.1 ∧ r = some (.inl 0) ∧ σ' = σ1) ∨ (has M key ∧ r = some (.inl 1) ∧ isI σ' j (setV M (les M key) v) ∧ frI j σ1 σ') ∨ (¬ has M key ∧ M.1 < 40 ∧ r = some (.inl 1) ∧ isI σ' j (placeM M key v) ∧ frI j σ1 σ')) := by
    intro hno
    refine G_if rfl (fun q => ?_) (fun q => ?_)
    · rw [hI.1] at q
      have q := ilt (b := 40) q (by omega) (by decide)
      refine G_call rfl (ev_top hI hw.t) ?_
      rintro r1 σ2 ⟨rfl, rfl⟩
      have loop : ∀ (l : Nat) (x : Int32) (σ3 : Hp) (T : Nat → Nat), x = nI l → l ≤ 40 → (∀ i, i < M.1 → T i ≤ 40) → isI σ3 j (setT M T) → frI j σ2 σ3 → RR 11 50 [some (rI j), some (.inl (nI key)), some (.inl (nI v)), some (.inl (nI (les M key))), some (.inl x)] [] σ3 (fun r σ' => r = some (.inl 1) ∧ isI σ' j (insM (setT M (partL M.1 (les M key) l T)) (les M key) key v 0) ∧ frI j σ2 σ') := by
        intro l
        induction l with
        | zero =>
          intro x σ3 T hx hl hT hI3 hf
          refine G_if rfl (fun q2 => ?_) (fun q2 => ?_)
          · refine G_callv rfl rfl (ev_openAt hI3 (p := les M key) (k := key) (v := v) (h := 0) q hle) ?_
            rintro r1 σ4 ⟨rfl, h3, h4⟩
            exact G_retZ rfl (Or.inr rfl) ⟨rfl, h3, hf.tr h4⟩
          · rw [hx] at q2
            exact absurd (nlt (b := 1) q2 (by decide) (by decide)) (by decide)
        | succ l ih =>
          intro x σ3 T hx hl hT hI3 hf
          have hw3 : wfT (setT M T) := wt_setT hn (fun i hi => by have := hT i hi; omega)
          refine G_if rfl (fun q2 => ?_) (fun q2 => ?_)
          · rw [hx] at q2
            exact absurd (ilt (b := 1) q2 (by omega) (by decide)) (by omega)
          · refine G_callv rfl (by rw [hx]) (ev_partIfFull hI3 hw3 (l := l + 1) (p := les M key) (by omega) (by omega) hle) ?_
            rintro r1 σ4 ⟨rfl, h3, h4⟩
            refine G_to [50] rfl ?_
            exact ih _ σ4 _ (by rw [hx]; exact pk_m1 l) (by omega) (partF_le (by omega) hle hT (by omega)) h3 (hf.tr h4)
      refine G_to [50] rfl ?_
      refine (loop (topF M.2.2.2 M.1) _ σ2 M.2.2.2 rfl htop (fun i hi => by have := hlow i hi; omega) hI (frI.rf j σ2)).mono ?_
      rintro r σ' ⟨h1, h2, h3⟩
      exact Or.inr (Or.inr ⟨hno, q, h1, h2, h3⟩)
    · rw [hI.1] at q
      have q := nlt (b := 40) q (by omega) (by decide)
      exact G_retZ rfl (Or.inl rfl) (Or.inl ⟨hno, q, rfl, rfl⟩)
  refine G_if rfl (fun q => ?_) (fun q => ?_)
  · rw [hI.1] at q
    have q := ile q (by omega) (by omega)
    exact els (fun h => by have := h.1; omega)
  · rw [hI.1] at q
    have q := nle q (by omega) (by omega)
    refine G_ald rfl (les M key) rfl (by omega) (by decide) ?_
    have hKi := (hw.2.1 _ q).1
    rw [(hI.2 _ q).1]
    refine G_if rfl (fun q2 => ?_) (fun q2 => ?_)
    · exact els (fun h => q2 (by rw [h.2]))
    · have q2 := ieq (Classical.not_not.mp q2) (by omega) (by omega)
      refine G_ast rfl (les M key) rfl (by omega) (by decide) ?_
      refine G_retZ rfl (Or.inr rfl) (Or.inr (Or.inl ⟨⟨q, q2⟩, rfl, ⟨by simpa [hset, setV] using hI.1, fun i hi => ?_⟩, (frI.rf j _).st (by decide)⟩))
      obtain ⟨a1, a2, a3⟩ := hI.2 i hi
      refine ⟨by simpa [hset, setV] using a1, ?_, by simpa [hset, setV] using a3⟩
      by_cases hil : i = les M key
      · subst hil
        simp [hset, setV, upN]
      · simpa [hset, setV, upN, hil] using a2
theorem ev_takeOut (hI : isI σ j M) (hw : wfM M) (hlow : lowM M) {key : Nat} (hk : key < 100) : Ev 19 [rI j, .inl (nI key)] σ (fun r σ' => (¬ has M key ∧ r = some (.inl 0) ∧ σ' = σ) ∨ (has M key ∧ r = some (.inl 1) ∧ isI σ' j (outM M (les M key)) ∧ frI j σ σ')) := by
  have hn := hw.1
  have hle := les_le M key
  have htop := low_top hlow
  refine G_call rfl (ev_indexOf hI hw (by omega)) ?_
  rintro r1 σ1 ⟨rfl, ⟨hhas, rfl⟩ | ⟨hno, rfl⟩⟩
  · have hlt := hhas.1
    refine G_if rfl (fun q => ?_) (fun q => ?_)
    · have hlev : ∀ (p : Nat) (x : Int32) (K V : Nat → Nat) (σ2 : Hp), x = nI p → p < M.1 → isI σ2 j (M.1, K, V, M.2.2.2) → frI j σ1 σ2 → RR 19 39 [some (rI j), some (.inl (nI key)), some (.inl x), none] [] σ2 (fun r σ' => r = some (.inl 1) ∧ isI σ' j (M.1 - 1, delF K p, delF V p, delF (helpL M.1 p (topF M.2.2.2 M.1 - 1) M.2.2.2) p) ∧ frI j σ1 σ') := by
        intro p x K V σ2 hx hp hI2 hf2
        refine G_call rfl (ev_top hI2 ⟨hn, hw.t.2⟩) ?_
        rintro r1 σ3 ⟨rfl, rfl⟩
        have loop : ∀ (l : Nat) (x3 : Int32) (σ4 : Hp) (T : Nat → Nat), x3 = nI l → l ≤ 40 → (∀ i, i < M.1 → T i ≤ 40) → isI σ4 j (M.1, K, V, T) → frI j σ1 σ4 → RR 19 46 [some (rI j), some (.inl (nI key)), some (.inl x), some (.inl x3)] [] σ4 (fun r σ' => r = some (.inl 1) ∧ isI σ' j (M.1 - 1, delF K p, delF V p, delF (helpL M.1 p l T) p) ∧ frI j σ1 σ') := by
          intro l
          induction l with
          | zero =>
            intro x3 σ4 T hx3 hl hT hI4 hf
            refine G_if rfl (fun q2 => ?_) (fun q2 => ?_)
            · refine G_callv rfl (by rw [hx]) (ev_closeAt hI4 (p := p) hn hp) ?_
              rintro r1 σ5 ⟨rfl, h3, h4⟩
              exact G_retZ rfl (Or.inr rfl) ⟨rfl, h3, hf.tr h4⟩
            · rw [hx3] at q2
              exact absurd (nlt (b := 1) q2 (by decide) (by decide)) (by decide)
          | succ l ih =>
            intro x3 σ4 T hx3 hl hT hI4 hf
            refine G_if rfl (fun q2 => ?_) (fun q2 => ?_)
            · rw [hx3] at q2
              exact absurd (ilt (b := 1) q2 (by omega) (by decide)) (by omega)
            · refine G_callv rfl (by rw [hx3, hx]) (ev_helpIfPoor hI4 ⟨hn, fun i hi => by have := hT i hi; show T i < 64; omega⟩ (l := l + 1) (p := p) (by omega) (by omega) (by show p ≤ M.1; omega)) ?_
              rintro r1 σ5 ⟨rfl, h3, h4⟩
              refine G_to [46] rfl ?_
              exact ih _ σ5 _ (by rw [hx3]; exact pk_m1 l) (by omega) (helpF_le (by omega) (by omega) hT (by omega)) h3 (hf.tr h4)
        have htp : 1 ≤ topF M.2.2.2 M.1 := by
          obtain ⟨n', hn'⟩ : ∃ n', M.1 = n' + 1 := ⟨M.1 - 1, by omega⟩
          rw [hn']
          simp only [topF]
          omega
        refine G_to [46] rfl ?_
        exact loop (topF M.2.2.2 M.1 - 1) _ σ3 M.2.2.2 (lm1 htp) (by omega) (fun i hi => by have := hlow i hi; omega) hI2 hf2
      refine G_ald rfl (les M key) rfl (by omega) (by decide) ?_
      rw [(hI.2 _ hlt).2.2]
      have hT := hlow _ hlt
      have plain : outP M (les M key) = les M key → RR 19 39 [some (rI j), some (.inl (nI key)), some (.inl (nI (les M key))), none] [] σ1 (fun r σ' => (¬ has M key ∧ r = some (.inl 0) ∧ σ' = σ1) ∨ (has M key ∧ r = some (.inl 1) ∧ isI σ' j (outM M (les M key)) ∧ frI j σ1 σ')) := by
        intro ho
        refine (hlev (les M key) _ M.2.1 M.2.2.1 σ1 rfl hlt hI (frI.rf j σ1)).mono ?_
        rintro r σ' ⟨h1, h2, h3⟩
        refine Or.inr ⟨hhas, h1, ?_, h3⟩
        unfold outM
        rw [ho]
        exact h2
      refine G_if rfl (fun q2 => ?_) (fun q2 => ?_)
      · have q2 := ile (b := 0) q2 (by omega) (by decide)
        exact plain (by unfold outP; rw [if_neg (by omega)])
      · have q2 := nle (b := 0) q2 (by omega) (by decide)
        refine G_if rfl (fun q3 => ?_) (fun q3 => ?_)
        · rw [hI.1, nI_1] at q3
          have q3 := ile q3 (by omega) (by omega)
          exact plain (by unfold outP; rw [if_neg (by omega)])
        · rw [hI.1, nI_1] at q3
          have q3 := nle q3 (by omega) (by omega)
          refine G_call rfl (ev_changePlaces hI hn q3) ?_
          rintro r1 σ2 ⟨rfl, h3, h4⟩
          refine G_to [39] rfl ?_
          refine (hlev (les M key + 1) _ _ _ σ2 (nI_1 _) q3 h3 h4).mono ?_
          rintro r σ' ⟨h5, h6, h7⟩
          refine Or.inr ⟨hhas, h5, ?_, h7⟩
          have ho : outP M (les M key) = les M key + 1 := by unfold outP; rw [if_pos ⟨q2, q3⟩]
          unfold outM
          rw [ho, ← del_swp M.2.1, ← del_swp M.2.2.1]
          exact h6
    · exact absurd (nI_pos' (by omega)) q
  · refine G_if rfl (fun q => ?_) (fun q => ?_)
    · exact absurd q (by decide)
    · exact G_retZ rfl (Or.inl rfl) (Or.inl ⟨hno, rfl, rfl⟩)
end IT
end
section
/-! Items: the rest of what it reads. -/
section RU
variable {y pc pc' nxt : Nat} {ls ls' : Lc} {stk stk' r : List PV} {σ σ' : Hp} {Q Q' : Option PV → Hp → Prop}
def cpyq (y pc : Nat) (stk : List PV) (σ : Hp) : Option ((Int32 × (Int32 × Int32)) × ((Nat × Nat) × (Hp × (Nat × List PV)))) := match fetch y pc with
  | some (_, .invokestatic _, nxt, _, 4, _) => match stk with
    | .inl n :: .inl dp :: .inr (.inr (kd, ix)) :: .inl sp :: .inr (.inr (kd0, ix0)) :: r => match arr σ kd0 with
      | some (0, n0) => match arr σ kd with
        | some (0, n1) => match Nat.ble (wds r) 8 with
          | true => some ((sp, dp, n), (n0, n1), (hrow σ.1 kd ix (va_cpy (σ.1 kd0 ix0) (σ.1 kd ix) sp.toNatClampNeg dp.toNatClampNeg n.toNatClampNeg), σ.2), nxt, r)
          | false => none
        | _ => none
      | _ => none
    | _ => none
  | _ => none
theorem RR_cpy {sp dp n : Int32} {n0 n1 : Nat} (h : cpyq y pc stk σ = some ((sp, dp, n), (n0, n1), σ', nxt, r)) (hok : cpyOk sp dp n n0 n1) (k : RR y nxt ls r σ' Q) : RR y pc ls stk σ Q := by
  unfold cpyq at h
  split at h
  · next he =>
    split at h
    · split at h
      · next h0 =>
        split at h
        · next h1 =>
          split at h
          · next hb =>
            cases h
            exact RR_step he (by simp only [xexec, hb, bIf, xcpy, h0, h1]; exact if_pos hok) k
          · cases h
        · cases h
      · cases h
    · cases h
  · cases h
def gcpy (y pc : Nat) (ls : Lc) (stk : List PV) (σ : Hp) : Option (((Int32 × (Int32 × Int32)) × ((Nat × Nat) × (Hp × (Nat × List PV)))) × Lc) := match go y [] 80 pc ls stk σ with
  | none => none
  | some (pc', ls', stk', σ') => match cpyq y pc' stk' σ' with
    | none => none
    | some q => some (q, ls')
theorem G_cpy {sp dp n : Int32} {n0 n1 : Nat} (h : gcpy y pc ls stk σ = some (((sp, dp, n), (n0, n1), σ', nxt, r), ls')) (hok : cpyOk sp dp n n0 n1) (k : RR y nxt ls' r σ' Q) : RR y pc ls stk σ Q := by
  unfold gcpy at h
  split at h
  · cases h
  · next h1 =>
    split at h
    · cases h
    · next h2 =>
      cases h
      exact RR_go0 80 h1 (RR_cpy h2 hok k)
end RU
theorem cpyOk_nI {m : Nat} (h : m ≤ 40) : cpyOk 0 0 (nI m) 40 40 := ⟨by decide, by decide, nI_pos (by omega), by rw [nI_clamp (by omega)]; simpa using h, by rw [nI_clamp (by omega)]; simpa using h⟩
theorem frI.row {j k : Nat} {σ σ1 : Hp} {g : Nat → Int32} (h : frI j σ σ1) (hk : k = 2 ∨ k = 7 ∨ k = 8 ∨ k = 9) : frI j σ (hrow σ1.1 k j g, σ1.2) := by
  refine ⟨fun k' i' q => ?_, h.2⟩
  show hrow σ1.1 k j g k' i' = _
  rw [hrow_ne (by rintro h1; cases h1; exact q ⟨rfl, hk⟩)]
  exact h.1 k' i' q
def vwF (K V : Nat → Nat) (a b : Nat) : Nat → Nat → Nat → Nat
  | 0, _, s => s
  | m + 1, i, s => vwF K V a b m (i + 1) (if a ≤ K i ∧ K i ≤ b then s + V i else s)
def hsF (T : Nat → Nat) : Nat → Nat → Nat → Nat
  | 0, _, s => s
  | m + 1, i, s => hsF T m (i + 1) (s + T i)
noncomputable def nwF (M' : AM) (K : Nat → Nat) (a b : Nat) : Nat → Nat → Nat → Nat
  | 0, _, s => s
  | m + 1, i, s => nwF M' K a b m (i + 1) (@ite _ (a ≤ K i ∧ K i ≤ b ∧ ¬ has M' (K i)) (Classical.propDecidable _) (s + 1) s)
/-- of the others, whose height is another one in the changed map -/
noncomputable def ohF (M M' : AM) (but : Nat) : Nat → Nat → Nat → Nat
  | 0, _, s => s
  | m + 1, i, s => ohF M M' but m (i + 1) (@ite _ (M.2.1 i ≠ but ∧ has M' (M.2.1 i) ∧ M'.2.2.2 (les M' (M.2.1 i)) ≠ M.2.2.2 i) (Classical.propDecidable _) (s + 1) s)
def lkI (K T : Nat → Nat) (key l : Nat) : Nat → Nat → Nat → Nat → Bool × (Nat × Nat)
  | 0, _, hr, c => (false, hr, c)
  | m + 1, i, hr, c => if T i < l then lkI K T key l m (i + 1) hr c else if K i = key then (true, hr, c + 1) else if key < K i then (false, hr, c + 1) else lkI K T key l m (i + 1) (i + 1) (c + 1)
def lkO (K T : Nat → Nat) (n key : Nat) : Nat → Nat → Nat → Bool × Nat
  | 0, _, c => (false, c)
  | l + 1, hr, c => match lkI K T key l (n - hr) hr hr c with
    | (true, _, c') => (true, c')
    | (false, hr', c') => lkO K T n key l hr' c'
def looksF (M : AM) (key : Nat) : Bool × Nat := lkO M.2.1 M.2.2.2 M.1 key (topF M.2.2.2 M.1) 0 0
def alI (T : Nat → Nat) (l last : Nat) : Nat → Nat → Nat → Nat → Nat
  | 0, _, _, s => s
  | m + 1, i, p, s => if l < T i then alI T l last m (i + 1) 0 s else if T i = l then alI T l last m (i + 1) (p + 1) (s + (p + 1)) else alI T l last m (i + 1) p (s + (if i + 1 < last then p + 1 else p))
def alO (T : Nat → Nat) (n : Nat) : Nat → Nat → Nat
  | 0, s => s
  | l + 1, s => alO T n l (alI T l (ahF T l n) n 0 0 s)
def alF (T : Nat → Nat) (n : Nat) : Nat := alO T n (topF T n) 0
theorem lkI_le (K T : Nat → Nat) (key l : Nat) : ∀ (m i hr c : Nat), hr ≤ i → (lkI K T key l m i hr c).2.1 ≤ i + m
  | 0, i, hr, c, h => by simpa [lkI] using h
  | m + 1, i, hr, c, h => by
    unfold lkI
    split
    · have := lkI_le K T key l m (i + 1) hr c (by omega)
      omega
    · split
      · show hr ≤ _
        omega
      · split
        · show hr ≤ _
          omega
        · have := lkI_le K T key l m (i + 1) (i + 1) (c + 1) (by omega)
          omega
section IT
variable {σ : Hp} {j : Nat} {M : AM}
theorem ev_copyFrom {jf : Nat} (hI : isI σ jf M) (hn : M.1 ≤ 40) (hj : jf ≠ j) : Ev 5 [rI j, rI jf] σ (fun r σ' => r = none ∧ isI σ' j M ∧ frI j σ σ') := by
  have hj' : ¬ j = jf := fun e => hj e.symm
  have e0 : hset σ.1 2 j 3 (σ.1 2 jf 3) 2 j 3 = nI M.1 := by
    simp only [hset, and_self, if_true]
    exact hI.1
  have e1 : hset σ.1 2 j 3 (σ.1 2 jf 3) 2 j 3 = nI M.1 := e0
  refine G_cpy rfl (by rw [show (hset σ.1 2 j 3 (σ.1 2 jf 3), σ.2).1 2 j 3 = nI M.1 from e0]; exact cpyOk_nI hn) ?_
  refine G_cpy rfl (by rw [show (hrow (hset σ.1 2 j 3 (σ.1 2 jf 3)) 7 j _, σ.2).1 2 j 3 = nI M.1 from by simp only [hrow]; simpa using e0]; exact cpyOk_nI hn) ?_
  refine G_cpy rfl (by rw [show (hrow (hrow (hset σ.1 2 j 3 (σ.1 2 jf 3)) 7 j _) 8 j _, σ.2).1 2 j 3 = nI M.1 from by simp only [hrow]; simpa using e0]; exact cpyOk_nI hn) ?_
  refine G_ret rfl ⟨rfl, ⟨by simp only [hrow]; simpa using e0, fun i hi => ?_⟩, (((((frI.rf j σ).st (by decide)).row (by decide)).row (by decide)).row (by decide))⟩
  obtain ⟨a1, a2, a3⟩ := hI.2 i hi
  have hcl : (nI M.1).toNatClampNeg = M.1 := nI_clamp (by omega)
  have hz : (0 : Int32).toNatClampNeg = 0 := rfl
  refine ⟨?_, ?_, ?_⟩ <;> simp [hrow, hset, va_cpy, hI.1, hcl, hi, hj, a1, a2, a3]
theorem ev_add (hI : isI σ j M) {k v h : Nat} (hn : M.1 < 40) : Ev 6 [rI j, .inl (nI k), .inl (nI v), .inl (nI h)] σ (fun r σ' => r = none ∧ isI σ' j (insM M M.1 k v h) ∧ frI j σ σ') := by
  refine G_callv rfl (by rw [hI.1]) (ev_openAt hI (p := M.1) (k := k) (v := v) (h := h) hn (Nat.le_refl _)) ?_
  rintro r1 σ1 ⟨rfl, h2, h3⟩
  exact G_ret rfl ⟨rfl, h2, h3⟩
theorem ev_canTake (hI : isI σ j M) (hw : wfM M) {key : Nat} (hk : key < 2147483648) : Ev 8 [rI j, .inl (nI key)] σ (fun r σ' => σ' = σ ∧ (((M.1 < 40 ∨ has M key) ∧ r = some (.inl 1)) ∨ (¬ (M.1 < 40 ∨ has M key) ∧ r = some (.inl 0)))) := by
  have hn := hw.1
  refine G_if rfl (fun q => ?_) (fun q => ?_)
  · rw [hI.1] at q
    exact G_retZ rfl (Or.inr rfl) ⟨rfl, Or.inl ⟨Or.inl (ilt (b := 40) q (by omega) (by decide)), rfl⟩⟩
  · rw [hI.1] at q
    have q := nlt (b := 40) q (by omega) (by decide)
    refine G_call rfl (ev_indexOf hI hw hk) ?_
    rintro r1 σ1 ⟨rfl, ⟨hh, rfl⟩ | ⟨hh, rfl⟩⟩
    · refine G_if rfl (fun q2 => ?_) (fun q2 => ?_)
      · exact absurd q2 (nI_pos (by have := hh.1; omega))
      · exact G_retZ rfl (Or.inr rfl) ⟨rfl, Or.inl ⟨Or.inr hh, rfl⟩⟩
    · refine G_if rfl (fun q2 => ?_) (fun q2 => ?_)
      · exact G_retZ rfl (Or.inl rfl) ⟨rfl, Or.inr ⟨fun q3 => q3.elim (fun q4 => by omega) hh, rfl⟩⟩
      · exact absurd (by decide) q2
theorem ev_allHeights (hI : isI σ j M) (hw : wfM M) : Ev 27 [rI j] σ (fun r σ' => r = some (.inl (nI (hsF M.2.2.2 M.1 0 0))) ∧ σ' = σ) := by
  have hn := hw.1
  have loop : ∀ (m i s : Nat) (x1 x2 : Int32), x1 = nI s → x2 = nI i → i + m = M.1 → RR 27 4 [some (rI j), some (.inl x1), some (.inl x2)] [] σ (fun r σ' => r = some (.inl (nI (hsF M.2.2.2 m i s))) ∧ σ' = σ) := by
    intro m
    induction m with
    | zero =>
      intro i s x1 x2 hx1 hx2 hi
      refine G_if rfl (fun h => ?_) (fun h => ?_)
      · exact G_ret rfl ⟨by rw [hx1]; rfl, rfl⟩
      · rw [hI.1, hx2] at h
        exact absurd (nle h (by omega) (by omega)) (by omega)
    | succ m ih =>
      intro i s x1 x2 hx1 hx2 hi
      refine G_if rfl (fun h => ?_) (fun h => ?_)
      · rw [hI.1, hx2] at h
        exact absurd (ile h (by omega) (by omega)) (by omega)
      · refine G_ald rfl i hx2 (by omega) (by decide) ?_
        rw [(hI.2 i (by omega)).2.2]
        refine G_to [4] rfl ?_
        exact ih (i + 1) _ _ _ (by rw [hx1, nI_add]) (by rw [hx2]; exact nI_1 i) (by omega)
  refine G_to [4] rfl ?_
  exact loop M.1 0 0 0 0 nI_0.symm nI_0.symm (by omega)
theorem ev_valuesWithin (hI : isI σ j M) (hw : wfM M) {a b : Nat} (ha : a < 100) (hb : b < 100) : Ev 31 [rI j, .inl (nI a), .inl (nI b)] σ (fun r σ' => r = some (.inl (nI (vwF M.2.1 M.2.2.1 a b M.1 0 0))) ∧ σ' = σ) := by
  have hn := hw.1
  have loop : ∀ (m i s : Nat) (x3 x4 : Int32), x3 = nI s → x4 = nI i → i + m = M.1 → RR 31 5 [some (rI j), some (.inl (nI a)), some (.inl (nI b)), some (.inl x3), some (.inl x4)] [] σ (fun r σ' => r = some (.inl (nI (vwF M.2.1 M.2.2.1 a b m i s))) ∧ σ' = σ) := by
    intro m
    induction m with
    | zero =>
      intro i s x1 x2 hx1 hx2 hi
      refine G_if rfl (fun h => ?_) (fun h => ?_)
      · exact G_ret rfl ⟨by rw [hx1]; rfl, rfl⟩
      · rw [hI.1, hx2] at h
        exact absurd (nle h (by omega) (by omega)) (by omega)
    | succ m ih =>
      intro i s x1 x2 hx1 hx2 hi
      have hK := (hw.2.1 i (by omega)).1
      refine G_if rfl (fun h => ?_) (fun h => ?_)
      · rw [hI.1, hx2] at h
        exact absurd (ile h (by omega) (by omega)) (by omega)
      · refine G_ald rfl i hx2 (by omega) (by decide) ?_
        rw [(hI.2 i (by omega)).1, vwF]
        refine G_if rfl (fun h => ?_) (fun h => ?_)
        · have h := ilt h (by omega) (by omega)
          rw [if_neg (by omega)]
          refine G_to [5] rfl ?_
          exact ih (i + 1) s _ _ hx1 (by rw [hx2]; exact nI_1 i) (by omega)
        · have h := nlt h (by omega) (by omega)
          refine G_ald rfl i hx2 (by omega) (by decide) ?_
          rw [(hI.2 i (by omega)).1]
          refine G_if rfl (fun h2 => ?_) (fun h2 => ?_)
          · have h2 := ilt h2 (by omega) (by omega)
            rw [if_neg (by omega)]
            refine G_to [5] rfl ?_
            exact ih (i + 1) s _ _ hx1 (by rw [hx2]; exact nI_1 i) (by omega)
          · have h2 := nlt h2 (by omega) (by omega)
            rw [if_pos ⟨h, h2⟩]
            refine G_ald rfl i hx2 (by omega) (by decide) ?_
            rw [(hI.2 i (by omega)).2.1]
            refine G_to [5] rfl ?_
            exact ih (i + 1) _ _ _ (by rw [hx1, nI_add]) (by rw [hx2]; exact nI_1 i) (by omega)
  refine G_to [5] rfl ?_
  exact loop M.1 0 0 0 0 nI_0.symm nI_0.symm (by omega)
theorem ev_looksFor (hI : isI σ j M) (hw : wfM M) {key : Nat} (hk : key < 100) : Ev 30 [rI j, .inl (nI key)] σ (fun r σ' => r = some (.inl (nI (looksF M key).2)) ∧ σ' = σ) := by
  have hn := hw.1
  have htop : topF M.2.2.2 M.1 ≤ 64 := topF_le _ hw.t.2
  have hinner : ∀ (l : Nat), l < 64 → ∀ (m i hr c : Nat) (x2 x3 x4 x5 : Int32) (Q : Option PV → Hp → Prop), x2 = nI c → x3 = nI hr - 1 → x4 = nI l → x5 = nI i → i + m = M.1 → hr ≤ i →
      ((lkI M.2.1 M.2.2.2 key l m i hr c).1 = true → Q (some (.inl (nI (lkI M.2.1 M.2.2.2 key l m i hr c).2.2))) σ) →
      ((lkI M.2.1 M.2.2.2 key l m i hr c).1 = false → ∀ (x2 x3 x5 : Int32), x2 = nI (lkI M.2.1 M.2.2.2 key l m i hr c).2.2 → x3 = nI (lkI M.2.1 M.2.2.2 key l m i hr c).2.1 - 1 → RR 30 85 [some (rI j), some (.inl (nI key)), some (.inl x2), some (.inl x3), some (.inl x4), some (.inl x5)] [] σ Q) →
      RR 30 22 [some (rI j), some (.inl (nI key)), some (.inl x2), some (.inl x3), some (.inl x4), some (.inl x5)] [] σ Q := by
    intro l hl m
    induction m with
    | zero =>
      intro i hr c x2 x3 x4 x5 Q hx2 hx3 hx4 hx5 hi hhr kt kf
      refine G_if rfl (fun h => ?_) (fun h => ?_)
      · exact kf rfl _ _ _ hx2 hx3
      · rw [hI.1, hx5] at h
        exact absurd (nle h (by omega) (by omega)) (by omega)
    | succ m ih =>
      intro i hr c x2 x3 x4 x5 Q hx2 hx3 hx4 hx5 hi hhr kt kf
      have hK := (hw.2.1 i (by omega)).1
      have hT := (hw.2.1 i (by omega)).2.2
      unfold lkI at kt kf
      refine G_if rfl (fun h => ?_) (fun h => ?_)
      · rw [hI.1, hx5] at h
        exact absurd (ile h (by omega) (by omega)) (by omega)
      · refine G_ald rfl i hx5 (by omega) (by decide) ?_
        rw [(hI.2 i (by omega)).2.2]
        refine G_if rfl (fun h2 => ?_) (fun h2 => ?_)
        · rw [hx4] at h2
          have h2 := ile h2 (by omega) (by omega)
          rw [if_neg (by omega)] at kt kf
          refine G_ald rfl i hx5 (by omega) (by decide) ?_
          rw [(hI.2 i (by omega)).1]
          refine G_if rfl (fun h3 => ?_) (fun h3 => ?_)
          · have h3 : ¬ M.2.1 i = key := fun e => h3 (by rw [e])
            rw [if_neg h3] at kt kf
            refine G_ald rfl i hx5 (by omega) (by decide) ?_
            rw [(hI.2 i (by omega)).1]
            refine G_if rfl (fun h4 => ?_) (fun h4 => ?_)
            · have h4 := ile h4 (by omega) (by omega)
              rw [if_neg (by omega)] at kt kf
              refine G_to [22] rfl ?_
              exact ih (i + 1) (i + 1) (c + 1) _ _ _ _ Q (by rw [hx2]; exact nI_1 c) (by rw [hx5]; exact (nI_pred i).symm) hx4 (by rw [hx5]; exact nI_1 i) (by omega) (by omega) kt kf
            · have h4 := nle h4 (by omega) (by omega)
              rw [if_pos h4] at kt kf
              refine G_to [85] rfl ?_
              exact kf rfl _ _ _ (by rw [hx2]; exact nI_1 c) hx3
          · have h3 := ieq (Classical.not_not.mp h3) (by omega) (by omega)
            rw [if_pos h3] at kt kf
            refine G_ret rfl ?_
            have := kt rfl
            rw [hx2, nI_1]
            exact this
        · rw [hx4] at h2
          have h2 := nle h2 (by omega) (by omega)
          rw [if_pos h2] at kt kf
          refine G_to [22] rfl ?_
          exact ih (i + 1) hr c _ _ _ _ Q hx2 hx3 hx4 (by rw [hx5]; exact nI_1 i) (by omega) (by omega) kt kf
  have outer : ∀ (l hr c : Nat) (x2 x3 x4 : Int32) (x5 : Option PV), x2 = nI c → x3 = nI hr - 1 → x4 = nI l - 1 → l ≤ 64 → hr ≤ M.1 → RR 30 12 [some (rI j), some (.inl (nI key)), some (.inl x2), some (.inl x3), some (.inl x4), x5] [] σ (fun r σ' => r = some (.inl (nI (lkO M.2.1 M.2.2.2 M.1 key l hr c).2)) ∧ σ' = σ) := by
    intro l
    induction l with
    | zero =>
      intro hr c x2 x3 x4 x5 hx2 hx3 hx4 hl hhr
      refine G_if rfl (fun h => ?_) (fun h => ?_)
      · exact G_ret rfl ⟨by rw [hx2]; rfl, rfl⟩
      · rw [hx4] at h
        exact absurd ((im1_lt (by omega)).mpr rfl) h
    | succ l ih =>
      intro hr c x2 x3 x4 x5 hx2 hx3 hx4 hl hhr
      have hle := lkI_le M.2.1 M.2.2.2 key l (M.1 - hr) hr hr c (Nat.le_refl _)
      refine G_if rfl (fun h => ?_) (fun h => ?_)
      · rw [hx4] at h
        exact absurd ((im1_lt (by omega)).mp h) (by omega)
      · have aux : ∀ (x5 : Int32), x5 = nI hr → RR 30 22 [some (rI j), some (.inl (nI key)), some (.inl x2), some (.inl x3), some (.inl x4), some (.inl x5)] [] σ (fun r σ' => r = some (.inl (nI (lkO M.2.1 M.2.2.2 M.1 key (l + 1) hr c).2)) ∧ σ' = σ) := by
          intro x5 hx5
          refine hinner l (by omega) (M.1 - hr) hr hr c x2 x3 x4 x5 _ hx2 hx3 (by rw [hx4]; exact nI_pred l) hx5 (by omega) (Nat.le_refl _) (fun hf => ?_) (fun hf y2 y3 y5 hy2 hy3 => ?_)
          · refine ⟨?_, rfl⟩
            rw [lkO]
            rcases hq : lkI M.2.1 M.2.2.2 key l (M.1 - hr) hr hr c with ⟨b, h1, c1⟩
            rw [hq] at hf
            cases hf
            rfl
          · refine G_to [12] rfl ?_
            rw [lkO]
            rcases hq : lkI M.2.1 M.2.2.2 key l (M.1 - hr) hr hr c with ⟨b, h1, c1⟩
            rw [hq] at hf hy2 hy3 hle
            have hf : b = false := hf
            subst hf
            exact ih h1 c1 _ _ _ _ hy2 hy3 (by rw [hx4]; exact im1_dec l) (by omega) (by have : h1 ≤ hr + (M.1 - hr) := hle; omega)
        refine G_to [22] rfl ?_
        exact aux _ (by rw [hx3]; exact im1_add hr)
  refine G_call rfl (ev_top hI hw.t) ?_
  rintro r1 σ1 ⟨rfl, rfl⟩
  refine G_to [12] rfl ?_
  exact outer _ 0 0 _ _ _ _ nI_0.symm im1_neg.symm rfl htop (Nat.zero_le _)
end IT
end
section
/-! Heights: between any two fences of a level lies one of the next height below. Positions: 0 the left end, i + 1 the item i, n + 1 the right end. -/
def fen (n : Nat) (T : Nat → Nat) (l p : Nat) : Prop := p = 0 ∨ p = n + 1 ∨ (1 ≤ p ∧ p ≤ n ∧ l ≤ T (p - 1))
def LB (n : Nat) (T : Nat → Nat) : Prop := ∀ l, 1 ≤ l → (∃ i, i < n ∧ l ≤ T i) → ∀ p q, p < q → q ≤ n + 1 → fen n T l p → fen n T l q → ∃ r, p < r ∧ r < q ∧ T (r - 1) = l - 1
theorem LB_low {n : Nat} {T : Nat → Nat} (h : LB n T) {i : Nat} (hi : i < n) (h1 : 0 < T i) : i + 1 < n ∧ T (i + 1) = 0 := by
  obtain ⟨r, hr1, hr2, hr3⟩ := h 1 (Nat.le_refl _) ⟨i, hi, h1⟩ (i + 1) (n + 1) (by omega) (Nat.le_refl _) (Or.inr (Or.inr ⟨by omega, by omega, h1⟩)) (Or.inr (Or.inl rfl))
  refine ⟨by omega, ?_⟩
  rcases Nat.eq_zero_or_pos (T (i + 1)) with h0 | h0
  · exact h0
  · obtain ⟨r2, h3, h4, -⟩ := h 1 (Nat.le_refl _) ⟨i, hi, h1⟩ (i + 1) (i + 2) (by omega) (by omega) (Or.inr (Or.inr ⟨by omega, by omega, h1⟩)) (Or.inr (Or.inr ⟨by omega, by omega, h0⟩))
    omega
def geC (T : Nat → Nat) (l : Nat) : Nat → Nat
  | 0 => 0
  | n + 1 => geC T l n + (if l ≤ T n then 1 else 0)
theorem geC_mono (T : Nat → Nat) (l : Nat) : ∀ n, geC T (l + 1) n ≤ geC T l n
  | 0 => Nat.le_refl _
  | n + 1 => by
    have := geC_mono T l n
    simp only [geC]
    split <;> split <;> omega
theorem geC_lt (T : Nat → Nat) (l : Nat) : ∀ n, (∃ i, i < n ∧ T i = l) → geC T (l + 1) n + 1 ≤ geC T l n
  | 0, h => by obtain ⟨i, hi, -⟩ := h; omega
  | n + 1, h => by
    obtain ⟨i, hi, hT⟩ := h
    simp only [geC]
    by_cases hin : i = n
    · subst hin
      have := geC_mono T l i
      rw [if_neg (by omega), if_pos (by omega)]
      omega
    · have := geC_lt T l n ⟨i, by omega, hT⟩
      split <;> split <;> omega
theorem geC_le (T : Nat → Nat) (l : Nat) : ∀ n, geC T l n ≤ n
  | 0 => Nat.le_refl _
  | n + 1 => by
    have := geC_le T l n
    simp only [geC]
    split <;> omega
theorem geC_pos (T : Nat → Nat) (l : Nat) : ∀ n i, i < n → l ≤ T i → 1 ≤ geC T l n
  | 0, i, h, _ => by omega
  | n + 1, i, h, h2 => by
    simp only [geC]
    by_cases hin : i = n
    · subst hin
      rw [if_pos h2]
      omega
    · have := geC_pos T l n i (by omega) h2
      omega
theorem LB_bound {n : Nat} {T : Nat → Nat} (h : LB n T) {i : Nat} (hi : i < n) : T i < n := by
  have key : ∀ d l, l + d = T i → geC T l n ≥ 1 + d := by
    intro d
    induction d with
    | zero =>
      intro l hl
      have := geC_pos T l n i hi (by omega)
      omega
    | succ d ih =>
      intro l hl
      have h1 := ih (l + 1) (by omega)
      obtain ⟨r, hr1, hr2, hr3⟩ := h (l + 1) (by omega) ⟨i, hi, by omega⟩ 0 (n + 1) (by omega) (Nat.le_refl _) (Or.inl rfl) (Or.inr (Or.inl rfl))
      have h2 := geC_lt T l n ⟨r - 1, by omega, by simpa using hr3⟩
      omega
  have h1 := key (T i) 0 (by omega)
  have h2 := geC_le T 0 n
  omega
/-- a fence goes down, its neighbour's nearest comes up -/
theorem LB_move {n : Nat} {T : Nat → Nat} (h : LB n T) {l f q : Nat} (hl : 1 ≤ l) (hf : f < n) (hq : q < n) (hTf : T f = l) (hTq : T q = l - 1)
    (h2 : ∀ z, z ≤ n + 1 → fen n T l z → (f < q → q + 1 < z → ∃ r, q + 1 < r ∧ r < z ∧ T (r - 1) = l - 1) ∧ (q < f → z < q + 1 → ∃ r, z < r ∧ r < q + 1 ∧ T (r - 1) = l - 1))
    (h3 : ∀ z, z < n → l ≤ T z → ¬ (f < z ∧ z < q) ∧ ¬ (q < z ∧ z < f)) : LB n (upN (upN T q l) f (l - 1)) := by
  have hne : f ≠ q := by intro e; rw [e] at hTf; omega
  have hT' : ∀ i, i ≠ f → i ≠ q → upN (upN T q l) f (l - 1) i = T i := by intro i h1 h2; simp [upN, h1, h2]
  have hT'f : upN (upN T q l) f (l - 1) f = l - 1 := by simp [upN]
  have hT'q : upN (upN T q l) f (l - 1) q = l := by simp [upN, Ne.symm hne]
  generalize upN (upN T q l) f (l - 1) = T' at hT' hT'f hT'q
  intro l' hl' hex p z hpz hz hp hzf
  have hfq := Nat.lt_or_gt_of_ne hne
  -- the level is in T too
  have hex0 : ∃ i, i < n ∧ l' ≤ T i := by
    obtain ⟨i, hi, hi2⟩ := hex
    by_cases h1 : i = f
    · subst h1
      exact ⟨i, hi, by omega⟩
    · by_cases h1' : i = q
      · subst h1'
        exact ⟨f, hf, by omega⟩
      · rw [hT' i h1 h1'] at hi2
        exact ⟨i, hi, hi2⟩
  rcases Nat.lt_trichotomy l' l with hll | hll | hll
  · -- lower levels: fences and items as before
    have hfe : ∀ w, fen n T' l' w → fen n T l' w := by
      intro w hw
      rcases hw with h0 | h0 | ⟨w1, w2, w3⟩
      · exact Or.inl h0
      · exact Or.inr (Or.inl h0)
      · refine Or.inr (Or.inr ⟨w1, w2, ?_⟩)
        by_cases e1 : w - 1 = f
        · rw [e1]; omega
        · by_cases e2 : w - 1 = q
          · rw [e2]; omega
          · rw [← hT' _ e1 e2]; exact w3
    obtain ⟨r, r1, r2, r3⟩ := h l' hl' hex0 p z hpz hz (hfe p hp) (hfe z hzf)
    refine ⟨r, r1, r2, ?_⟩
    rw [hT' _ (by intro e; rw [e] at r3; omega) (by intro e; rw [e] at r3; omega)]
    exact r3
  · subst hll
    -- a fence of T' is one of T but f, or is q
    have hfe : ∀ w, w ≤ n + 1 → fen n T' l' w → (fen n T l' w ∧ w ≠ f + 1 ∧ w ≠ q + 1) ∨ w = q + 1 := by
      intro w hwn hw
      rcases hw with h0 | h0 | ⟨w1, w2, w3⟩
      · exact Or.inl ⟨Or.inl h0, by omega, by omega⟩
      · exact Or.inl ⟨Or.inr (Or.inl h0), by omega, by omega⟩
      · by_cases e1 : w = f + 1
        · rw [e1] at w3
          have : f + 1 - 1 = f := by omega
          rw [this, hT'f] at w3
          omega
        · by_cases e2 : w = q + 1
          · exact Or.inr e2
          · rw [hT' (w - 1) (by omega) (by omega)] at w3
            exact Or.inl ⟨Or.inr (Or.inr ⟨w1, w2, w3⟩), e1, e2⟩
    -- a fence of T between f and q there is none
    have hno : ∀ w, w ≤ n + 1 → fen n T l' w → w ≠ f + 1 → w ≠ q + 1 → ¬ (f + 1 < w ∧ w < q + 1) ∧ ¬ (q + 1 < w ∧ w < f + 1) := by
      intro w hwn hw e1 e2
      rcases hw with h0 | h0 | ⟨w1, w2, w3⟩
      · omega
      · omega
      · have := h3 (w - 1) (by omega) w3
        omega
    have hf' : T' (f + 1 - 1) = l' - 1 := by simpa using hT'f
    have fix : ∀ r, T (r - 1) = l' - 1 → 1 ≤ r → r ≠ q + 1 → T' (r - 1) = l' - 1 := by
      intro r hr h1 hrq
      rw [hT' (r - 1) (by intro e; rw [e] at hr; omega) (by omega)]
      exact hr
    rcases hfe p (by omega) hp with ⟨a1, a2, a3⟩ | a1 <;> rcases hfe z hz hzf with ⟨b1, b2, b3⟩ | b1
    · obtain ⟨r, r1, r2, r3⟩ := h l' hl' hex0 p z hpz hz a1 b1
      by_cases hrq : r = q + 1
      · subst hrq
        rcases hfq with hfq | hfq
        · obtain ⟨r', s1, s2, s3⟩ := (h2 z hz b1).1 hfq r2
          exact ⟨r', by omega, s2, fix r' s3 (by omega) (by omega)⟩
        · obtain ⟨r', s1, s2, s3⟩ := (h2 p (by omega) a1).2 hfq r1
          exact ⟨r', s1, by omega, fix r' s3 (by omega) (by omega)⟩
      · exact ⟨r, r1, r2, fix r r3 (by omega) hrq⟩
    · subst b1
      have hn1 := hno p (by omega) a1 a2 a3
      rcases hfq with hfq | hfq
      · exact ⟨f + 1, by omega, by omega, hf'⟩
      · obtain ⟨r', s1, s2, s3⟩ := (h2 p (by omega) a1).2 hfq hpz
        exact ⟨r', s1, s2, fix r' s3 (by omega) (by omega)⟩
    · subst a1
      have hn1 := hno z hz b1 b2 b3
      rcases hfq with hfq | hfq
      · obtain ⟨r', s1, s2, s3⟩ := (h2 z hz b1).1 hfq hpz
        exact ⟨r', s1, s2, fix r' s3 (by omega) (by omega)⟩
      · exact ⟨f + 1, by omega, by omega, hf'⟩
    · omega
  · -- higher levels
    have hfe : ∀ w, fen n T' l' w → fen n T l' w ∧ w ≠ f + 1 ∧ w ≠ q + 1 := by
      intro w hw
      rcases hw with h0 | h0 | ⟨w1, w2, w3⟩
      · exact ⟨Or.inl h0, by omega, by omega⟩
      · exact ⟨Or.inr (Or.inl h0), by omega, by omega⟩
      · have e1 : w - 1 ≠ f := by intro e; rw [e] at w3; omega
        have e2 : w - 1 ≠ q := by intro e; rw [e] at w3; omega
        rw [hT' _ e1 e2] at w3
        exact ⟨Or.inr (Or.inr ⟨w1, w2, w3⟩), by omega, by omega⟩
    obtain ⟨a1, a2, a3⟩ := hfe p hp
    obtain ⟨b1, b2, b3⟩ := hfe z hzf
    obtain ⟨r, r1, r2, r3⟩ := h l' hl' hex0 p z hpz hz a1 b1
    by_cases hrf : r = f + 1
    · subst hrf
      have hll1 : l' = l + 1 := by
        have : f + 1 - 1 = f := by omega
        rw [this] at r3
        omega
      subst hll1
      have low : ∀ w, fen n T (l + 1) w → w ≠ 0 → w ≠ n + 1 → 1 ≤ w ∧ w ≤ n ∧ l ≤ T (w - 1) := by
        intro w hw w0 wn
        rcases hw with h0 | h0 | ⟨w1, w2, w3⟩
        · exact absurd h0 w0
        · exact absurd h0 wn
        · exact ⟨w1, w2, by omega⟩
      refine ⟨q + 1, ?_, ?_, by simpa using hT'q⟩
      · rcases hfq with hfq | hfq
        · omega
        · by_cases hp0 : p = 0
          · omega
          · obtain ⟨w1, w2, w3⟩ := low p a1 hp0 (by omega)
            have := h3 (p - 1) (by omega) w3
            omega
      · rcases hfq with hfq | hfq
        · by_cases hzn : z = n + 1
          · omega
          · obtain ⟨w1, w2, w3⟩ := low z b1 (by omega) hzn
            have := h3 (z - 1) (by omega) w3
            omega
        · omega
    · refine ⟨r, r1, r2, ?_⟩
      rw [hT' _ (by omega) (by intro e; rw [e] at r3; omega)]
      exact r3
/-- a fence goes down: its gap and the next are joined -/
theorem LB_merge {n : Nat} {T : Nat → Nat} (h : LB n T) {l f : Nat} (hl : 1 ≤ l) (hf : f < n) (hTf : T f = l)
    (h2 : (∃ i, i < n ∧ l + 1 ≤ T i) → ∀ p z, p < z → z ≤ n + 1 → fen n T (l + 1) p → fen n T (l + 1) z → p < f + 1 → f + 1 < z → ∃ r, p < r ∧ r < z ∧ r ≠ f + 1 ∧ T (r - 1) = l) : LB n (upN T f (l - 1)) := by
  have hT' : ∀ i, i ≠ f → upN T f (l - 1) i = T i := by intro i h1; simp [upN, h1]
  have hT'f : upN T f (l - 1) f = l - 1 := by simp [upN]
  generalize upN T f (l - 1) = T' at hT' hT'f
  intro l' hl' hex p z hpz hz hp hzf
  have hex0 : ∃ i, i < n ∧ l' ≤ T i := by
    obtain ⟨i, hi, hi2⟩ := hex
    by_cases h1 : i = f
    · subst h1
      exact ⟨i, hi, by omega⟩
    · rw [hT' i h1] at hi2
      exact ⟨i, hi, hi2⟩
  have hfe : ∀ w, fen n T' l' w → fen n T l' w := by
    intro w hw
    rcases hw with h0 | h0 | ⟨w1, w2, w3⟩
    · exact Or.inl h0
    · exact Or.inr (Or.inl h0)
    · refine Or.inr (Or.inr ⟨w1, w2, ?_⟩)
      by_cases e1 : w - 1 = f
      · rw [e1] at w3 ⊢; omega
      · rw [← hT' _ e1]; exact w3
  obtain ⟨r, r1, r2, r3⟩ := h l' hl' hex0 p z hpz hz (hfe p hp) (hfe z hzf)
  by_cases hrf : r = f + 1
  · subst hrf
    have e : f + 1 - 1 = f := by omega
    rw [e] at r3
    have hl1 : l' = l + 1 := by omega
    subst hl1
    obtain ⟨r', s1, s2, s3, s4⟩ := h2 hex0 p z hpz hz (hfe p hp) (hfe z hzf) r1 r2
    refine ⟨r', s1, s2, ?_⟩
    rw [hT' _ (by omega)]
    exact s4
  · refine ⟨r, r1, r2, ?_⟩
    rw [hT' _ (by omega)]
    exact r3
end
section
/-! Heights: one comes up, one more item, one less. -/
theorem LB_raise {n : Nat} {T : Nat → Nat} (h : LB n T) {l q : Nat} (hl : 1 ≤ l) (hq : q < n) (hTq : T q = l - 1)
    (h2 : ∀ z, z ≤ n + 1 → fen n T l z → (q + 1 < z → ∃ r, q + 1 < r ∧ r < z ∧ T (r - 1) = l - 1) ∧ (z < q + 1 → ∃ r, z < r ∧ r < q + 1 ∧ T (r - 1) = l - 1)) : LB n (upN T q l) := by
  have hT' : ∀ i, i ≠ q → upN T q l i = T i := by intro i h1; simp [upN, h1]
  have hT'q : upN T q l q = l := by simp [upN]
  generalize upN T q l = T' at hT' hT'q
  intro l' hl' hex p z hpz hz hp hzf
  by_cases hll : l' = l
  · subst hll
    have hfe : ∀ w, fen n T' l' w → (fen n T l' w ∧ w ≠ q + 1) ∨ w = q + 1 := by
      intro w hw
      rcases hw with h0 | h0 | ⟨w1, w2, w3⟩
      · exact Or.inl ⟨Or.inl h0, by omega⟩
      · exact Or.inl ⟨Or.inr (Or.inl h0), by omega⟩
      · by_cases e2 : w = q + 1
        · exact Or.inr e2
        · rw [hT' (w - 1) (by omega)] at w3
          exact Or.inl ⟨Or.inr (Or.inr ⟨w1, w2, w3⟩), e2⟩
    have fix : ∀ r, T (r - 1) = l' - 1 → 1 ≤ r → r ≠ q + 1 → T' (r - 1) = l' - 1 := by
      intro r hr h1 hrq
      rw [hT' (r - 1) (by omega)]
      exact hr
    rcases hfe p hp with ⟨a1, a2⟩ | a1 <;> rcases hfe z hzf with ⟨b1, b2⟩ | b1
    · by_cases hb : p < q + 1 ∧ q + 1 < z
      · obtain ⟨r, r1, r2, r3⟩ := (h2 z hz b1).1 hb.2
        exact ⟨r, by omega, r2, fix r r3 (by omega) (by omega)⟩
      · have hex0 : ∃ i, i < n ∧ l' ≤ T i := by
          rcases a1 with h0 | h0 | ⟨w1, w2, w3⟩
          · rcases b1 with h0' | h0' | ⟨w1, w2, w3⟩
            · omega
            · omega
            · exact ⟨z - 1, by omega, w3⟩
          · omega
          · exact ⟨p - 1, by omega, w3⟩
        obtain ⟨r, r1, r2, r3⟩ := h l' hl' hex0 p z hpz hz a1 b1
        exact ⟨r, r1, r2, fix r r3 (by omega) (by omega)⟩
    · subst b1
      obtain ⟨r, r1, r2, r3⟩ := (h2 p (by omega) a1).2 hpz
      exact ⟨r, r1, r2, fix r r3 (by omega) (by omega)⟩
    · subst a1
      obtain ⟨r, r1, r2, r3⟩ := (h2 z hz b1).1 hpz
      exact ⟨r, r1, r2, fix r r3 (by omega) (by omega)⟩
    · omega
  · have hex0 : ∃ i, i < n ∧ l' ≤ T i := by
      obtain ⟨i, hi, hi2⟩ := hex
      by_cases h1 : i = q
      · subst h1
        rw [hT'q] at hi2
        exact ⟨i, hi, by omega⟩
      · rw [hT' i h1] at hi2
        exact ⟨i, hi, hi2⟩
    have hfe : ∀ w, fen n T' l' w → fen n T l' w := by
      intro w hw
      rcases hw with h0 | h0 | ⟨w1, w2, w3⟩
      · exact Or.inl h0
      · exact Or.inr (Or.inl h0)
      · refine Or.inr (Or.inr ⟨w1, w2, ?_⟩)
        by_cases e1 : w - 1 = q
        · rw [e1] at w3 ⊢; omega
        · rw [← hT' _ e1]; exact w3
    obtain ⟨r, r1, r2, r3⟩ := h l' hl' hex0 p z hpz hz (hfe p hp) (hfe z hzf)
    refine ⟨r, r1, r2, ?_⟩
    by_cases e1 : r - 1 = q
    · rw [e1] at r3
      omega
    · rw [hT' _ e1]
      exact r3
theorem ahF_sp (T : Nat → Nat) (l : Nat) : ∀ p, (ahF T l p = 0 ∨ l ≤ T (ahF T l p - 1)) ∧ ∀ i, ahF T l p ≤ i → i < p → T i < l
  | 0 => ⟨Or.inl rfl, fun i _ h => by omega⟩
  | p + 1 => by
    obtain ⟨h1, h2⟩ := ahF_sp T l p
    unfold ahF
    split
    · next h =>
      refine ⟨h1, fun i hi hp => ?_⟩
      by_cases hip : i = p
      · subst hip; exact h
      · exact h2 i hi (by omega)
    · next h => exact ⟨Or.inr (by simpa using h), fun i hi hp => by omega⟩
theorem bhF_sp {n : Nat} (T : Nat → Nat) (l : Nat) {p : Nat} (hp : p ≤ n) : (bhF n T l p = n ∨ (bhF n T l p < n ∧ l ≤ T (bhF n T l p))) ∧ ∀ i, p ≤ i → i < bhF n T l p → T i < l := by
  obtain ⟨h1, h2, h3, h4⟩ := scn_spec (fun i => decide (T i < l)) (n - p) p
  unfold bhF
  refine ⟨?_, fun i hi hb => by simpa using h3 i hi hb⟩
  rcases Nat.lt_or_ge (scn (fun i => decide (T i < l)) (n - p) p) n with h5 | h5
  · exact Or.inr ⟨h5, by simpa using h4 (by omega)⟩
  · exact Or.inl (by omega)
theorem nthF_lt (T : Nat → Nat) (h : Nat) : ∀ (m i k k' : Nat), 1 ≤ k → k < k' → k' ≤ cntF T h m i → nthF T h m i k < nthF T h m i k'
  | 0, i, k, k', h1, h2, h3 => by simp [cntF] at h3; omega
  | m + 1, i, k, k', h1, h2, h3 => by
    unfold cntF at h3
    unfold nthF
    by_cases hT : T i = h
    · rw [if_pos hT] at h3
      rw [if_pos hT, if_pos hT, if_neg (show ¬ k' = 1 by omega)]
      by_cases hk : k = 1
      · rw [if_pos hk]
        have := nthF_in T h m (i + 1) (k' - 1) (by omega) (by omega)
        omega
      · rw [if_neg hk]
        exact nthF_lt T h m (i + 1) (k - 1) (k' - 1) (by omega) (by omega) (by omega)
    · rw [if_neg hT] at h3
      rw [if_neg hT, if_neg hT]
      exact nthF_lt T h m (i + 1) k k' h1 h2 (by omega)
theorem cntF_pos (T : Nat → Nat) (h : Nat) : ∀ (m i r : Nat), i ≤ r → r < i + m → T r = h → 1 ≤ cntF T h m i
  | 0, i, r, h1, h2, h3 => by omega
  | m + 1, i, r, h1, h2, h3 => by
    unfold cntF
    by_cases hr : r = i
    · subst hr
      rw [if_pos h3]
      omega
    · have := cntF_pos T h m (i + 1) r (by omega) (by omega) h3
      omega
/-- no fence of a level lies within its gap -/
theorem fen_out {n : Nat} {T : Nat → Nat} {l a b z : Nat} (hab : ∀ i, a ≤ i → i < b → T i < l) (hz : fen n T l z) (hb : b ≤ n) : z ≤ a ∨ b + 1 ≤ z := by
  rcases hz with h0 | h0 | ⟨w1, w2, w3⟩
  · omega
  · omega
  · rcases Nat.lt_or_ge a z with h1 | h1
    · rcases Nat.lt_or_ge b z with h2 | h2
      · omega
      · have := hab (z - 1) (by omega) (by omega)
        omega
    · omega
theorem gap_all {n : Nat} (T : Nat → Nat) (l : Nat) {p : Nat} (hp : p ≤ n) : ∀ i, ahF T l p ≤ i → i < bhF n T l p → T i < l := by
  intro i h1 h2
  rcases Nat.lt_or_ge i p with h3 | h3
  · exact (ahF_sp T l p).2 i h1 h3
  · exact (bhF_sp T l hp).2 i h3 h2
theorem LB_part {n : Nat} {T : Nat → Nat} (h : LB n T) {l p : Nat} (hl : 1 ≤ l) (hp : p ≤ n) : LB n (partF n T l p) := by
  unfold partF
  split
  · next hc =>
    have ha := ahF_le T l p
    have hb := bhF_le T l hp
    have hg := gap_all T l hp
    obtain ⟨n1, n2, n3⟩ := nthF_in T (l - 1) (bhF n T l p - ahF T l p) (ahF T l p) 2 (by decide) (by omega)
    obtain ⟨m1, m2, m3⟩ := nthF_in T (l - 1) (bhF n T l p - ahF T l p) (ahF T l p) 1 (by decide) (by omega)
    obtain ⟨k1, k2, k3⟩ := nthF_in T (l - 1) (bhF n T l p - ahF T l p) (ahF T l p) 3 (by decide) (by omega)
    have h12 := nthF_lt T (l - 1) (bhF n T l p - ahF T l p) (ahF T l p) 1 2 (by decide) (by decide) (by omega)
    have h23 := nthF_lt T (l - 1) (bhF n T l p - ahF T l p) (ahF T l p) 2 3 (by decide) (by decide) (by omega)
    rw [n3, show l - 1 + 1 = l by omega]
    refine LB_raise h hl (by omega) n3 (fun z hz hzf => ?_)
    have ho := fen_out hg hzf (by omega)
    refine ⟨fun hzq => ⟨nthF T (l - 1) (bhF n T l p - ahF T l p) (ahF T l p) 3 + 1, by omega, by omega, by simpa using k3⟩, fun hzq => ⟨nthF T (l - 1) (bhF n T l p - ahF T l p) (ahF T l p) 1 + 1, by omega, by omega, by simpa using m3⟩⟩
  · exact h
theorem LB_partL {n p : Nat} (hp : p ≤ n) : ∀ (l : Nat) (T : Nat → Nat), LB n T → LB n (partL n p l T)
  | 0, T, h => h
  | l + 1, T, h => LB_partL hp l _ (LB_part h (by omega) hp)
theorem LB_ins {n : Nat} {T : Nat → Nat} (h : LB n T) {p : Nat} (hp : p ≤ n) : LB (n + 1) (insF T p 0) := by
  intro l hl hex q z hqz hz hq hzf
  have new : ∀ i, insF T p 0 i = if i < p then T i else if i = p then 0 else T (i - 1) := fun i => rfl
  have hex0 : ∃ i, i < n ∧ l ≤ T i := by
    obtain ⟨i, hi, hi2⟩ := hex
    rw [new] at hi2
    split at hi2
    · exact ⟨i, by omega, hi2⟩
    · split at hi2
      · omega
      · exact ⟨i - 1, by omega, hi2⟩
  have back : ∀ w, w ≤ n + 2 → fen (n + 1) (insF T p 0) l w → w ≠ p + 1 ∧ fen n T l (if w ≤ p then w else w - 1) := by
    intro w hwn hw
    rcases hw with h0 | h0 | ⟨w1, w2, w3⟩
    · subst h0
      exact ⟨by omega, Or.inl (by simp)⟩
    · subst h0
      refine ⟨by omega, Or.inr (Or.inl ?_)⟩
      rw [if_neg (by omega)]
      omega
    · rw [new] at w3
      split at w3
      · next hh =>
        refine ⟨by omega, Or.inr (Or.inr ?_)⟩
        rw [if_pos (by omega)]
        exact ⟨w1, by omega, w3⟩
      · split at w3
        · omega
        · refine ⟨by omega, Or.inr (Or.inr ?_)⟩
          rw [if_neg (by omega)]
          exact ⟨by omega, by omega, w3⟩
  obtain ⟨q1, q2⟩ := back q (by omega) hq
  obtain ⟨z1, z2⟩ := back z (by omega) hzf
  obtain ⟨r, r1, r2, r3⟩ := h l hl hex0 (if q ≤ p then q else q - 1) (if z ≤ p then z else z - 1) (by split <;> split <;> omega) (by split <;> omega) q2 z2
  by_cases hrp : r ≤ p
  · refine ⟨r, by split at r1 <;> omega, by split at r2 <;> omega, ?_⟩
    rw [new, if_pos (by split at r1 <;> omega)]
    exact r3
  · refine ⟨r + 1, by split at r1 <;> omega, by split at r2 <;> omega, ?_⟩
    rw [new, if_neg (by omega), if_neg (by omega)]
    exact r3
theorem LB_del {n : Nat} {T : Nat → Nat} (h : LB n T) {x : Nat} (hx : x < n) (hTx : T x = 0) (h2 : (∃ i, i < n ∧ 1 ≤ T i) → ∀ p z, p < x + 1 → x + 1 < z → z ≤ n + 1 → fen n T 1 p → fen n T 1 z → ∃ r, p < r ∧ r < z ∧ r ≠ x + 1 ∧ T (r - 1) = 0) : LB (n - 1) (delF T x) := by
  intro l hl hex q z hqz hz hq hzf
  have new : ∀ i, delF T x i = if i < x then T i else T (i + 1) := fun i => rfl
  have hex0 : ∃ i, i < n ∧ l ≤ T i := by
    obtain ⟨i, hi, hi2⟩ := hex
    rw [new] at hi2
    split at hi2
    · exact ⟨i, by omega, hi2⟩
    · exact ⟨i + 1, by omega, hi2⟩
  have back : ∀ w, w ≤ n → fen (n - 1) (delF T x) l w → fen n T l (if w ≤ x then w else w + 1) := by
    intro w hwn hw
    rcases hw with h0 | h0 | ⟨w1, w2, w3⟩
    · subst h0
      exact Or.inl (by simp)
    · subst h0
      refine Or.inr (Or.inl ?_)
      rw [if_neg (by omega)]
      omega
    · rw [new] at w3
      split at w3
      · refine Or.inr (Or.inr ?_)
        rw [if_pos (by omega)]
        exact ⟨w1, by omega, w3⟩
      · refine Or.inr (Or.inr ?_)
        rw [if_neg (by omega)]
        have e : w - 1 + 1 = w + 1 - 1 := by omega
        rw [e] at w3
        exact ⟨by omega, by omega, w3⟩
  have q2 := back q (by omega) hq
  have z2 := back z (by omega) hzf
  have fin : ∀ r, (if q ≤ x then q else q + 1) < r → r < (if z ≤ x then z else z + 1) → r ≠ x + 1 → T (r - 1) = l - 1 → ∃ r', q < r' ∧ r' < z ∧ delF T x (r' - 1) = l - 1 := by
    intro r r1 r2 rx r3
    by_cases hrp : r ≤ x
    · refine ⟨r, by split at r1 <;> omega, by split at r2 <;> omega, ?_⟩
      rw [new, if_pos (by split at r1 <;> omega)]
      exact r3
    · refine ⟨r - 1, by split at r1 <;> omega, by split at r2 <;> omega, ?_⟩
      rw [new, if_neg (by omega), show r - 1 - 1 + 1 = r - 1 by omega]
      exact r3
  obtain ⟨r, r1, r2, r3⟩ := h l hl hex0 (if q ≤ x then q else q + 1) (if z ≤ x then z else z + 1) (by split <;> split <;> omega) (by split <;> omega) q2 z2
  by_cases hrx : r = x + 1
  · subst hrx
    have e : x + 1 - 1 = x := by omega
    rw [e, hTx] at r3
    have hl1 : l = 1 := by omega
    subst hl1
    obtain ⟨r', s1, s2, s3, s4⟩ := h2 hex0 _ _ r1 r2 (by split <;> omega) q2 z2
    exact fin r' s1 s2 s3 s4
  · exact fin r r1 r2 hrx r3
end
section
/-! Heights: a poor gap helped, from the top level down; then one is taken out. -/
/-- two of the next height below lie around x between any two fences of a level -/
def J2 (n : Nat) (T : Nat → Nat) (x m : Nat) : Prop := (∃ i, i < n ∧ m ≤ T i) → ∀ p z, p < x + 1 → x + 1 < z → z ≤ n + 1 → fen n T m p → fen n T m z → ∃ r1 r2, p < r1 ∧ r1 < z ∧ p < r2 ∧ r2 < z ∧ r1 ≠ r2 ∧ T (r1 - 1) = m - 1 ∧ T (r2 - 1) = m - 1
theorem help_step {n : Nat} {T : Nat → Nat} {x l : Nat} (h : LB n T) (hl : 1 ≤ l) (hx : x < n) (hTx : T x = 0) (hex : ∃ i, i < n ∧ l ≤ T i) (hJ : J2 n T x (l + 1)) :
    LB n (helpF n T l x) ∧ helpF n T l x x = 0 ∧ (∃ i, i < n ∧ l - 1 ≤ helpF n T l x i) ∧ J2 n (helpF n T l x) x l ∧ (cntF T (l - 1) (bhF n T l x - ahF T l x) (ahF T l x) = 1 → ¬ (bhF n T l x < n ∧ T (bhF n T l x) = l) → 0 < ahF T l x) := by
  have ha := ahF_le T l x
  have hb := bhF_le T l (Nat.le_of_lt hx)
  have hg := gap_all T l (Nat.le_of_lt hx)
  obtain ⟨hb1, hb2⟩ := bhF_sp T l (Nat.le_of_lt hx)
  obtain ⟨ha1, ha2⟩ := ahF_sp T l x
  have hxb : x < bhF n T l x := by
    rcases Nat.lt_or_ge x (bhF n T l x) with q | q
    · exact q
    · have e : bhF n T l x = x := by omega
      rcases hb1 with q2 | q2
      · omega
      · rw [e, hTx] at q2
        omega
  unfold helpF
  generalize hae : ahF T l x = a at *
  generalize hbe : bhF n T l x = b at *
  have fa : fen n T l a := by
    rcases ha1 with q | q
    · exact Or.inl q
    · rcases Nat.eq_zero_or_pos a with q2 | q2
      · exact Or.inl q2
      · exact Or.inr (Or.inr ⟨q2, by omega, q⟩)
  have fb : fen n T l (b + 1) := by
    rcases hb1 with q | q
    · exact Or.inr (Or.inl (by omega))
    · exact Or.inr (Or.inr ⟨by omega, by omega, by simpa using q.2⟩)
  have hc1 : 1 ≤ cntF T (l - 1) (b - a) a := by
    obtain ⟨r, r1, r2, r3⟩ := h l hl hex a (b + 1) (by omega) (by omega) fa fb
    exact cntF_pos T (l - 1) (b - a) a (r - 1) (by omega) (by omega) r3
  obtain ⟨u1, u2, u3⟩ := nthF_in T (l - 1) (b - a) a 1 (by decide) hc1
  generalize hue : nthF T (l - 1) (b - a) a 1 = u at *
  by_cases hc : cntF T (l - 1) (b - a) a = 1
  · rw [if_pos hc]
    by_cases hq : b < n ∧ T b = l
    · rw [if_pos hq]
      obtain ⟨hbn, hTb⟩ := hq
      have ht := bhF_le T l (show b + 1 ≤ n by omega)
      obtain ⟨ht1, ht2⟩ := bhF_sp T l (show b + 1 ≤ n by omega)
      unfold helpB hB1
      generalize hte : bhF n T l (b + 1) = t at *
      have hno : ∀ zz_, zz_ ≤ n + 1 → fen n T l zz_ → zz_ ≠ b + 1 → zz_ ≤ a ∨ t + 1 ≤ zz_ := by
        intro zz_ hzz_ hzzf_ hzb
        rcases fen_out hg hzzf_ (by omega) with q | q
        · exact Or.inl q
        · rcases fen_out (a := b + 1) ht2 hzzf_ (by omega) with q2 | q2
          · omega
          · exact Or.inr q2
      by_cases hc2 : 2 ≤ cntF T (l - 1) (t - (b + 1)) (b + 1)
      · rw [if_pos hc2]
        obtain ⟨n1, n2, n3⟩ := nthF_in T (l - 1) (t - (b + 1)) (b + 1) 1 (by decide) (by omega)
        obtain ⟨m1, m2, m3⟩ := nthF_in T (l - 1) (t - (b + 1)) (b + 1) 2 (by decide) (by omega)
        have h12 := nthF_lt T (l - 1) (t - (b + 1)) (b + 1) 1 2 (by decide) (by decide) hc2
        generalize nthF T (l - 1) (t - (b + 1)) (b + 1) 1 = q at *
        generalize nthF T (l - 1) (t - (b + 1)) (b + 1) 2 = q2 at *
        have e1 : upN T q (T q + 1) b - 1 = l - 1 := by
          simp only [upN]
          rw [if_neg (by omega)]
          omega
        rw [e1, n3, show l - 1 + 1 = l by omega]
        have hT' : ∀ i, i ≠ b → i ≠ q → upN (upN T q l) b (l - 1) i = T i := by intro i h1 h2; simp [upN, h1, h2]
        have hT'b : upN (upN T q l) b (l - 1) b = l - 1 := by simp [upN]
        have hT'q : upN (upN T q l) b (l - 1) q = l := by simp [upN, show ¬ q = b by omega]
        refine ⟨LB_move h hl hbn (by omega) hTb n3 (fun zz_ hzz_ hzzf_ => ⟨fun _ hzz2_ => ?_, fun hzz2_ => by omega⟩) (fun zz_ hzz_ hzzl_ => ⟨fun hhh_ => ?_, fun hhh_ => by omega⟩), ?_, ⟨b, hbn, by rw [hT'b]; exact Nat.le_refl _⟩, ?_, fun _ hhh_ => absurd ⟨hbn, hTb⟩ hhh_⟩
        · have := hno zz_ hzz_ hzzf_ (by omega)
          exact ⟨q2 + 1, by omega, by omega, by simpa using m3⟩
        · have := ht2 zz_ (by omega) (by omega)
          omega
        · rw [hT' x (by omega) (by omega)]
          exact hTx
        · intro _ pp_ zz_ hpp_ hzz_ hzz2_ fpp_ fzz_
          have fp' : fen n T l pp_ ∧ pp_ ≠ b + 1 := by
            rcases fpp_ with h0 | h0 | ⟨w1, w2, w3⟩
            · exact ⟨Or.inl h0, by omega⟩
            · omega
            · rw [hT' (pp_ - 1) (by omega) (by omega)] at w3
              exact ⟨Or.inr (Or.inr ⟨w1, w2, w3⟩), by omega⟩
          have hpa := hno pp_ (by omega) fp'.1 fp'.2
          have hzq : q + 1 ≤ zz_ := by
            rcases fzz_ with h0 | h0 | ⟨w1, w2, w3⟩
            · omega
            · omega
            · by_cases e2 : zz_ = q + 1
              · omega
              · by_cases e3 : zz_ = b + 1
                · rw [e3] at w3
                  have : b + 1 - 1 = b := by omega
                  rw [this, hT'b] at w3
                  omega
                · rw [hT' (zz_ - 1) (by omega) (by omega)] at w3
                  have := hno zz_ hzz2_ (Or.inr (Or.inr ⟨w1, w2, w3⟩)) e3
                  omega
          refine ⟨u + 1, b + 1, by omega, by omega, by omega, by omega, by omega, ?_, by simpa using hT'b⟩
          have : u + 1 - 1 = u := by omega
          rw [this, hT' u (by omega) (by omega)]
          exact u3
      · rw [if_neg hc2, hTb]
        have hT' : ∀ i, i ≠ b → upN T b (l - 1) i = T i := by intro i h1; simp [upN, h1]
        have hT'b : upN T b (l - 1) b = l - 1 := by simp [upN]
        refine ⟨LB_merge h hl hbn hTb (fun hexx2_ pp_ zz_ hppz_ hzz_ fpp_ fzz_ hpp1_ hzz1_ => ?_), ?_, ⟨b, hbn, by rw [hT'b]; exact Nat.le_refl _⟩, ?_, fun _ hhh_ => absurd ⟨hbn, rfl⟩ hhh_⟩
        · have fp' : fen n T l pp_ := by
            rcases fpp_ with h0 | h0 | ⟨w1, w2, w3⟩
            · exact Or.inl h0
            · exact Or.inr (Or.inl h0)
            · exact Or.inr (Or.inr ⟨w1, w2, by omega⟩)
          have hpa := hno pp_ (by omega) fp' (by omega)
          obtain ⟨r1, r2, s1, s2, s3, s4, s5, s6, s7⟩ := hJ hexx2_ pp_ zz_ (by omega) (by omega) hzz_ fpp_ fzz_
          by_cases e : r1 = b + 1
          · exact ⟨r2, s3, s4, by omega, s7⟩
          · exact ⟨r1, s1, s2, e, s6⟩
        · rw [hT' x (by omega)]
          exact hTx
        · intro _ pp_ zz_ hpp_ hzz_ hzz2_ fpp_ fzz_
          have back : ∀ w, fen n (upN T b (l - 1)) l w → fen n T l w ∧ w ≠ b + 1 := by
            intro w hw
            rcases hw with h0 | h0 | ⟨w1, w2, w3⟩
            · exact ⟨Or.inl h0, by omega⟩
            · exact ⟨Or.inr (Or.inl h0), by omega⟩
            · by_cases e3 : w = b + 1
              · rw [e3] at w3
                have : b + 1 - 1 = b := by omega
                rw [this, hT'b] at w3
                omega
              · rw [hT' (w - 1) (by omega)] at w3
                exact ⟨Or.inr (Or.inr ⟨w1, w2, w3⟩), e3⟩
          have hpa := hno pp_ (by omega) (back pp_ fpp_).1 (back pp_ fpp_).2
          have hza := hno zz_ hzz2_ (back zz_ fzz_).1 (back zz_ fzz_).2
          refine ⟨u + 1, b + 1, by omega, by omega, by omega, by omega, by omega, ?_, by simpa using hT'b⟩
          have : u + 1 - 1 = u := by omega
          rw [this, hT' u (by omega)]
          exact u3
    · rw [if_neg hq]
      -- the fence behind is higher, or there is none
      have hbh : b = n ∨ (b < n ∧ l + 1 ≤ T b) := by
        rcases hb1 with q | q
        · exact Or.inl q
        · exact Or.inr ⟨q.1, by
            have : ¬ T b = l := fun e => hq ⟨q.1, e⟩
            omega⟩
      have fb1 : fen n T (l + 1) (b + 1) := by
        rcases hbh with q | q
        · exact Or.inr (Or.inl (by omega))
        · exact Or.inr (Or.inr ⟨by omega, by omega, by simpa using q.2⟩)
      have hapos : 0 < a := by
        rcases Nat.eq_zero_or_pos a with q | q
        · exfalso
          have hex1 : ∃ i, i < n ∧ l + 1 ≤ T i := by
            rcases hbh with q2 | q2
            · obtain ⟨i, hi, hi2⟩ := hex
              have := hg i (by omega) (by omega)
              omega
            · exact ⟨b, q2.1, q2.2⟩
          obtain ⟨r, r1, r2, r3⟩ := h (l + 1) (by omega) hex1 a (b + 1) (by omega) (by omega) (Or.inl q) fb1
          have := hg (r - 1) (by omega) (by omega)
          omega
        · exact q
      rw [if_pos hapos]
      have hTf : T (a - 1) = l := by
        have hge : l ≤ T (a - 1) := by
          rcases ha1 with q | q
          · omega
          · exact q
        rcases Nat.lt_or_ge l (T (a - 1)) with q | q
        · exfalso
          obtain ⟨r, r1, r2, r3⟩ := h (l + 1) (by omega) ⟨a - 1, by omega, q⟩ a (b + 1) (by omega) (by omega) (Or.inr (Or.inr ⟨by omega, by omega, q⟩)) fb1
          have := hg (r - 1) (by omega) (by omega)
          omega
        · omega
      have hs := ahF_le T l (a - 1)
      obtain ⟨hs1, hs2⟩ := ahF_sp T l (a - 1)
      unfold helpA hA1
      generalize hse : ahF T l (a - 1) = s at *
      have hno : ∀ zz_, zz_ ≤ n + 1 → fen n T l zz_ → zz_ ≠ a → zz_ ≤ s ∨ b + 1 ≤ zz_ := by
        intro zz_ hzz_ hzzf_ hza
        rcases fen_out hg hzzf_ (by omega) with q | q
        · rcases fen_out (b := a - 1) hs2 hzzf_ (by omega) with q2 | q2
          · exact Or.inl q2
          · omega
        · exact Or.inr q
      by_cases hc2 : 2 ≤ cntF T (l - 1) (a - 1 - s) s
      · rw [if_pos hc2]
        obtain ⟨n1, n2, n3⟩ := nthF_in T (l - 1) (a - 1 - s) s (cntF T (l - 1) (a - 1 - s) s) (by omega) (by omega)
        obtain ⟨m1, m2, m3⟩ := nthF_in T (l - 1) (a - 1 - s) s (cntF T (l - 1) (a - 1 - s) s - 1) (by omega) (by omega)
        have h12 := nthF_lt T (l - 1) (a - 1 - s) s (cntF T (l - 1) (a - 1 - s) s - 1) (cntF T (l - 1) (a - 1 - s) s) (by omega) (by omega) (by omega)
        generalize nthF T (l - 1) (a - 1 - s) s (cntF T (l - 1) (a - 1 - s) s) = q at *
        generalize nthF T (l - 1) (a - 1 - s) s (cntF T (l - 1) (a - 1 - s) s - 1) = q2 at *
        have e1 : upN T q (T q + 1) (a - 1) - 1 = l - 1 := by
          simp only [upN]
          rw [if_neg (by omega)]
          omega
        rw [e1, n3, show l - 1 + 1 = l by omega]
        have hT' : ∀ i, i ≠ a - 1 → i ≠ q → upN (upN T q l) (a - 1) (l - 1) i = T i := by intro i h1 h2; simp [upN, h1, h2]
        have hT'f : upN (upN T q l) (a - 1) (l - 1) (a - 1) = l - 1 := by simp [upN]
        refine ⟨LB_move h hl (by omega) (by omega) hTf n3 (fun zz_ hzz_ hzzf_ => ⟨fun hzz2_ => by omega, fun _ hzz2_ => ?_⟩) (fun zz_ hzz_ hzzl_ => ⟨fun hhh_ => by omega, fun hhh_ => ?_⟩), ?_, ⟨a - 1, by omega, by rw [hT'f]; exact Nat.le_refl _⟩, ?_, fun _ _ => hapos⟩
        · have := hno zz_ hzz_ hzzf_ (by omega)
          exact ⟨q2 + 1, by omega, by omega, by simpa using m3⟩
        · have := hs2 zz_ (by omega) (by omega)
          omega
        · rw [hT' x (by omega) (by omega)]
          exact hTx
        · intro _ pp_ zz_ hpp_ hzz_ hzz2_ fpp_ fzz_
          have hzb : b + 1 ≤ zz_ := by
            rcases fzz_ with h0 | h0 | ⟨w1, w2, w3⟩
            · omega
            · omega
            · rw [hT' (zz_ - 1) (by omega) (by omega)] at w3
              have := hno zz_ hzz2_ (Or.inr (Or.inr ⟨w1, w2, w3⟩)) (by omega)
              omega
          have hpq : pp_ ≤ q + 1 := by
            rcases fpp_ with h0 | h0 | ⟨w1, w2, w3⟩
            · omega
            · omega
            · by_cases e2 : pp_ = q + 1
              · omega
              · by_cases e3 : pp_ = a
                · rw [e3, hT'f] at w3
                  omega
                · rw [hT' (pp_ - 1) (by omega) (by omega)] at w3
                  have := hno pp_ (by omega) (Or.inr (Or.inr ⟨w1, w2, w3⟩)) e3
                  omega
          refine ⟨u + 1, a, by omega, by omega, by omega, by omega, by omega, ?_, hT'f⟩
          have : u + 1 - 1 = u := by omega
          rw [this, hT' u (by omega) (by omega)]
          exact u3
      · rw [if_neg hc2, hTf]
        have hT' : ∀ i, i ≠ a - 1 → upN T (a - 1) (l - 1) i = T i := by intro i h1; simp [upN, h1]
        have hT'f : upN T (a - 1) (l - 1) (a - 1) = l - 1 := by simp [upN]
        refine ⟨LB_merge h hl (by omega) hTf (fun hexx2_ pp_ zz_ hppz_ hzz_ fpp_ fzz_ hpp1_ hzz1_ => ?_), ?_, ⟨a - 1, by omega, by rw [hT'f]; exact Nat.le_refl _⟩, ?_, fun _ _ => hapos⟩
        · have fz' : fen n T l zz_ := by
            rcases fzz_ with h0 | h0 | ⟨w1, w2, w3⟩
            · exact Or.inl h0
            · exact Or.inr (Or.inl h0)
            · exact Or.inr (Or.inr ⟨w1, w2, by omega⟩)
          have hza := hno zz_ hzz_ fz' (by omega)
          obtain ⟨r1, r2, s1, s2, s3, s4, s5, s6, s7⟩ := hJ hexx2_ pp_ zz_ (by omega) (by omega) hzz_ fpp_ fzz_
          by_cases e : r1 = a - 1 + 1
          · exact ⟨r2, s3, s4, by omega, s7⟩
          · exact ⟨r1, s1, s2, e, s6⟩
        · rw [hT' x (by omega)]
          exact hTx
        · intro _ pp_ zz_ hpp_ hzz_ hzz2_ fpp_ fzz_
          have back : ∀ w, fen n (upN T (a - 1) (l - 1)) l w → fen n T l w ∧ w ≠ a := by
            intro w hw
            rcases hw with h0 | h0 | ⟨w1, w2, w3⟩
            · exact ⟨Or.inl h0, by omega⟩
            · exact ⟨Or.inr (Or.inl h0), by omega⟩
            · by_cases e3 : w = a
              · rw [e3, hT'f] at w3
                omega
              · rw [hT' (w - 1) (by omega)] at w3
                exact ⟨Or.inr (Or.inr ⟨w1, w2, w3⟩), e3⟩
          have hpa := hno pp_ (by omega) (back pp_ fpp_).1 (back pp_ fpp_).2
          have hza := hno zz_ hzz2_ (back zz_ fzz_).1 (back zz_ fzz_).2
          refine ⟨u + 1, a, by omega, by omega, by omega, by omega, by omega, ?_, hT'f⟩
          have : u + 1 - 1 = u := by omega
          rw [this, hT' u (by omega)]
          exact u3
  · rw [if_neg hc]
    obtain ⟨i, hi, hi2⟩ := hex
    refine ⟨h, hTx, ⟨i, hi, by omega⟩, ?_, fun e => absurd e hc⟩
    obtain ⟨m1, m2, m3⟩ := nthF_in T (l - 1) (b - a) a 2 (by decide) (by omega)
    have h12 := nthF_lt T (l - 1) (b - a) a 1 2 (by decide) (by decide) (by omega)
    rw [hue] at h12
    generalize nthF T (l - 1) (b - a) a 2 = u' at *
    intro _ pp_ zz_ hpp_ hzz_ hzz2_ fpp_ fzz_
    have hpp1_ := fen_out hg fpp_ (by omega)
    have hzz1_ := fen_out hg fzz_ (by omega)
    exact ⟨u + 1, u' + 1, by omega, by omega, by omega, by omega, by omega, by simpa using u3, by simpa using m3⟩
theorem help_all {n x : Nat} (hx : x < n) : ∀ (l : Nat) (T : Nat → Nat), LB n T → T x = 0 → (l = 0 ∨ ∃ i, i < n ∧ l ≤ T i) → J2 n T x (l + 1) → LB n (helpL n x l T) ∧ helpL n x l T x = 0 ∧ J2 n (helpL n x l T) x 1
  | 0, T, h, h0, _, hJ => ⟨h, h0, hJ⟩
  | l + 1, T, h, h0, hex, hJ => by
    have hex' : ∃ i, i < n ∧ l + 1 ≤ T i := by
      rcases hex with q | q
      · omega
      · exact q
    obtain ⟨a1, a2, a3, a4, -⟩ := help_step h (by omega) hx h0 hex' hJ
    exact help_all hx l _ a1 a2 (Or.inr a3) a4
theorem topF_ge (T : Nat → Nat) : ∀ (n i : Nat), i < n → T i + 1 ≤ topF T n
  | 0, i, h => by omega
  | n + 1, i, h => by
    simp only [topF]
    by_cases hin : i = n
    · subst hin
      omega
    · have := topF_ge T n i (by omega)
      omega
theorem topF_at (T : Nat → Nat) : ∀ (n : Nat), 0 < n → ∃ i, i < n ∧ T i + 1 = topF T n
  | 0, h => by omega
  | n + 1, _ => by
    simp only [topF]
    rcases Nat.lt_or_ge (T n + 1) (topF T n) with h | h
    · cases n with
      | zero => simp [topF] at h
      | succ n =>
        obtain ⟨i, hi, hi2⟩ := topF_at T (n + 1) (by omega)
        exact ⟨i, by omega, by omega⟩
    · exact ⟨n, by omega, by omega⟩
def Inv (M : AM) : Prop := wfM M ∧ LB M.1 M.2.2.2
theorem Inv.low {M : AM} (h : Inv M) : lowM M := fun i hi => by
  have := LB_bound h.2 hi
  have := h.1.1
  omega
theorem outP_ok {M : AM} (h : LB M.1 M.2.2.2) {p : Nat} (hp : p < M.1) : outP M p < M.1 ∧ M.2.2.2 (outP M p) = 0 ∧ (outP M p = p ∨ outP M p = p + 1) ∧ (0 < M.2.2.2 p → outP M p = p + 1) ∧ (M.2.2.2 p = 0 → outP M p = p) := by
  unfold outP
  rcases Nat.eq_zero_or_pos (M.2.2.2 p) with q | q
  · rw [if_neg (by omega)]
    exact ⟨hp, q, Or.inl rfl, fun _ => by omega, fun _ => rfl⟩
  · have := LB_low h hp q
    rw [if_pos ⟨q, this.1⟩]
    exact ⟨this.1, this.2, Or.inr rfl, fun _ => rfl, fun _ => by omega⟩
theorem helpL_le {n p b : Nat} (hp : p ≤ n) : ∀ (l : Nat) (T : Nat → Nat), l ≤ b → (∀ i, i < n → T i ≤ b) → ∀ i, i < n → helpL n p l T i ≤ b
  | 0, T, _, h, i, hi => h i hi
  | l + 1, T, hl, h, i, hi => helpL_le hp l _ (by omega) (helpF_le hl hp h (by omega)) i hi
theorem partL_le {n p b : Nat} (hp : p ≤ n) : ∀ (l : Nat) (T : Nat → Nat), l ≤ b → (∀ i, i < n → T i ≤ b) → ∀ i, i < n → partL n p l T i ≤ b
  | 0, T, _, h, i, hi => h i hi
  | l + 1, T, hl, h, i, hi => partL_le hp l _ (by omega) (partF_le hl hp h (by omega)) i hi
theorem Inv.out {M : AM} (h : Inv M) {p : Nat} (hp : p < M.1) : Inv (outM M p) := by
  obtain ⟨o1, o2, o3, -⟩ := outP_ok h.2 hp
  obtain ⟨i0, hi0, ht0⟩ := topF_at M.2.2.2 M.1 (by omega)
  have hlow := h.low
  have htop := low_top hlow
  have hn := h.1.1
  obtain ⟨a1, a2, a3⟩ := help_all o1 (topF M.2.2.2 M.1 - 1) M.2.2.2 h.2 o2 (Or.inr ⟨i0, hi0, by omega⟩) (fun hex => by
    obtain ⟨i, hi, hi2⟩ := hex
    have := topF_ge M.2.2.2 M.1 i hi
    omega)
  have hle := helpL_le (b := 40) (Nat.le_of_lt o1) (topF M.2.2.2 M.1 - 1) M.2.2.2 (by omega) (fun i hi => by have := hlow i hi; omega)
  refine ⟨⟨by show M.1 - 1 ≤ 40; omega, fun i hi => ?_, fun i hi => ?_⟩, ?_⟩
  · have hi : i < M.1 - 1 := hi
    refine ⟨?_, ?_, ?_⟩
    · show delF M.2.1 p i < 100
      unfold delF
      split
      · exact (h.1.2.1 i (by omega)).1
      · exact (h.1.2.1 (i + 1) (by omega)).1
    · show delF M.2.2.1 p i < 1000000
      unfold delF
      split
      · exact (h.1.2.1 i (by omega)).2.1
      · exact (h.1.2.1 (i + 1) (by omega)).2.1
    · show delF (helpL M.1 (outP M p) (topF M.2.2.2 M.1 - 1) M.2.2.2) (outP M p) i < 64
      unfold delF
      split
      · have := hle i (by omega)
        omega
      · have := hle (i + 1) (by omega)
        omega
  · have hi : i + 1 < M.1 - 1 := hi
    show delF M.2.1 p i < delF M.2.1 p (i + 1)
    unfold delF
    split
    · split
      · exact h.1.2.2 i (by omega)
      · exact wf_lt h.1 (by omega) (by omega)
    · rw [if_neg (by omega)]
      exact h.1.2.2 (i + 1) (by omega)
  · show LB (M.1 - 1) (delF (helpL M.1 (outP M p) (topF M.2.2.2 M.1 - 1) M.2.2.2) (outP M p))
    refine LB_del a1 o1 a2 (fun hex q z hq hz hz2 fq fz => ?_)
    obtain ⟨r1, r2, s1, s2, s3, s4, s5, s6, s7⟩ := a3 hex q z hq hz hz2 fq fz
    by_cases e : r1 = outP M p + 1
    · exact ⟨r2, s3, s4, by omega, s7⟩
    · exact ⟨r1, s1, s2, e, s6⟩
theorem Inv.place {M : AM} (h : Inv M) {key v : Nat} (hk : key < 100) (hv : v < 1000000) (hn : M.1 < 40) (hno : ¬ has M key) : Inv (placeM M key v) := by
  have hle := les_le M key
  have hlow := h.low
  have htop := low_top hlow
  obtain ⟨l1, l2⟩ := les_spec h.1 key
  have hpl := partL_le (b := 40) hle (topF M.2.2.2 M.1) M.2.2.2 htop (fun i hi => by have := hlow i hi; omega)
  have hne : les M key < M.1 → M.2.1 (les M key) ≠ key := fun q e => hno ⟨q, e⟩
  refine ⟨⟨by show M.1 + 1 ≤ 40; omega, fun i hi => ?_, fun i hi => ?_⟩, LB_ins (LB_partL hle _ _ h.2) hle⟩
  · have hi : i < M.1 + 1 := hi
    refine ⟨?_, ?_, ?_⟩
    · show insF M.2.1 (les M key) key i < 100
      unfold insF
      split
      · exact (h.1.2.1 i (by omega)).1
      · split
        · exact hk
        · exact (h.1.2.1 (i - 1) (by omega)).1
    · show insF M.2.2.1 (les M key) v i < 1000000
      unfold insF
      split
      · exact (h.1.2.1 i (by omega)).2.1
      · split
        · exact hv
        · exact (h.1.2.1 (i - 1) (by omega)).2.1
    · show insF (partL M.1 (les M key) (topF M.2.2.2 M.1) M.2.2.2) (les M key) 0 i < 64
      unfold insF
      split
      · have := hpl i (by omega)
        omega
      · split
        · omega
        · have := hpl (i - 1) (by omega)
          omega
  · have hi : i + 1 < M.1 + 1 := hi
    show insF M.2.1 (les M key) key i < insF M.2.1 (les M key) key (i + 1)
    unfold insF
    split
    · split
      · exact h.1.2.2 i (by omega)
      · rw [if_pos (by omega)]
        exact l1 i (by omega)
    · split
      · rw [if_neg (by omega), if_neg (by omega)]
        have h3 := l2 (les M key) (Nat.le_refl _) (by omega)
        have h4 := hne (by omega)
        have e : i + 1 - 1 = les M key := by omega
        rw [e]
        omega
      · rw [if_neg (by omega), if_neg (by omega)]
        have := h.1.2.2 (i - 1) (by omega)
        have e : i + 1 - 1 = i - 1 + 1 := by omega
        rw [e]
        exact this
theorem Inv.setV {M : AM} (h : Inv M) {p v : Nat} (hv : v < 1000000) : Inv (setV M p v) := by
  refine ⟨⟨h.1.1, fun i hi => ⟨(h.1.2.1 i hi).1, ?_, (h.1.2.1 i hi).2.2⟩, h.1.2.2⟩, h.2⟩
  show upN M.2.2.1 p v i < 1000000
  unfold upN
  split
  · exact hv
  · exact (h.1.2.1 i hi).2.1
end
section
/-! The model: its maps in a row of numbers; what it reads of them. -/
def isP (σ : Hp) (P mb : Nat) (M : AM) : Prop := σ.1 P 0 mb = nI M.1 ∧ ∀ i, i < M.1 → σ.1 P 0 (mb + 1 + i) = nI (M.2.1 i) ∧ σ.1 P 0 (mb + 41 + i) = nI (M.2.2.1 i) ∧ σ.1 P 0 (mb + 81 + i) = nI (M.2.2.2 i)
abbrev rP (P : Nat) : PV := .inr (.inr (P, 0))
abbrev rMo : PV := .inr (.inr (6, 0))
/-- only the model's own numbers have changed, not its text's size, its acts, what is sought -/
def frS (σ σ' : Hp) : Prop := (∀ k i, k ≠ 6 → σ'.1 k i = σ.1 k i) ∧ (∀ s, s = 2 ∨ s = 11 ∨ s = 14 → σ'.1 6 0 s = σ.1 6 0 s) ∧ σ'.2 = σ.2
/-- nor the half of a row beside mb .. mb + 120, nor other rows -/
def frP (P mb : Nat) (σ σ' : Hp) : Prop := (∀ k i, k ≠ 6 → ¬ (k = P ∧ i = 0) → σ'.1 k i = σ.1 k i) ∧ (∀ s, s = 2 ∨ s = 11 ∨ s = 14 → σ'.1 6 0 s = σ.1 6 0 s) ∧ σ'.2 = σ.2 ∧ ∀ x, ¬ (mb ≤ x ∧ x < mb + 121) → σ'.1 P 0 x = σ.1 P 0 x
theorem frS.rf (σ : Hp) : frS σ σ := ⟨fun _ _ _ => rfl, fun _ _ => rfl, rfl⟩
theorem frS.tr {σ σ1 σ2 : Hp} (h : frS σ σ1) (h2 : frS σ1 σ2) : frS σ σ2 := ⟨fun k i q => (h2.1 k i q).trans (h.1 k i q), fun s q => (h2.2.1 s q).trans (h.2.1 s q), h2.2.2.trans h.2.2⟩
theorem frP.rf (P mb : Nat) (σ : Hp) : frP P mb σ σ := ⟨fun _ _ _ _ => rfl, fun _ _ => rfl, rfl, fun _ _ => rfl⟩
theorem frP.tr {P mb : Nat} {σ σ1 σ2 : Hp} (h : frP P mb σ σ1) (h2 : frP P mb σ1 σ2) : frP P mb σ σ2 := ⟨fun k i q q2 => (h2.1 k i q q2).trans (h.1 k i q q2), fun s q => (h2.2.1 s q).trans (h.2.1 s q), h2.2.2.1.trans h.2.2.1, fun x q => (h2.2.2.2 x q).trans (h.2.2.2 x q)⟩
theorem frS.p {P mb : Nat} {σ σ' : Hp} (h : frS σ σ') (hP : P ≠ 6) : frP P mb σ σ' := ⟨fun k i q _ => h.1 k i q, h.2.1, h.2.2, fun x _ => by rw [h.1 P 0 hP]⟩
theorem frS.st {σ σ1 : Hp} {s : Nat} {v : Int32} (h : frS σ σ1) (hs : s ≠ 2 ∧ s ≠ 11 ∧ s ≠ 14) : frS σ (hset σ1.1 6 0 s v, σ1.2) := by
  refine ⟨fun k i q => ?_, fun s' q => ?_, h.2.2⟩
  · show hset σ1.1 6 0 s v k i = _
    rw [hset_ne (by rintro h1; cases h1; exact q rfl)]
    exact h.1 k i q
  · show hset σ1.1 6 0 s v 6 0 s' = _
    unfold hset
    rw [if_neg (by omega)]
    exact h.2.1 s' q
theorem frP.st {P mb x : Nat} {σ σ1 : Hp} {v : Int32} (h : frP P mb σ σ1) (hP : P ≠ 6) (hx : mb ≤ x ∧ x < mb + 121) : frP P mb σ (hset σ1.1 P 0 x v, σ1.2) := by
  refine ⟨fun k i q q2 => ?_, fun s' q => ?_, h.2.2.1, fun y q => ?_⟩
  · show hset σ1.1 P 0 x v k i = _
    rw [hset_ne (by rintro h1; cases h1; exact q2 ⟨rfl, rfl⟩)]
    exact h.1 k i q q2
  · show hset σ1.1 P 0 x v 6 0 s' = _
    rw [hset_ne (by rintro h1; cases h1; exact hP rfl)]
    exact h.2.1 s' q
  · show hset σ1.1 P 0 x v P 0 y = _
    unfold hset
    rw [if_neg (by omega)]
    exact h.2.2.2 y q
theorem frS.is {P mb : Nat} {σ σ' : Hp} {M : AM} (h : frS σ σ') (hP : P ≠ 6) (hI : isP σ P mb M) : isP σ' P mb M := by
  unfold isP at hI ⊢
  rw [h.1 P 0 hP]
  exact hI
theorem ix1 (m i : Nat) : nI m + 1 + nI i = nI (m + 1 + i) := by rw [nI_1, nI_add]
theorem ix41 (m i : Nat) : nI m + 41 + nI i = nI (m + 41 + i) := by rw [show (41 : Int32) = nI 41 from rfl, nI_add, nI_add]
theorem ix81 (m i : Nat) : nI m + 81 + nI i = nI (m + 81 + i) := by rw [show (81 : Int32) = nI 81 from rfl, nI_add, nI_add]
theorem ev_in (a b c : Int64) (σ : Hp) : Ev 89 [.inr (.inl a), .inr (.inl b), .inr (.inl c)] σ (fun r σ' => σ' = σ ∧ ((b ≤ a ∧ a ≤ c ∧ r = some (.inl 1)) ∨ (¬ (b ≤ a ∧ a ≤ c) ∧ r = some (.inl 0)))) := by
  refine G_if rfl (fun q => ?_) (fun q => ?_)
  · have q := (lg_cmp_lt _ _).mp q
    exact G_retZ rfl (Or.inl rfl) ⟨rfl, Or.inr ⟨fun q2 => by
      have h1 := Int64.lt_iff_toInt_lt.mp q
      have h2 := Int64.le_iff_toInt_le.mp q2.1
      omega, rfl⟩⟩
  · have q1 : b ≤ a := by
      rcases Int64.le_total b a with h | h
      · exact h
      · rcases Int64.lt_or_eq_of_le h with h | h
        · exact absurd ((lg_cmp_lt _ _).mpr h) q
        · rw [h]; exact Int64.le_refl _
    refine G_if rfl (fun q2 => ?_) (fun q2 => ?_)
    · have q2 := (lg_cmp_gt _ _).mp q2
      exact G_retZ rfl (Or.inl rfl) ⟨rfl, Or.inr ⟨fun q3 => by
        have h1 := Int64.lt_iff_toInt_lt.mp q2
        have h2 := Int64.le_iff_toInt_le.mp q3.2
        omega, rfl⟩⟩
    · have q3 : a ≤ c := by
        rcases Int64.le_total a c with h | h
        · exact h
        · rcases Int64.lt_or_eq_of_le h with h | h
          · exact absurd ((lg_cmp_gt _ _).mpr h) q2
          · rw [h]; exact Int64.le_refl _
      exact G_retZ rfl (Or.inr rfl) ⟨rfl, Or.inl ⟨q1, q3, rfl⟩⟩
theorem i64_le {x y : Int32} : x.toInt64 ≤ y.toInt64 ↔ x ≤ y := by
  rw [Int64.le_iff_toInt_le, Int32.le_iff_toInt_le, Int32.toInt_toInt64, Int32.toInt_toInt64]
theorem ev_noMap (x : Int32) (σ : Hp) : Ev 97 [.inl x] σ (fun r σ' => σ' = σ ∧ ((0 ≤ x ∧ x ≤ 1 ∧ r = some (.inl 0)) ∨ (¬ (0 ≤ x ∧ x ≤ 1) ∧ r = some (.inl 1)))) := by
  have e0 : (0 : Int64) = (0 : Int32).toInt64 := rfl
  have e1 : (1 : Int64) = (1 : Int32).toInt64 := rfl
  refine G_call rfl (ev_in _ _ _ σ) ?_
  rintro r1 σ1 ⟨rfl, ⟨h1, h2, rfl⟩ | ⟨h1, rfl⟩⟩
  · rw [e0, i64_le] at h1
    rw [e1, i64_le] at h2
    refine G_if rfl (fun q => ?_) (fun q => ?_)
    · exact G_retZ rfl (Or.inl rfl) ⟨rfl, Or.inl ⟨h1, h2, rfl⟩⟩
    · exact absurd (by decide) q
  · rw [e0, e1, i64_le, i64_le] at h1
    refine G_if rfl (fun q => ?_) (fun q => ?_)
    · exact absurd rfl q
    · exact G_retZ rfl (Or.inr rfl) ⟨rfl, Or.inr ⟨h1, rfl⟩⟩
theorem ev_noKey (x : Int32) (σ : Hp) : Ev 100 [.inl x] σ (fun r σ' => σ' = σ ∧ ((0 ≤ x ∧ x ≤ 99 ∧ r = some (.inl 0)) ∨ (¬ (0 ≤ x ∧ x ≤ 99) ∧ r = some (.inl 1)))) := by
  have e0 : (0 : Int64) = (0 : Int32).toInt64 := rfl
  have e1 : (99 : Int64) = (99 : Int32).toInt64 := rfl
  refine G_call rfl (ev_in _ _ _ σ) ?_
  rintro r1 σ1 ⟨rfl, ⟨h1, h2, rfl⟩ | ⟨h1, rfl⟩⟩
  · rw [e0, i64_le] at h1
    rw [e1, i64_le] at h2
    refine G_if rfl (fun q => ?_) (fun q => ?_)
    · exact G_retZ rfl (Or.inl rfl) ⟨rfl, Or.inl ⟨h1, h2, rfl⟩⟩
    · exact absurd (by decide) q
  · rw [e0, e1, i64_le, i64_le] at h1
    refine G_if rfl (fun q => ?_) (fun q => ?_)
    · exact absurd rfl q
    · exact G_retZ rfl (Or.inr rfl) ⟨rfl, Or.inr ⟨h1, rfl⟩⟩
section MO
variable {σ : Hp} {mb : Nat} {M : AM}
theorem ev_find_21 (hI : isP σ 21 mb M) (hw : wfM M) (hm : mb + 121 ≤ 242) {key : Nat} (hk : key < 2147483648) : Ev 101 [rP 21, .inl (nI mb), .inl (nI key)] σ (fun r σ' => σ' = σ ∧ ((has M key ∧ r = some (.inl (nI (les M key)))) ∨ (¬ has M key ∧ r = some (.inl (-9))))) := by
  have hn := hw.1
  have loop : ∀ (m i : Nat) (x3 x4 : Int32), x4 = nI i → i + m = M.1 → ((∀ i', i' < i → M.2.1 i' ≠ key) ∧ x3 = -9 ∨ ∃ i', i' < i ∧ M.2.1 i' = key ∧ x3 = nI i') → RR 101 6 [some (rP 21), some (.inl (nI mb)), some (.inl (nI key)), some (.inl x3), some (.inl x4)] [] σ (fun r σ' => σ' = σ ∧ ((has M key ∧ r = some (.inl (nI (les M key)))) ∨ (¬ has M key ∧ r = some (.inl (-9))))) := by
    intro m
    induction m with
    | zero =>
      intro i x3 x4 hx4 hi hx3
      have hiM : i = M.1 := by omega
      subst hiM
      refine G_ald rfl mb rfl (by omega) (by decide) ?_
      rw [hI.1]
      refine G_if rfl (fun h => ?_) (fun h => ?_)
      · refine G_ret rfl ⟨rfl, ?_⟩
        rcases hx3 with ⟨h1, rfl⟩ | ⟨i', h1, h2, rfl⟩
        · right
          refine ⟨fun hh => ?_, rfl⟩
          exact h1 _ hh.1 hh.2
        · left
          refine ⟨(has_iff hw).mpr ⟨i', h1, h2⟩, ?_⟩
          rw [← h2, les_at hw h1]
      · rw [hx4] at h
        exact absurd (nle h (by omega) (by omega)) (by omega)
    | succ m ih =>
      intro i x3 x4 hx4 hi hx3
      have hK := (hw.2.1 i (by omega)).1
      refine G_ald rfl mb rfl (by omega) (by decide) ?_
      rw [hI.1]
      refine G_if rfl (fun h => ?_) (fun h => ?_)
      · rw [hx4] at h
        exact absurd (ile h (by omega) (by omega)) (by omega)
      · refine G_ald rfl (mb + 1 + i) (by rw [hx4]; exact ix1 mb i) (by omega) (by decide) ?_
        rw [(hI.2 i (by omega)).1]
        refine G_if rfl (fun h2 => ?_) (fun h2 => ?_)
        · have h2 : ¬ M.2.1 i = key := fun e => h2 (by rw [e])
          refine G_to [6] rfl ?_
          refine ih (i + 1) _ _ (by rw [hx4]; exact nI_1 i) (by omega) ?_
          rcases hx3 with ⟨h1, rfl⟩ | ⟨i', h1, h3, rfl⟩
          · left
            refine ⟨fun i' hi' => ?_, rfl⟩
            by_cases e : i' = i
            · rw [e]; exact h2
            · exact h1 i' (by omega)
          · exact Or.inr ⟨i', by omega, h3, rfl⟩
        · have h2 := ieq (Classical.not_not.mp h2) (by omega) hk
          refine G_to [6] rfl ?_
          exact ih (i + 1) _ _ (by rw [hx4]; exact nI_1 i) (by omega) (Or.inr ⟨i, by omega, h2, hx4⟩)
  refine G_to [6] rfl ?_
  exact loop M.1 0 _ _ nI_0.symm (by omega) (Or.inl ⟨fun i' h => by omega, rfl⟩)
theorem ev_plesser_21 (hI : isP σ 21 mb M) (hw : wfM M) (hm : mb + 121 ≤ 242) {key : Nat} (hk : key < 2147483648) : Ev 104 [rP 21, .inl (nI mb), .inl (nI key)] σ (fun r σ' => r = some (.inl (nI (les M key))) ∧ σ' = σ) := by
  have hn := hw.1
  have hle := les_le M key
  obtain ⟨l1, l2⟩ := les_spec hw key
  have loop : ∀ (m i : Nat) (x3 x4 : Int32), x4 = nI i → i + m = M.1 → x3 = nI (min i (les M key)) → RR 104 5 [some (rP 21), some (.inl (nI mb)), some (.inl (nI key)), some (.inl x3), some (.inl x4)] [] σ (fun r σ' => r = some (.inl (nI (les M key))) ∧ σ' = σ) := by
    intro m
    induction m with
    | zero =>
      intro i x3 x4 hx4 hi hx3
      refine G_ald rfl mb rfl (by omega) (by decide) ?_
      rw [hI.1]
      refine G_if rfl (fun h => ?_) (fun h => ?_)
      · exact G_ret rfl ⟨by rw [hx3, Nat.min_eq_right (by omega)], rfl⟩
      · rw [hx4] at h
        exact absurd (nle h (by omega) (by omega)) (by omega)
    | succ m ih =>
      intro i x3 x4 hx4 hi hx3
      have hK := (hw.2.1 i (by omega)).1
      refine G_ald rfl mb rfl (by omega) (by decide) ?_
      rw [hI.1]
      refine G_if rfl (fun h => ?_) (fun h => ?_)
      · rw [hx4] at h
        exact absurd (ile h (by omega) (by omega)) (by omega)
      · refine G_ald rfl (mb + 1 + i) (by rw [hx4]; exact ix1 mb i) (by omega) (by decide) ?_
        rw [(hI.2 i (by omega)).1]
        refine G_if rfl (fun h2 => ?_) (fun h2 => ?_)
        · have h2 := ile h2 hk (by omega)
          have h3 : les M key ≤ i := by
            rcases Nat.lt_or_ge i (les M key) with q | q
            · have := l1 i q
              omega
            · exact q
          refine G_to [5] rfl ?_
          refine ih (i + 1) _ _ (by rw [hx4]; exact nI_1 i) (by omega) ?_
          rw [hx3, show (0 : Int32) = nI 0 from rfl, nI_add, Nat.min_eq_right h3, Nat.min_eq_right (by omega)]
          rfl
        · have h2 := nle h2 hk (by omega)
          have h3 : i < les M key := by
            rcases Nat.lt_or_ge i (les M key) with q | q
            · exact q
            · have := l2 i q (by omega)
              omega
          refine G_to [5] rfl ?_
          refine ih (i + 1) _ _ (by rw [hx4]; exact nI_1 i) (by omega) ?_
          rw [hx3, Nat.min_eq_left (by omega), Nat.min_eq_left (by omega)]
          exact nI_1 i
  refine G_to [5] rfl ?_
  exact loop M.1 0 _ _ nI_0.symm (by omega) (by rw [Nat.zero_min]; rfl)
theorem ev_ptop_21 (hI : isP σ 21 mb M) (hw : wfT M) (hm : mb + 121 ≤ 242) : Ev 105 [rP 21, .inl (nI mb)] σ (fun r σ' => r = some (.inl (nI (topF M.2.2.2 M.1))) ∧ σ' = σ) := by
  have hn := hw.1
  have htop : ∀ i, i ≤ M.1 → topF M.2.2.2 i ≤ 64 := fun i hi => topF_le i (fun k hk => hw.2 k (by omega))
  have loop : ∀ (m i : Nat) (x2 x3 : Int32), x3 = nI i → i + m = M.1 → x2 = nI (topF M.2.2.2 i) → RR 105 4 [some (rP 21), some (.inl (nI mb)), some (.inl x2), some (.inl x3)] [] σ (fun r σ' => r = some (.inl (nI (topF M.2.2.2 M.1))) ∧ σ' = σ) := by
    intro m
    induction m with
    | zero =>
      intro i x2 x3 hx3 hi hx2
      have hiM : i = M.1 := by omega
      subst hiM
      refine G_ald rfl mb rfl (by omega) (by decide) ?_
      rw [hI.1]
      refine G_if rfl (fun h => ?_) (fun h => ?_)
      · exact G_ret rfl ⟨by rw [hx2], rfl⟩
      · rw [hx3] at h
        exact absurd (nle h (by omega) (by omega)) (by omega)
    | succ m ih =>
      intro i x2 x3 hx3 hi hx2
      have hT := hw.2 i (by omega)
      have ht := htop i (by omega)
      refine G_ald rfl mb rfl (by omega) (by decide) ?_
      rw [hI.1]
      refine G_if rfl (fun h => ?_) (fun h => ?_)
      · rw [hx3] at h
        exact absurd (ile h (by omega) (by omega)) (by omega)
      · refine G_ald rfl (mb + 81 + i) (by rw [hx3]; exact ix81 mb i) (by omega) (by decide) ?_
        rw [(hI.2 i (by omega)).2.2]
        refine G_if rfl (fun h2 => ?_) (fun h2 => ?_)
        · rw [hx2] at h2
          have h2 := ilt h2 (by omega) (by omega)
          refine G_to [4] rfl ?_
          refine ih (i + 1) _ _ (by rw [hx3]; exact nI_1 i) (by omega) ?_
          rw [hx2, topF, Nat.max_eq_left (by omega)]
        · rw [hx2] at h2
          have h2 := nlt h2 (by omega) (by omega)
          refine G_ald rfl (mb + 81 + i) (by rw [hx3]; exact ix81 mb i) (by omega) (by decide) ?_
          rw [(hI.2 i (by omega)).2.2]
          refine G_to [4] rfl ?_
          refine ih (i + 1) _ _ (by rw [hx3]; exact nI_1 i) (by omega) ?_
          rw [topF, Nat.max_eq_right (by omega)]
          exact nI_1 _
  refine G_to [4] rfl ?_
  exact loop M.1 0 _ _ nI_0.symm (by omega) nI_0.symm
theorem ev_nextOn_21 (hI : isP σ 21 mb M) (hw : wfT M) (hm : mb + 121 ≤ 242) {f l : Nat} (hf : f ≤ M.1) (hl : l < 2147483648) : Ev 120 [rP 21, .inl (nI mb), .inl (nI f), .inl (nI l)] σ (fun r σ' => r = some (.inl (nI (bhF M.1 M.2.2.2 l f))) ∧ σ' = σ) := by
  have hn := hw.1
  have loop : ∀ (m i : Nat) (x4 : Int32), x4 = nI i → i + m = M.1 → RR 120 3 [some (rP 21), some (.inl (nI mb)), some (.inl (nI f)), some (.inl (nI l)), some (.inl x4)] [] σ (fun r σ' => r = some (.inl (nI (scn (fun i => decide (M.2.2.2 i < l)) m i))) ∧ σ' = σ) := by
    intro m
    induction m with
    | zero =>
      intro i x4 hx4 hi
      refine G_ald rfl mb rfl (by omega) (by decide) ?_
      rw [hI.1]
      refine G_if rfl (fun h => ?_) (fun h => ?_)
      · exact G_ret rfl ⟨by rw [hx4]; rfl, rfl⟩
      · rw [hx4] at h
        exact absurd (nle h (by omega) (by omega)) (by omega)
    | succ m ih =>
      intro i x4 hx4 hi
      have hT := hw.2 i (by omega)
      refine G_ald rfl mb rfl (by omega) (by decide) ?_
      rw [hI.1]
      refine G_if rfl (fun h => ?_) (fun h => ?_)
      · rw [hx4] at h
        exact absurd (ile h (by omega) (by omega)) (by omega)
      · refine G_ald rfl (mb + 81 + i) (by rw [hx4]; exact ix81 mb i) (by omega) (by decide) ?_
        rw [(hI.2 i (by omega)).2.2]
        refine G_if rfl (fun h2 => ?_) (fun h2 => ?_)
        · have h2 := ile h2 hl (by omega)
          rw [scn_f (by simpa using h2)]
          exact G_ret rfl ⟨by rw [hx4], rfl⟩
        · have h2 := nle h2 hl (by omega)
          rw [scn_t (by simpa using h2)]
          refine G_to [3] rfl ?_
          exact ih (i + 1) _ (by rw [hx4]; exact nI_1 i) (by omega)
  refine G_to [3] rfl ?_
  exact loop (M.1 - f) f _ rfl (by omega)
theorem ev_between_21 (hI : isP σ 21 mb M) (hw : wfT M) (hm : mb + 121 ≤ 242) {a b h : Nat} (hb : b ≤ M.1) (ha : a ≤ M.1) (hh : h < 2147483648) : Ev 107 [rP 21, .inl (nI mb), .inl (nI a - 1), .inl (nI b), .inl (nI h)] σ (fun r σ' => r = some (.inl (nI (cntF M.2.2.2 h (b - a) a))) ∧ σ' = σ) := by
  have hn := hw.1
  have loop : ∀ (m i c : Nat) (x5 x6 : Int32), x6 = nI i → i + m = max b i → i ≤ M.1 → x5 = nI c → RR 107 8 [some (rP 21), some (.inl (nI mb)), some (.inl (nI a - 1)), some (.inl (nI b)), some (.inl (nI h)), some (.inl x5), some (.inl x6)] [] σ (fun r σ' => r = some (.inl (nI (c + cntF M.2.2.2 h m i))) ∧ σ' = σ) := by
    intro m
    induction m with
    | zero =>
      intro i c x5 x6 hx6 hi hiM hx5
      refine G_if rfl (fun q => ?_) (fun q => ?_)
      · exact G_ret rfl ⟨by rw [hx5]; rfl, rfl⟩
      · rw [hx6] at q
        exact absurd (nle q (by omega) (by omega)) (by omega)
    | succ m ih =>
      intro i c x5 x6 hx6 hi hiM hx5
      have hT := hw.2 i (by omega)
      refine G_if rfl (fun q => ?_) (fun q => ?_)
      · rw [hx6] at q
        exact absurd (ile q (by omega) (by omega)) (by omega)
      · refine G_ald rfl (mb + 81 + i) (by rw [hx6]; exact ix81 mb i) (by omega) (by decide) ?_
        rw [(hI.2 i (by omega)).2.2]
        refine G_if rfl (fun q2 => ?_) (fun q2 => ?_)
        · have q2 : ¬ M.2.2.2 i = h := fun e => q2 (by rw [e])
          refine G_to [8] rfl ?_
          rw [cntF, if_neg q2, Nat.zero_add]
          exact ih (i + 1) c _ _ (by rw [hx6]; exact nI_1 i) (by omega) (by omega) (by rw [hx5, show (0 : Int32) = nI 0 from rfl, nI_add, Nat.add_zero])
        · have q2 := ieq (Classical.not_not.mp q2) (by omega) hh
          refine G_to [8] rfl ?_
          rw [cntF, if_pos q2, ← Nat.add_assoc]
          exact ih (i + 1) (c + 1) _ _ (by rw [hx6]; exact nI_1 i) (by omega) (by omega) (by rw [hx5]; exact nI_1 c)
  refine G_to [8] rfl ?_
  have := loop (b - a) a 0 0 (nI a - 1 + 1) (im1_add a) (by omega) ha nI_0.symm
  rw [Nat.zero_add] at this
  exact this
theorem ev_placeOf_21 (hI : isP σ 21 mb M) (hw : wfT M) (hm : mb + 121 ≤ 242) {a b h w : Nat} (hb : b ≤ M.1) (ha : a ≤ b) (hh : h < 2147483648) (hwc : w < cntF M.2.2.2 h (b - a) a) : Ev 108 [rP 21, .inl (nI mb), .inl (nI a - 1), .inl (nI b), .inl (nI h), .inl (nI w)] σ (fun r σ' => r = some (.inl (nI (nthF M.2.2.2 h (b - a) a (w + 1)))) ∧ σ' = σ) := by
  have hn := hw.1
  have hcl := cntF_le M.2.2.2 h (b - a) a
  have loop : ∀ (m i c : Nat) (x6 x7 x8 : Int32), x8 = nI i → i + m = b → x7 = nI c → c + m ≤ 100 → ((c ≤ w ∧ w < c + cntF M.2.2.2 h m i ∧ nthF M.2.2.2 h m i (w + 1 - c) = nthF M.2.2.2 h (b - a) a (w + 1)) ∨ (w < c ∧ x6 = nI (nthF M.2.2.2 h (b - a) a (w + 1)))) → RR 108 12 [some (rP 21), some (.inl (nI mb)), some (.inl (nI a - 1)), some (.inl (nI b)), some (.inl (nI h)), some (.inl (nI w)), some (.inl x6), some (.inl x7), some (.inl x8)] [] σ (fun r σ' => r = some (.inl (nI (nthF M.2.2.2 h (b - a) a (w + 1)))) ∧ σ' = σ) := by
    intro m
    induction m with
    | zero =>
      intro i c x6 x7 x8 hx8 hi hx7 hcm hx6
      refine G_if rfl (fun q => ?_) (fun q => ?_)
      · refine G_ret rfl ⟨?_, rfl⟩
        rcases hx6 with ⟨h1, h2, -⟩ | ⟨h1, h2⟩
        · simp [cntF] at h2
          omega
        · rw [h2]
      · rw [hx8] at q
        exact absurd (nle q (by omega) (by omega)) (by omega)
    | succ m ih =>
      intro i c x6 x7 x8 hx8 hi hx7 hcm hx6
      have hT := hw.2 i (by omega)
      refine G_if rfl (fun q => ?_) (fun q => ?_)
      · rw [hx8] at q
        exact absurd (ile q (by omega) (by omega)) (by omega)
      · refine G_ald rfl (mb + 81 + i) (by rw [hx8]; exact ix81 mb i) (by omega) (by decide) ?_
        rw [(hI.2 i (by omega)).2.2]
        refine G_if rfl (fun q2 => ?_) (fun q2 => ?_)
        · have q2 : ¬ M.2.2.2 i = h := fun e => q2 (by rw [e])
          refine G_to [12] rfl ?_
          refine ih (i + 1) c _ _ _ (by rw [hx8]; exact nI_1 i) (by omega) hx7 (by omega) ?_
          rcases hx6 with ⟨h1, h2, h3⟩ | h1
          · left
            rw [cntF, if_neg q2, Nat.zero_add] at h2
            rw [nthF, if_neg q2] at h3
            exact ⟨h1, h2, h3⟩
          · exact Or.inr h1
        · have q2 := ieq (Classical.not_not.mp q2) (by omega) hh
          refine G_if rfl (fun q3 => ?_) (fun q3 => ?_)
          · rw [hx7] at q3
            have q3 : ¬ c = w := fun e => q3 (by rw [e])
            refine G_to [12] rfl ?_
            refine ih (i + 1) (c + 1) _ _ _ (by rw [hx8]; exact nI_1 i) (by omega) (by rw [hx7]; exact nI_1 c) (by omega) ?_
            rcases hx6 with ⟨h1, h2, h3⟩ | ⟨h1, h2⟩
            · left
              rw [cntF, if_pos q2] at h2
              rw [nthF, if_pos q2, if_neg (by omega)] at h3
              exact ⟨by omega, by omega, by rw [← h3]; congr 1⟩
            · exact Or.inr ⟨by omega, h2⟩
          · rw [hx7] at q3
            have q3 := ieq (Classical.not_not.mp q3) (by omega) (by omega)
            refine G_to [12] rfl ?_
            refine ih (i + 1) (c + 1) _ _ _ (by rw [hx8]; exact nI_1 i) (by omega) (by rw [hx7]; exact nI_1 c) (by omega) ?_
            right
            rcases hx6 with ⟨h1, h2, h3⟩ | ⟨h1, h2⟩
            · rw [nthF, if_pos q2, if_pos (by omega)] at h3
              exact ⟨by omega, by rw [hx8, h3]⟩
            · omega
  refine G_to [12] rfl ?_
  exact loop (b - a) a 0 _ _ _ (im1_add a) (by omega) nI_0.symm (by omega) (Or.inl ⟨by omega, by omega, rfl⟩)
theorem ev_heights_21 (hI : isP σ 21 mb M) (hw : wfT M) (hm : mb + 121 ≤ 242) : Ev 117 [rP 21, .inl (nI mb)] σ (fun r σ' => r = some (.inl (nI (hsF M.2.2.2 M.1 0 0))) ∧ σ' = σ) := by
  have hn := hw.1
  have loop : ∀ (m i s : Nat) (x2 x3 : Int32), x3 = nI i → i + m = M.1 → x2 = nI s → RR 117 4 [some (rP 21), some (.inl (nI mb)), some (.inl x2), some (.inl x3)] [] σ (fun r σ' => r = some (.inl (nI (hsF M.2.2.2 m i s))) ∧ σ' = σ) := by
    intro m
    induction m with
    | zero =>
      intro i s x2 x3 hx3 hi hx2
      refine G_ald rfl mb rfl (by omega) (by decide) ?_
      rw [hI.1]
      refine G_if rfl (fun h => ?_) (fun h => ?_)
      · exact G_ret rfl ⟨by rw [hx2]; rfl, rfl⟩
      · rw [hx3] at h
        exact absurd (nle h (by omega) (by omega)) (by omega)
    | succ m ih =>
      intro i s x2 x3 hx3 hi hx2
      refine G_ald rfl mb rfl (by omega) (by decide) ?_
      rw [hI.1]
      refine G_if rfl (fun h => ?_) (fun h => ?_)
      · rw [hx3] at h
        exact absurd (ile h (by omega) (by omega)) (by omega)
      · refine G_ald rfl (mb + 81 + i) (by rw [hx3]; exact ix81 mb i) (by omega) (by decide) ?_
        rw [(hI.2 i (by omega)).2.2]
        refine G_to [4] rfl ?_
        exact ih (i + 1) _ _ _ (by rw [hx3]; exact nI_1 i) (by omega) (by rw [hx2, nI_add])
  refine G_to [4] rfl ?_
  exact loop M.1 0 0 _ _ nI_0.symm (by omega) nI_0.symm
theorem ev_find_22 (hI : isP σ 22 mb M) (hw : wfM M) (hm : mb + 121 ≤ 242) {key : Nat} (hk : key < 2147483648) : Ev 101 [rP 22, .inl (nI mb), .inl (nI key)] σ (fun r σ' => σ' = σ ∧ ((has M key ∧ r = some (.inl (nI (les M key)))) ∨ (¬ has M key ∧ r = some (.inl (-9))))) := by
  have hn := hw.1
  have loop : ∀ (m i : Nat) (x3 x4 : Int32), x4 = nI i → i + m = M.1 → ((∀ i', i' < i → M.2.1 i' ≠ key) ∧ x3 = -9 ∨ ∃ i', i' < i ∧ M.2.1 i' = key ∧ x3 = nI i') → RR 101 6 [some (rP 22), some (.inl (nI mb)), some (.inl (nI key)), some (.inl x3), some (.inl x4)] [] σ (fun r σ' => σ' = σ ∧ ((has M key ∧ r = some (.inl (nI (les M key)))) ∨ (¬ has M key ∧ r = some (.inl (-9))))) := by
    intro m
    induction m with
    | zero =>
      intro i x3 x4 hx4 hi hx3
      have hiM : i = M.1 := by omega
      subst hiM
      refine G_ald rfl mb rfl (by omega) (by decide) ?_
      rw [hI.1]
      refine G_if rfl (fun h => ?_) (fun h => ?_)
      · refine G_ret rfl ⟨rfl, ?_⟩
        rcases hx3 with ⟨h1, rfl⟩ | ⟨i', h1, h2, rfl⟩
        · right
          refine ⟨fun hh => ?_, rfl⟩
          exact h1 _ hh.1 hh.2
        · left
          refine ⟨(has_iff hw).mpr ⟨i', h1, h2⟩, ?_⟩
          rw [← h2, les_at hw h1]
      · rw [hx4] at h
        exact absurd (nle h (by omega) (by omega)) (by omega)
    | succ m ih =>
      intro i x3 x4 hx4 hi hx3
      have hK := (hw.2.1 i (by omega)).1
      refine G_ald rfl mb rfl (by omega) (by decide) ?_
      rw [hI.1]
      refine G_if rfl (fun h => ?_) (fun h => ?_)
      · rw [hx4] at h
        exact absurd (ile h (by omega) (by omega)) (by omega)
      · refine G_ald rfl (mb + 1 + i) (by rw [hx4]; exact ix1 mb i) (by omega) (by decide) ?_
        rw [(hI.2 i (by omega)).1]
        refine G_if rfl (fun h2 => ?_) (fun h2 => ?_)
        · have h2 : ¬ M.2.1 i = key := fun e => h2 (by rw [e])
          refine G_to [6] rfl ?_
          refine ih (i + 1) _ _ (by rw [hx4]; exact nI_1 i) (by omega) ?_
          rcases hx3 with ⟨h1, rfl⟩ | ⟨i', h1, h3, rfl⟩
          · left
            refine ⟨fun i' hi' => ?_, rfl⟩
            by_cases e : i' = i
            · rw [e]; exact h2
            · exact h1 i' (by omega)
          · exact Or.inr ⟨i', by omega, h3, rfl⟩
        · have h2 := ieq (Classical.not_not.mp h2) (by omega) hk
          refine G_to [6] rfl ?_
          exact ih (i + 1) _ _ (by rw [hx4]; exact nI_1 i) (by omega) (Or.inr ⟨i, by omega, h2, hx4⟩)
  refine G_to [6] rfl ?_
  exact loop M.1 0 _ _ nI_0.symm (by omega) (Or.inl ⟨fun i' h => by omega, rfl⟩)
theorem ev_plesser_22 (hI : isP σ 22 mb M) (hw : wfM M) (hm : mb + 121 ≤ 242) {key : Nat} (hk : key < 2147483648) : Ev 104 [rP 22, .inl (nI mb), .inl (nI key)] σ (fun r σ' => r = some (.inl (nI (les M key))) ∧ σ' = σ) := by
  have hn := hw.1
  have hle := les_le M key
  obtain ⟨l1, l2⟩ := les_spec hw key
  have loop : ∀ (m i : Nat) (x3 x4 : Int32), x4 = nI i → i + m = M.1 → x3 = nI (min i (les M key)) → RR 104 5 [some (rP 22), some (.inl (nI mb)), some (.inl (nI key)), some (.inl x3), some (.inl x4)] [] σ (fun r σ' => r = some (.inl (nI (les M key))) ∧ σ' = σ) := by
    intro m
    induction m with
    | zero =>
      intro i x3 x4 hx4 hi hx3
      refine G_ald rfl mb rfl (by omega) (by decide) ?_
      rw [hI.1]
      refine G_if rfl (fun h => ?_) (fun h => ?_)
      · exact G_ret rfl ⟨by rw [hx3, Nat.min_eq_right (by omega)], rfl⟩
      · rw [hx4] at h
        exact absurd (nle h (by omega) (by omega)) (by omega)
    | succ m ih =>
      intro i x3 x4 hx4 hi hx3
      have hK := (hw.2.1 i (by omega)).1
      refine G_ald rfl mb rfl (by omega) (by decide) ?_
      rw [hI.1]
      refine G_if rfl (fun h => ?_) (fun h => ?_)
      · rw [hx4] at h
        exact absurd (ile h (by omega) (by omega)) (by omega)
      · refine G_ald rfl (mb + 1 + i) (by rw [hx4]; exact ix1 mb i) (by omega) (by decide) ?_
        rw [(hI.2 i (by omega)).1]
        refine G_if rfl (fun h2 => ?_) (fun h2 => ?_)
        · have h2 := ile h2 hk (by omega)
          have h3 : les M key ≤ i := by
            rcases Nat.lt_or_ge i (les M key) with q | q
            · have := l1 i q
              omega
            · exact q
          refine G_to [5] rfl ?_
          refine ih (i + 1) _ _ (by rw [hx4]; exact nI_1 i) (by omega) ?_
          rw [hx3, show (0 : Int32) = nI 0 from rfl, nI_add, Nat.min_eq_right h3, Nat.min_eq_right (by omega)]
          rfl
        · have h2 := nle h2 hk (by omega)
          have h3 : i < les M key := by
            rcases Nat.lt_or_ge i (les M key) with q | q
            · exact q
            · have := l2 i q (by omega)
              omega
          refine G_to [5] rfl ?_
          refine ih (i + 1) _ _ (by rw [hx4]; exact nI_1 i) (by omega) ?_
          rw [hx3, Nat.min_eq_left (by omega), Nat.min_eq_left (by omega)]
          exact nI_1 i
  refine G_to [5] rfl ?_
  exact loop M.1 0 _ _ nI_0.symm (by omega) (by rw [Nat.zero_min]; rfl)
theorem ev_ptop_22 (hI : isP σ 22 mb M) (hw : wfT M) (hm : mb + 121 ≤ 242) : Ev 105 [rP 22, .inl (nI mb)] σ (fun r σ' => r = some (.inl (nI (topF M.2.2.2 M.1))) ∧ σ' = σ) := by
  have hn := hw.1
  have htop : ∀ i, i ≤ M.1 → topF M.2.2.2 i ≤ 64 := fun i hi => topF_le i (fun k hk => hw.2 k (by omega))
  have loop : ∀ (m i : Nat) (x2 x3 : Int32), x3 = nI i → i + m = M.1 → x2 = nI (topF M.2.2.2 i) → RR 105 4 [some (rP 22), some (.inl (nI mb)), some (.inl x2), some (.inl x3)] [] σ (fun r σ' => r = some (.inl (nI (topF M.2.2.2 M.1))) ∧ σ' = σ) := by
    intro m
    induction m with
    | zero =>
      intro i x2 x3 hx3 hi hx2
      have hiM : i = M.1 := by omega
      subst hiM
      refine G_ald rfl mb rfl (by omega) (by decide) ?_
      rw [hI.1]
      refine G_if rfl (fun h => ?_) (fun h => ?_)
      · exact G_ret rfl ⟨by rw [hx2], rfl⟩
      · rw [hx3] at h
        exact absurd (nle h (by omega) (by omega)) (by omega)
    | succ m ih =>
      intro i x2 x3 hx3 hi hx2
      have hT := hw.2 i (by omega)
      have ht := htop i (by omega)
      refine G_ald rfl mb rfl (by omega) (by decide) ?_
      rw [hI.1]
      refine G_if rfl (fun h => ?_) (fun h => ?_)
      · rw [hx3] at h
        exact absurd (ile h (by omega) (by omega)) (by omega)
      · refine G_ald rfl (mb + 81 + i) (by rw [hx3]; exact ix81 mb i) (by omega) (by decide) ?_
        rw [(hI.2 i (by omega)).2.2]
        refine G_if rfl (fun h2 => ?_) (fun h2 => ?_)
        · rw [hx2] at h2
          have h2 := ilt h2 (by omega) (by omega)
          refine G_to [4] rfl ?_
          refine ih (i + 1) _ _ (by rw [hx3]; exact nI_1 i) (by omega) ?_
          rw [hx2, topF, Nat.max_eq_left (by omega)]
        · rw [hx2] at h2
          have h2 := nlt h2 (by omega) (by omega)
          refine G_ald rfl (mb + 81 + i) (by rw [hx3]; exact ix81 mb i) (by omega) (by decide) ?_
          rw [(hI.2 i (by omega)).2.2]
          refine G_to [4] rfl ?_
          refine ih (i + 1) _ _ (by rw [hx3]; exact nI_1 i) (by omega) ?_
          rw [topF, Nat.max_eq_right (by omega)]
          exact nI_1 _
  refine G_to [4] rfl ?_
  exact loop M.1 0 _ _ nI_0.symm (by omega) nI_0.symm
theorem ev_nextOn_22 (hI : isP σ 22 mb M) (hw : wfT M) (hm : mb + 121 ≤ 242) {f l : Nat} (hf : f ≤ M.1) (hl : l < 2147483648) : Ev 120 [rP 22, .inl (nI mb), .inl (nI f), .inl (nI l)] σ (fun r σ' => r = some (.inl (nI (bhF M.1 M.2.2.2 l f))) ∧ σ' = σ) := by
  have hn := hw.1
  have loop : ∀ (m i : Nat) (x4 : Int32), x4 = nI i → i + m = M.1 → RR 120 3 [some (rP 22), some (.inl (nI mb)), some (.inl (nI f)), some (.inl (nI l)), some (.inl x4)] [] σ (fun r σ' => r = some (.inl (nI (scn (fun i => decide (M.2.2.2 i < l)) m i))) ∧ σ' = σ) := by
    intro m
    induction m with
    | zero =>
      intro i x4 hx4 hi
      refine G_ald rfl mb rfl (by omega) (by decide) ?_
      rw [hI.1]
      refine G_if rfl (fun h => ?_) (fun h => ?_)
      · exact G_ret rfl ⟨by rw [hx4]; rfl, rfl⟩
      · rw [hx4] at h
        exact absurd (nle h (by omega) (by omega)) (by omega)
    | succ m ih =>
      intro i x4 hx4 hi
      have hT := hw.2 i (by omega)
      refine G_ald rfl mb rfl (by omega) (by decide) ?_
      rw [hI.1]
      refine G_if rfl (fun h => ?_) (fun h => ?_)
      · rw [hx4] at h
        exact absurd (ile h (by omega) (by omega)) (by omega)
      · refine G_ald rfl (mb + 81 + i) (by rw [hx4]; exact ix81 mb i) (by omega) (by decide) ?_
        rw [(hI.2 i (by omega)).2.2]
        refine G_if rfl (fun h2 => ?_) (fun h2 => ?_)
        · have h2 := ile h2 hl (by omega)
          rw [scn_f (by simpa using h2)]
          exact G_ret rfl ⟨by rw [hx4], rfl⟩
        · have h2 := nle h2 hl (by omega)
          rw [scn_t (by simpa using h2)]
          refine G_to [3] rfl ?_
          exact ih (i + 1) _ (by rw [hx4]; exact nI_1 i) (by omega)
  refine G_to [3] rfl ?_
  exact loop (M.1 - f) f _ rfl (by omega)
theorem ev_between_22 (hI : isP σ 22 mb M) (hw : wfT M) (hm : mb + 121 ≤ 242) {a b h : Nat} (hb : b ≤ M.1) (ha : a ≤ M.1) (hh : h < 2147483648) : Ev 107 [rP 22, .inl (nI mb), .inl (nI a - 1), .inl (nI b), .inl (nI h)] σ (fun r σ' => r = some (.inl (nI (cntF M.2.2.2 h (b - a) a))) ∧ σ' = σ) := by
  have hn := hw.1
  have loop : ∀ (m i c : Nat) (x5 x6 : Int32), x6 = nI i → i + m = max b i → i ≤ M.1 → x5 = nI c → RR 107 8 [some (rP 22), some (.inl (nI mb)), some (.inl (nI a - 1)), some (.inl (nI b)), some (.inl (nI h)), some (.inl x5), some (.inl x6)] [] σ (fun r σ' => r = some (.inl (nI (c + cntF M.2.2.2 h m i))) ∧ σ' = σ) := by
    intro m
    induction m with
    | zero =>
      intro i c x5 x6 hx6 hi hiM hx5
      refine G_if rfl (fun q => ?_) (fun q => ?_)
      · exact G_ret rfl ⟨by rw [hx5]; rfl, rfl⟩
      · rw [hx6] at q
        exact absurd (nle q (by omega) (by omega)) (by omega)
    | succ m ih =>
      intro i c x5 x6 hx6 hi hiM hx5
      have hT := hw.2 i (by omega)
      refine G_if rfl (fun q => ?_) (fun q => ?_)
      · rw [hx6] at q
        exact absurd (ile q (by omega) (by omega)) (by omega)
      · refine G_ald rfl (mb + 81 + i) (by rw [hx6]; exact ix81 mb i) (by omega) (by decide) ?_
        rw [(hI.2 i (by omega)).2.2]
        refine G_if rfl (fun q2 => ?_) (fun q2 => ?_)
        · have q2 : ¬ M.2.2.2 i = h := fun e => q2 (by rw [e])
          refine G_to [8] rfl ?_
          rw [cntF, if_neg q2, Nat.zero_add]
          exact ih (i + 1) c _ _ (by rw [hx6]; exact nI_1 i) (by omega) (by omega) (by rw [hx5, show (0 : Int32) = nI 0 from rfl, nI_add, Nat.add_zero])
        · have q2 := ieq (Classical.not_not.mp q2) (by omega) hh
          refine G_to [8] rfl ?_
          rw [cntF, if_pos q2, ← Nat.add_assoc]
          exact ih (i + 1) (c + 1) _ _ (by rw [hx6]; exact nI_1 i) (by omega) (by omega) (by rw [hx5]; exact nI_1 c)
  refine G_to [8] rfl ?_
  have := loop (b - a) a 0 0 (nI a - 1 + 1) (im1_add a) (by omega) ha nI_0.symm
  rw [Nat.zero_add] at this
  exact this
theorem ev_placeOf_22 (hI : isP σ 22 mb M) (hw : wfT M) (hm : mb + 121 ≤ 242) {a b h w : Nat} (hb : b ≤ M.1) (ha : a ≤ b) (hh : h < 2147483648) (hwc : w < cntF M.2.2.2 h (b - a) a) : Ev 108 [rP 22, .inl (nI mb), .inl (nI a - 1), .inl (nI b), .inl (nI h), .inl (nI w)] σ (fun r σ' => r = some (.inl (nI (nthF M.2.2.2 h (b - a) a (w + 1)))) ∧ σ' = σ) := by
  have hn := hw.1
  have hcl := cntF_le M.2.2.2 h (b - a) a
  have loop : ∀ (m i c : Nat) (x6 x7 x8 : Int32), x8 = nI i → i + m = b → x7 = nI c → c + m ≤ 100 → ((c ≤ w ∧ w < c + cntF M.2.2.2 h m i ∧ nthF M.2.2.2 h m i (w + 1 - c) = nthF M.2.2.2 h (b - a) a (w + 1)) ∨ (w < c ∧ x6 = nI (nthF M.2.2.2 h (b - a) a (w + 1)))) → RR 108 12 [some (rP 22), some (.inl (nI mb)), some (.inl (nI a - 1)), some (.inl (nI b)), some (.inl (nI h)), some (.inl (nI w)), some (.inl x6), some (.inl x7), some (.inl x8)] [] σ (fun r σ' => r = some (.inl (nI (nthF M.2.2.2 h (b - a) a (w + 1)))) ∧ σ' = σ) := by
    intro m
    induction m with
    | zero =>
      intro i c x6 x7 x8 hx8 hi hx7 hcm hx6
      refine G_if rfl (fun q => ?_) (fun q => ?_)
      · refine G_ret rfl ⟨?_, rfl⟩
        rcases hx6 with ⟨h1, h2, -⟩ | ⟨h1, h2⟩
        · simp [cntF] at h2
          omega
        · rw [h2]
      · rw [hx8] at q
        exact absurd (nle q (by omega) (by omega)) (by omega)
    | succ m ih =>
      intro i c x6 x7 x8 hx8 hi hx7 hcm hx6
      have hT := hw.2 i (by omega)
      refine G_if rfl (fun q => ?_) (fun q => ?_)
      · rw [hx8] at q
        exact absurd (ile q (by omega) (by omega)) (by omega)
      · refine G_ald rfl (mb + 81 + i) (by rw [hx8]; exact ix81 mb i) (by omega) (by decide) ?_
        rw [(hI.2 i (by omega)).2.2]
        refine G_if rfl (fun q2 => ?_) (fun q2 => ?_)
        · have q2 : ¬ M.2.2.2 i = h := fun e => q2 (by rw [e])
          refine G_to [12] rfl ?_
          refine ih (i + 1) c _ _ _ (by rw [hx8]; exact nI_1 i) (by omega) hx7 (by omega) ?_
          rcases hx6 with ⟨h1, h2, h3⟩ | h1
          · left
            rw [cntF, if_neg q2, Nat.zero_add] at h2
            rw [nthF, if_neg q2] at h3
            exact ⟨h1, h2, h3⟩
          · exact Or.inr h1
        · have q2 := ieq (Classical.not_not.mp q2) (by omega) hh
          refine G_if rfl (fun q3 => ?_) (fun q3 => ?_)
          · rw [hx7] at q3
            have q3 : ¬ c = w := fun e => q3 (by rw [e])
            refine G_to [12] rfl ?_
            refine ih (i + 1) (c + 1) _ _ _ (by rw [hx8]; exact nI_1 i) (by omega) (by rw [hx7]; exact nI_1 c) (by omega) ?_
            rcases hx6 with ⟨h1, h2, h3⟩ | ⟨h1, h2⟩
            · left
              rw [cntF, if_pos q2] at h2
              rw [nthF, if_pos q2, if_neg (by omega)] at h3
              exact ⟨by omega, by omega, by rw [← h3]; congr 1⟩
            · exact Or.inr ⟨by omega, h2⟩
          · rw [hx7] at q3
            have q3 := ieq (Classical.not_not.mp q3) (by omega) (by omega)
            refine G_to [12] rfl ?_
            refine ih (i + 1) (c + 1) _ _ _ (by rw [hx8]; exact nI_1 i) (by omega) (by rw [hx7]; exact nI_1 c) (by omega) ?_
            right
            rcases hx6 with ⟨h1, h2, h3⟩ | ⟨h1, h2⟩
            · rw [nthF, if_pos q2, if_pos (by omega)] at h3
              exact ⟨by omega, by rw [hx8, h3]⟩
            · omega
  refine G_to [12] rfl ?_
  exact loop (b - a) a 0 _ _ _ (im1_add a) (by omega) nI_0.symm (by omega) (Or.inl ⟨by omega, by omega, rfl⟩)
theorem ev_heights_22 (hI : isP σ 22 mb M) (hw : wfT M) (hm : mb + 121 ≤ 242) : Ev 117 [rP 22, .inl (nI mb)] σ (fun r σ' => r = some (.inl (nI (hsF M.2.2.2 M.1 0 0))) ∧ σ' = σ) := by
  have hn := hw.1
  have loop : ∀ (m i s : Nat) (x2 x3 : Int32), x3 = nI i → i + m = M.1 → x2 = nI s → RR 117 4 [some (rP 22), some (.inl (nI mb)), some (.inl x2), some (.inl x3)] [] σ (fun r σ' => r = some (.inl (nI (hsF M.2.2.2 m i s))) ∧ σ' = σ) := by
    intro m
    induction m with
    | zero =>
      intro i s x2 x3 hx3 hi hx2
      refine G_ald rfl mb rfl (by omega) (by decide) ?_
      rw [hI.1]
      refine G_if rfl (fun h => ?_) (fun h => ?_)
      · exact G_ret rfl ⟨by rw [hx2]; rfl, rfl⟩
      · rw [hx3] at h
        exact absurd (nle h (by omega) (by omega)) (by omega)
    | succ m ih =>
      intro i s x2 x3 hx3 hi hx2
      refine G_ald rfl mb rfl (by omega) (by decide) ?_
      rw [hI.1]
      refine G_if rfl (fun h => ?_) (fun h => ?_)
      · rw [hx3] at h
        exact absurd (ile h (by omega) (by omega)) (by omega)
      · refine G_ald rfl (mb + 81 + i) (by rw [hx3]; exact ix81 mb i) (by omega) (by decide) ?_
        rw [(hI.2 i (by omega)).2.2]
        refine G_to [4] rfl ?_
        exact ih (i + 1) _ _ _ (by rw [hx3]; exact nI_1 i) (by omega) (by rw [hx2, nI_add])
  refine G_to [4] rfl ?_
  exact loop M.1 0 0 _ _ nI_0.symm (by omega) nI_0.symm
end MO
end
section
/-! The model: gaps laid, a key put in. -/
def pU (σ : Hp) (P mb c n i : Nat) (f : Nat → Nat) : Prop := (∀ x, x < i → σ.1 P 0 (mb + c + x) = nI (f x)) ∧ ∀ x, i < x → x ≤ n → σ.1 P 0 (mb + c + x) = nI (f (x - 1))
def pD (σ : Hp) (P mb c n i p : Nat) (f : Nat → Nat) : Prop := (∀ x, x < i → σ.1 P 0 (mb + c + x) = nI (delF f p x)) ∧ ∀ x, i < x → x < n → σ.1 P 0 (mb + c + x) = nI (f x)
theorem isP_up {σ : Hp} {P mb q v : Nat} {M : AM} (hI : isP σ P mb M) (hn : M.1 ≤ 40) (hq : q < 40) : isP (hset σ.1 P 0 (mb + 81 + q) (nI v), σ.2) P mb (setT M (upN M.2.2.2 q v)) := by
  refine ⟨?_, fun i hi => ?_⟩
  · show hset σ.1 P 0 (mb + 81 + q) (nI v) P 0 mb = _
    unfold hset
    rw [if_neg (by omega)]
    exact hI.1
  · obtain ⟨h1, h2, h3⟩ := hI.2 i hi
    have hi : i < M.1 := hi
    refine ⟨?_, ?_, ?_⟩
    · show hset σ.1 P 0 (mb + 81 + q) (nI v) P 0 (mb + 1 + i) = _
      unfold hset
      rw [if_neg (by omega)]
      exact h1
    · show hset σ.1 P 0 (mb + 81 + q) (nI v) P 0 (mb + 41 + i) = _
      unfold hset
      rw [if_neg (by omega)]
      exact h2
    · show hset σ.1 P 0 (mb + 81 + q) (nI v) P 0 (mb + 81 + i) = nI (upN M.2.2.2 q v i)
      unfold hset upN
      by_cases hiq : i = q
      · rw [if_pos (by omega), if_pos hiq]
      · rw [if_neg (by omega), if_neg hiq]
        exact h3
section MO
variable {σ : Hp} {mb : Nat} {M : AM}
theorem ev_layGap_21 (hI : isP σ 21 mb M) (hw : wfT M) (hm : mb + 121 ≤ 242) {l q f : Nat} (hl : l < 2147483648) (hq : q ≤ M.1) (hf : f ≤ M.1) : Ev 106 [rMo, rP 21, .inl (nI mb), .inl (nI l), .inl (nI q - 1), .inl (nI f)] σ (fun r σ' => r = none ∧ frS σ σ' ∧ σ'.1 6 0 21 = nI (ahF M.2.2.2 l q) - 1 ∧ σ'.1 6 0 22 = nI (bhF M.1 M.2.2.2 l f)) := by
  have hn := hw.1
  have loop2 : ∀ (m i : Nat) (σ2 : Hp), i + m = M.1 → σ2.1 6 0 22 = nI i → σ2.1 6 0 21 = nI (ahF M.2.2.2 l q) - 1 → frS σ σ2 → RR 106 47 [some rMo, some (rP 21), some (.inl (nI mb)), some (.inl (nI l)), some (.inl (nI q - 1)), some (.inl (nI f))] [] σ2 (fun r σ' => r = none ∧ frS σ σ' ∧ σ'.1 6 0 21 = nI (ahF M.2.2.2 l q) - 1 ∧ σ'.1 6 0 22 = nI (scn (fun i => decide (M.2.2.2 i < l)) m i)) := by
    intro m
    induction m with
    | zero =>
      intro i σ2 hi h22 h21 hfr
      have hI2 := hfr.is (by decide) hI
      refine G_ald rfl mb rfl (by omega) (by decide) ?_
      rw [hI2.1]
      refine G_if rfl (fun h => ?_) (fun h => ?_)
      · exact G_ret rfl ⟨rfl, hfr, h21, h22⟩
      · rw [h22] at h
        exact absurd (nle h (by omega) (by omega)) (by omega)
    | succ m ih =>
      intro i σ2 hi h22 h21 hfr
      have hI2 := hfr.is (by decide) hI
      have hT := hw.2 i (by omega)
      refine G_ald rfl mb rfl (by omega) (by decide) ?_
      rw [hI2.1]
      refine G_if rfl (fun h => ?_) (fun h => ?_)
      · rw [h22] at h
        exact absurd (ile h (by omega) (by omega)) (by omega)
      · refine G_ald rfl (mb + 81 + i) (by rw [h22]; exact ix81 mb i) (by omega) (by decide) ?_
        rw [(hI2.2 i (by omega)).2.2]
        refine G_if rfl (fun h2 => ?_) (fun h2 => ?_)
        · have h2 := ile h2 hl (by omega)
          rw [scn_f (by simpa using h2)]
          exact G_ret rfl ⟨rfl, hfr, h21, h22⟩
        · have h2 := nle h2 hl (by omega)
          rw [scn_t (by simpa using h2)]
          refine G_to [47] rfl ?_
          refine ih (i + 1) _ (by omega) ?_ ?_ (hfr.st (by decide))
          · show hset σ2.1 6 0 22 (σ2.1 6 0 22 + 1) 6 0 22 = _
            unfold hset
            rw [if_pos ⟨rfl, rfl, rfl⟩, h22]
            exact nI_1 i
          · show hset σ2.1 6 0 22 (σ2.1 6 0 22 + 1) 6 0 21 = _
            unfold hset
            rw [if_neg (by omega)]
            exact h21
  have mid : ∀ (σ2 : Hp), σ2.1 6 0 21 = nI (ahF M.2.2.2 l q) - 1 → frS σ σ2 → RR 106 41 [some rMo, some (rP 21), some (.inl (nI mb)), some (.inl (nI l)), some (.inl (nI q - 1)), some (.inl (nI f))] [] σ2 (fun r σ' => r = none ∧ frS σ σ' ∧ σ'.1 6 0 21 = nI (ahF M.2.2.2 l q) - 1 ∧ σ'.1 6 0 22 = nI (bhF M.1 M.2.2.2 l f)) := by
    intro σ2 h21 hfr
    refine G_to [47] rfl ?_
    refine loop2 (M.1 - f) f _ (by omega) ?_ ?_ (hfr.st (by decide))
    · show hset σ2.1 6 0 22 (nI f) 6 0 22 = _
      unfold hset
      rw [if_pos ⟨rfl, rfl, rfl⟩]
    · show hset σ2.1 6 0 22 (nI f) 6 0 21 = _
      unfold hset
      rw [if_neg (by omega)]
      exact h21
  have loop1 : ∀ (q' : Nat) (σ2 : Hp), q' ≤ M.1 → σ2.1 6 0 21 = nI q' - 1 → ahF M.2.2.2 l q' = ahF M.2.2.2 l q → frS σ σ2 → RR 106 6 [some rMo, some (rP 21), some (.inl (nI mb)), some (.inl (nI l)), some (.inl (nI q - 1)), some (.inl (nI f))] [] σ2 (fun r σ' => r = none ∧ frS σ σ' ∧ σ'.1 6 0 21 = nI (ahF M.2.2.2 l q) - 1 ∧ σ'.1 6 0 22 = nI (bhF M.1 M.2.2.2 l f)) := by
    intro q'
    induction q' with
    | zero =>
      intro σ2 hq' h21 hah hfr
      refine G_if rfl (fun h => ?_) (fun h => ?_)
      · exact mid σ2 (by rw [h21, ← hah]; rfl) hfr
      · rw [h21] at h
        exact absurd ((im1_lt (by omega)).mpr rfl) h
    | succ q' ih =>
      intro σ2 hq' h21 hah hfr
      have hI2 := hfr.is (by decide) hI
      have hT := hw.2 q' (by omega)
      refine G_if rfl (fun h => ?_) (fun h => ?_)
      · rw [h21] at h
        exact absurd ((im1_lt (by omega)).mp h) (by omega)
      · refine G_ald rfl (mb + 81 + q') (by rw [h21, nI_pred]; exact ix81 mb q') (by omega) (by decide) ?_
        rw [(hI2.2 q' (by omega)).2.2]
        refine G_if rfl (fun h2 => ?_) (fun h2 => ?_)
        · have h2 := ile h2 hl (by omega)
          rw [ahF, if_neg (by omega)] at hah
          exact mid σ2 (by rw [h21, hah]) hfr
        · have h2 := nle h2 hl (by omega)
          rw [ahF, if_pos h2] at hah
          refine G_to [6] rfl ?_
          refine ih _ (by omega) ?_ hah (hfr.st (by decide))
          show hset σ2.1 6 0 21 (σ2.1 6 0 21 - 1) 6 0 21 = _
          unfold hset
          rw [if_pos ⟨rfl, rfl, rfl⟩, h21, nI_pred]
  refine G_to [6] rfl ?_
  refine loop1 q _ hq ?_ rfl ((frS.rf σ).st (by decide))
  show hset σ.1 6 0 21 (nI q - 1) 6 0 21 = _
  unfold hset
  rw [if_pos ⟨rfl, rfl, rfl⟩]
theorem ev_move_21 (hm : mb + 121 ≤ 242) {t f : Nat} (ht : t < 40) (hf : f < 40) : Ev 109 [rP 21, .inl (nI mb), .inl (nI t), .inl (nI f)] σ (fun r σ' => r = none ∧ frP 21 mb σ σ' ∧ σ'.1 21 0 mb = σ.1 21 0 mb ∧ ∀ x, x < 40 → (σ'.1 21 0 (mb + 1 + x) = if x = t then σ.1 21 0 (mb + 1 + f) else σ.1 21 0 (mb + 1 + x)) ∧ (σ'.1 21 0 (mb + 41 + x) = if x = t then σ.1 21 0 (mb + 41 + f) else σ.1 21 0 (mb + 41 + x)) ∧ (σ'.1 21 0 (mb + 81 + x) = if x = t then σ.1 21 0 (mb + 81 + f) else σ.1 21 0 (mb + 81 + x))) := by
  refine G_ald rfl (mb + 1 + f) (ix1 mb f) (by omega) (by decide) ?_
  refine G_ast rfl (mb + 1 + t) (ix1 mb t) (by omega) (by decide) ?_
  refine G_ald rfl (mb + 41 + f) (ix41 mb f) (by omega) (by decide) ?_
  refine G_ast rfl (mb + 41 + t) (ix41 mb t) (by omega) (by decide) ?_
  refine G_ald rfl (mb + 81 + f) (ix81 mb f) (by omega) (by decide) ?_
  refine G_ast rfl (mb + 81 + t) (ix81 mb t) (by omega) (by decide) ?_
  have e41 : hset σ.1 21 0 (mb + 1 + t) (σ.1 21 0 (mb + 1 + f)) 21 0 (mb + 41 + f) = σ.1 21 0 (mb + 41 + f) := by
    unfold hset
    rw [if_neg (by omega)]
  have e81 : hset (hset σ.1 21 0 (mb + 1 + t) (σ.1 21 0 (mb + 1 + f))) 21 0 (mb + 41 + t) (σ.1 21 0 (mb + 41 + f)) 21 0 (mb + 81 + f) = σ.1 21 0 (mb + 81 + f) := by
    unfold hset
    rw [if_neg (by omega), if_neg (by omega)]
  refine G_ret rfl ⟨rfl, ((((frP.rf 21 mb σ).st (by decide) (by omega)).st (by decide) (by omega)).st (by decide) (by omega)), ?_, fun x hx => ?_⟩
  · simp only [hset]
    rw [if_neg (by omega), if_neg (by omega), if_neg (by omega)]
  · dsimp only
    rw [e41, e81]
    refine ⟨?_, ?_, ?_⟩
    · unfold hset
      rw [if_neg (by omega), if_neg (by omega)]
      by_cases h : x = t
      · rw [if_pos (by omega), if_pos h]
      · rw [if_neg (by omega), if_neg h]
    · unfold hset
      rw [if_neg (by omega)]
      by_cases h : x = t
      · rw [if_pos (by omega), if_pos h]
      · rw [if_neg (by omega), if_neg (by omega), if_neg h]
    · unfold hset
      by_cases h : x = t
      · rw [if_pos (by omega), if_pos h]
      · rw [if_neg (by omega), if_neg (by omega), if_neg (by omega), if_neg h]
theorem ev_layGap_22 (hI : isP σ 22 mb M) (hw : wfT M) (hm : mb + 121 ≤ 242) {l q f : Nat} (hl : l < 2147483648) (hq : q ≤ M.1) (hf : f ≤ M.1) : Ev 106 [rMo, rP 22, .inl (nI mb), .inl (nI l), .inl (nI q - 1), .inl (nI f)] σ (fun r σ' => r = none ∧ frS σ σ' ∧ σ'.1 6 0 21 = nI (ahF M.2.2.2 l q) - 1 ∧ σ'.1 6 0 22 = nI (bhF M.1 M.2.2.2 l f)) := by
  have hn := hw.1
  have loop2 : ∀ (m i : Nat) (σ2 : Hp), i + m = M.1 → σ2.1 6 0 22 = nI i → σ2.1 6 0 21 = nI (ahF M.2.2.2 l q) - 1 → frS σ σ2 → RR 106 47 [some rMo, some (rP 22), some (.inl (nI mb)), some (.inl (nI l)), some (.inl (nI q - 1)), some (.inl (nI f))] [] σ2 (fun r σ' => r = none ∧ frS σ σ' ∧ σ'.1 6 0 21 = nI (ahF M.2.2.2 l q) - 1 ∧ σ'.1 6 0 22 = nI (scn (fun i => decide (M.2.2.2 i < l)) m i)) := by
    intro m
    induction m with
    | zero =>
      intro i σ2 hi h22 h21 hfr
      have hI2 := hfr.is (by decide) hI
      refine G_ald rfl mb rfl (by omega) (by decide) ?_
      rw [hI2.1]
      refine G_if rfl (fun h => ?_) (fun h => ?_)
      · exact G_ret rfl ⟨rfl, hfr, h21, h22⟩
      · rw [h22] at h
        exact absurd (nle h (by omega) (by omega)) (by omega)
    | succ m ih =>
      intro i σ2 hi h22 h21 hfr
      have hI2 := hfr.is (by decide) hI
      have hT := hw.2 i (by omega)
      refine G_ald rfl mb rfl (by omega) (by decide) ?_
      rw [hI2.1]
      refine G_if rfl (fun h => ?_) (fun h => ?_)
      · rw [h22] at h
        exact absurd (ile h (by omega) (by omega)) (by omega)
      · refine G_ald rfl (mb + 81 + i) (by rw [h22]; exact ix81 mb i) (by omega) (by decide) ?_
        rw [(hI2.2 i (by omega)).2.2]
        refine G_if rfl (fun h2 => ?_) (fun h2 => ?_)
        · have h2 := ile h2 hl (by omega)
          rw [scn_f (by simpa using h2)]
          exact G_ret rfl ⟨rfl, hfr, h21, h22⟩
        · have h2 := nle h2 hl (by omega)
          rw [scn_t (by simpa using h2)]
          refine G_to [47] rfl ?_
          refine ih (i + 1) _ (by omega) ?_ ?_ (hfr.st (by decide))
          · show hset σ2.1 6 0 22 (σ2.1 6 0 22 + 1) 6 0 22 = _
            unfold hset
            rw [if_pos ⟨rfl, rfl, rfl⟩, h22]
            exact nI_1 i
          · show hset σ2.1 6 0 22 (σ2.1 6 0 22 + 1) 6 0 21 = _
            unfold hset
            rw [if_neg (by omega)]
            exact h21
  have mid : ∀ (σ2 : Hp), σ2.1 6 0 21 = nI (ahF M.2.2.2 l q) - 1 → frS σ σ2 → RR 106 41 [some rMo, some (rP 22), some (.inl (nI mb)), some (.inl (nI l)), some (.inl (nI q - 1)), some (.inl (nI f))] [] σ2 (fun r σ' => r = none ∧ frS σ σ' ∧ σ'.1 6 0 21 = nI (ahF M.2.2.2 l q) - 1 ∧ σ'.1 6 0 22 = nI (bhF M.1 M.2.2.2 l f)) := by
    intro σ2 h21 hfr
    refine G_to [47] rfl ?_
    refine loop2 (M.1 - f) f _ (by omega) ?_ ?_ (hfr.st (by decide))
    · show hset σ2.1 6 0 22 (nI f) 6 0 22 = _
      unfold hset
      rw [if_pos ⟨rfl, rfl, rfl⟩]
    · show hset σ2.1 6 0 22 (nI f) 6 0 21 = _
      unfold hset
      rw [if_neg (by omega)]
      exact h21
  have loop1 : ∀ (q' : Nat) (σ2 : Hp), q' ≤ M.1 → σ2.1 6 0 21 = nI q' - 1 → ahF M.2.2.2 l q' = ahF M.2.2.2 l q → frS σ σ2 → RR 106 6 [some rMo, some (rP 22), some (.inl (nI mb)), some (.inl (nI l)), some (.inl (nI q - 1)), some (.inl (nI f))] [] σ2 (fun r σ' => r = none ∧ frS σ σ' ∧ σ'.1 6 0 21 = nI (ahF M.2.2.2 l q) - 1 ∧ σ'.1 6 0 22 = nI (bhF M.1 M.2.2.2 l f)) := by
    intro q'
    induction q' with
    | zero =>
      intro σ2 hq' h21 hah hfr
      refine G_if rfl (fun h => ?_) (fun h => ?_)
      · exact mid σ2 (by rw [h21, ← hah]; rfl) hfr
      · rw [h21] at h
        exact absurd ((im1_lt (by omega)).mpr rfl) h
    | succ q' ih =>
      intro σ2 hq' h21 hah hfr
      have hI2 := hfr.is (by decide) hI
      have hT := hw.2 q' (by omega)
      refine G_if rfl (fun h => ?_) (fun h => ?_)
      · rw [h21] at h
        exact absurd ((im1_lt (by omega)).mp h) (by omega)
      · refine G_ald rfl (mb + 81 + q') (by rw [h21, nI_pred]; exact ix81 mb q') (by omega) (by decide) ?_
        rw [(hI2.2 q' (by omega)).2.2]
        refine G_if rfl (fun h2 => ?_) (fun h2 => ?_)
        · have h2 := ile h2 hl (by omega)
          rw [ahF, if_neg (by omega)] at hah
          exact mid σ2 (by rw [h21, hah]) hfr
        · have h2 := nle h2 hl (by omega)
          rw [ahF, if_pos h2] at hah
          refine G_to [6] rfl ?_
          refine ih _ (by omega) ?_ hah (hfr.st (by decide))
          show hset σ2.1 6 0 21 (σ2.1 6 0 21 - 1) 6 0 21 = _
          unfold hset
          rw [if_pos ⟨rfl, rfl, rfl⟩, h21, nI_pred]
  refine G_to [6] rfl ?_
  refine loop1 q _ hq ?_ rfl ((frS.rf σ).st (by decide))
  show hset σ.1 6 0 21 (nI q - 1) 6 0 21 = _
  unfold hset
  rw [if_pos ⟨rfl, rfl, rfl⟩]
theorem ev_move_22 (hm : mb + 121 ≤ 242) {t f : Nat} (ht : t < 40) (hf : f < 40) : Ev 109 [rP 22, .inl (nI mb), .inl (nI t), .inl (nI f)] σ (fun r σ' => r = none ∧ frP 22 mb σ σ' ∧ σ'.1 22 0 mb = σ.1 22 0 mb ∧ ∀ x, x < 40 → (σ'.1 22 0 (mb + 1 + x) = if x = t then σ.1 22 0 (mb + 1 + f) else σ.1 22 0 (mb + 1 + x)) ∧ (σ'.1 22 0 (mb + 41 + x) = if x = t then σ.1 22 0 (mb + 41 + f) else σ.1 22 0 (mb + 41 + x)) ∧ (σ'.1 22 0 (mb + 81 + x) = if x = t then σ.1 22 0 (mb + 81 + f) else σ.1 22 0 (mb + 81 + x))) := by
  refine G_ald rfl (mb + 1 + f) (ix1 mb f) (by omega) (by decide) ?_
  refine G_ast rfl (mb + 1 + t) (ix1 mb t) (by omega) (by decide) ?_
  refine G_ald rfl (mb + 41 + f) (ix41 mb f) (by omega) (by decide) ?_
  refine G_ast rfl (mb + 41 + t) (ix41 mb t) (by omega) (by decide) ?_
  refine G_ald rfl (mb + 81 + f) (ix81 mb f) (by omega) (by decide) ?_
  refine G_ast rfl (mb + 81 + t) (ix81 mb t) (by omega) (by decide) ?_
  have e41 : hset σ.1 22 0 (mb + 1 + t) (σ.1 22 0 (mb + 1 + f)) 22 0 (mb + 41 + f) = σ.1 22 0 (mb + 41 + f) := by
    unfold hset
    rw [if_neg (by omega)]
  have e81 : hset (hset σ.1 22 0 (mb + 1 + t) (σ.1 22 0 (mb + 1 + f))) 22 0 (mb + 41 + t) (σ.1 22 0 (mb + 41 + f)) 22 0 (mb + 81 + f) = σ.1 22 0 (mb + 81 + f) := by
    unfold hset
    rw [if_neg (by omega), if_neg (by omega)]
  refine G_ret rfl ⟨rfl, ((((frP.rf 22 mb σ).st (by decide) (by omega)).st (by decide) (by omega)).st (by decide) (by omega)), ?_, fun x hx => ?_⟩
  · simp only [hset]
    rw [if_neg (by omega), if_neg (by omega), if_neg (by omega)]
  · dsimp only
    rw [e41, e81]
    refine ⟨?_, ?_, ?_⟩
    · unfold hset
      rw [if_neg (by omega), if_neg (by omega)]
      by_cases h : x = t
      · rw [if_pos (by omega), if_pos h]
      · rw [if_neg (by omega), if_neg h]
    · unfold hset
      rw [if_neg (by omega)]
      by_cases h : x = t
      · rw [if_pos (by omega), if_pos h]
      · rw [if_neg (by omega), if_neg (by omega), if_neg h]
    · unfold hset
      by_cases h : x = t
      · rw [if_pos (by omega), if_pos h]
      · rw [if_neg (by omega), if_neg (by omega), if_neg (by omega), if_neg h]
end MO
end
section
/-! The model: a key put in. -/
theorem frP.is {P mb mb' : Nat} {σ σ' : Hp} {M : AM} (h : frP P mb σ σ') (hd : mb + 121 ≤ mb' ∨ mb' + 121 ≤ mb) (hn : M.1 ≤ 40) (hI : isP σ P mb' M) : isP σ' P mb' M := by
  have e : ∀ x, mb' ≤ x → x < mb' + 121 → σ'.1 P 0 x = σ.1 P 0 x := fun x h1 h2 => h.2.2.2 x (by omega)
  refine ⟨by rw [e mb' (by omega) (by omega)]; exact hI.1, fun i hi => ?_⟩
  rw [e (mb' + 1 + i) (by omega) (by omega), e (mb' + 41 + i) (by omega) (by omega), e (mb' + 81 + i) (by omega) (by omega)]
  exact hI.2 i hi
section MO
variable {σ : Hp} {mb : Nat} {M : AM}
theorem ev_goNew_21 (hI : isP σ 21 mb M) (hw : wfM M) (hlow : lowM M) (hm : mb + 121 ≤ 242) (hn : M.1 < 40) {key v : Nat} (hk : key < 100) : Ev 103 [rMo, rP 21, .inl (nI mb), .inl (nI key), .inl (nI v)] σ (fun r σ' => r = none ∧ frP 21 mb σ σ' ∧ isP σ' 21 mb (placeM M key v)) := by
  have hle := les_le M key
  have htop := low_top hlow
  have shift : ∀ (T' : Nat → Nat) (d : Nat) (x : Int32) (σ1 : Hp), x = nI (les M key + d) → les M key + d ≤ M.1 → σ1.1 21 0 mb = nI M.1 → pU σ1 21 mb 1 M.1 (les M key + d) M.2.1 → pU σ1 21 mb 41 M.1 (les M key + d) M.2.2.1 → pU σ1 21 mb 81 M.1 (les M key + d) T' → frP 21 mb σ σ1 →
      RR 103 95 [some rMo, some (rP 21), some (.inl (nI mb)), some (.inl (nI key)), some (.inl (nI v)), some (.inl (nI (les M key))), some (.inl x)] [] σ1 (fun r σ' => r = none ∧ frP 21 mb σ σ' ∧ isP σ' 21 mb (insM (setT M T') (les M key) key v 0)) := by
    intro T' d
    induction d with
    | zero =>
      intro x σ1 hx hd hs h1 h41 h81 hf
      refine G_if rfl (fun q => ?_) (fun q => ?_)
      · refine G_ast rfl (mb + 1 + les M key) (ix1 mb _) (by omega) (by decide) ?_
        refine G_ast rfl (mb + 41 + les M key) (ix41 mb _) (by omega) (by decide) ?_
        refine G_ast rfl (mb + 81 + les M key) (ix81 mb _) (by omega) (by decide) ?_
        refine G_ald rfl mb rfl (by omega) (by decide) ?_
        refine G_ast rfl mb rfl (by omega) (by decide) ?_
        refine G_ret rfl ⟨rfl, ((((hf.st (by decide) (by omega)).st (by decide) (by omega)).st (by decide) (by omega)).st (by decide) (by omega)), ?_, fun i hi => ?_⟩
        · dsimp only
          simp only [hset]
          rw [if_pos ⟨trivial, trivial, trivial⟩, if_neg (by omega), if_neg (by omega), if_neg (by omega), hs]
          exact nI_1 _
        · have hi : i < M.1 + 1 := hi
          have a1 := h1.1 i
          have b1 := h1.2 i
          have a2 := h41.1 i
          have b2 := h41.2 i
          have a3 := h81.1 i
          have b3 := h81.2 i
          show hset (hset (hset (hset σ1.1 21 0 (mb + 1 + les M key) (nI key)) 21 0 (mb + 41 + les M key) (nI v)) 21 0 (mb + 81 + les M key) 0) 21 0 mb _ 21 0 (mb + 1 + i) = nI (insF M.2.1 (les M key) key i) ∧ hset (hset (hset (hset σ1.1 21 0 (mb + 1 + les M key) (nI key)) 21 0 (mb + 41 + les M key) (nI v)) 21 0 (mb + 81 + les M key) 0) 21 0 mb _ 21 0 (mb + 41 + i) = nI (insF M.2.2.1 (les M key) v i) ∧ hset (hset (hset (hset σ1.1 21 0 (mb + 1 + les M key) (nI key)) 21 0 (mb + 41 + les M key) (nI v)) 21 0 (mb + 81 + les M key) 0) 21 0 mb _ 21 0 (mb + 81 + i) = nI (insF T' (les M key) 0 i)
          unfold insF hset
          rcases Nat.lt_trichotomy i (les M key) with hip | hip | hip
          · refine ⟨?_, ?_, ?_⟩
            · rw [if_neg (by omega), if_neg (by omega), if_neg (by omega), if_neg (by omega), if_pos hip]
              exact a1 (by omega)
            · rw [if_neg (by omega), if_neg (by omega), if_neg (by omega), if_neg (by omega), if_pos hip]
              exact a2 (by omega)
            · rw [if_neg (by omega), if_neg (by omega), if_neg (by omega), if_neg (by omega), if_pos hip]
              exact a3 (by omega)
          · subst hip
            refine ⟨?_, ?_, ?_⟩
            · rw [if_neg (by omega), if_neg (by omega), if_neg (by omega), if_pos (by omega), if_neg (by omega), if_pos rfl]
            · rw [if_neg (by omega), if_neg (by omega), if_pos (by omega), if_neg (by omega), if_pos rfl]
            · rw [if_neg (by omega), if_pos (by omega), if_neg (by omega), if_pos rfl]
              rfl
          · refine ⟨?_, ?_, ?_⟩
            · rw [if_neg (by omega), if_neg (by omega), if_neg (by omega), if_neg (by omega), if_neg (by omega), if_neg (by omega)]
              exact b1 (by omega) (by omega)
            · rw [if_neg (by omega), if_neg (by omega), if_neg (by omega), if_neg (by omega), if_neg (by omega), if_neg (by omega)]
              exact b2 (by omega) (by omega)
            · rw [if_neg (by omega), if_neg (by omega), if_neg (by omega), if_neg (by omega), if_neg (by omega), if_neg (by omega)]
              exact b3 (by omega) (by omega)
      · rw [hx] at q
        exact absurd (nle q (by omega) (by omega)) (by omega)
    | succ d ih =>
      intro x σ1 hx hd hs h1 h41 h81 hf
      refine G_if rfl (fun q => ?_) (fun q => ?_)
      · rw [hx] at q
        exact absurd (ile q (by omega) (by omega)) (by omega)
      · refine G_callv rfl (by rw [hx, show les M key + (d + 1) = les M key + d + 1 from rfl, nI_pred]) (ev_move_21 (σ := σ1) hm (t := les M key + d + 1) (f := les M key + d) (by omega) (by omega)) ?_
        rintro r1 σ2 ⟨rfl, hf2, hmb, hxx⟩
        refine G_to [95] rfl ?_
        refine ih _ σ2 (by rw [hx]; exact pk_m1 _) (by omega) (by rw [hmb]; exact hs) ⟨fun y hy => ?_, fun y hy hy2 => ?_⟩ ⟨fun y hy => ?_, fun y hy hy2 => ?_⟩ ⟨fun y hy => ?_, fun y hy hy2 => ?_⟩ (hf.tr hf2)
        · rw [(hxx y (by omega)).1, if_neg (by omega)]
          exact h1.1 y (by omega)
        · rw [(hxx y (by omega)).1]
          by_cases hyy : y = les M key + d + 1
          · rw [if_pos hyy, hyy]
            exact h1.1 _ (by omega)
          · rw [if_neg hyy]
            exact h1.2 y (by omega) hy2
        · rw [(hxx y (by omega)).2.1, if_neg (by omega)]
          exact h41.1 y (by omega)
        · rw [(hxx y (by omega)).2.1]
          by_cases hyy : y = les M key + d + 1
          · rw [if_pos hyy, hyy]
            exact h41.1 _ (by omega)
          · rw [if_neg hyy]
            exact h41.2 y (by omega) hy2
        · rw [(hxx y (by omega)).2.2, if_neg (by omega)]
          exact h81.1 y (by omega)
        · rw [(hxx y (by omega)).2.2]
          by_cases hyy : y = les M key + d + 1
          · rw [if_pos hyy, hyy]
            exact h81.1 _ (by omega)
          · rw [if_neg hyy]
            exact h81.2 y (by omega) hy2
  have lev : ∀ (l : Nat) (x : Int32) (σ1 : Hp) (T : Nat → Nat), x = nI l → l ≤ 40 → (∀ i, i < M.1 → T i ≤ 40) → isP σ1 21 mb (setT M T) → frP 21 mb σ σ1 →
      RR 103 15 [some rMo, some (rP 21), some (.inl (nI mb)), some (.inl (nI key)), some (.inl (nI v)), some (.inl (nI (les M key))), some (.inl x)] [] σ1 (fun r σ' => r = none ∧ frP 21 mb σ σ' ∧ isP σ' 21 mb (insM (setT M (partL M.1 (les M key) l T)) (les M key) key v 0)) := by
    intro l
    induction l with
    | zero =>
      intro x σ1 T hx hl hT hI1 hf
      refine G_if rfl (fun q => ?_) (fun q => ?_)
      · refine G_ald rfl mb rfl (by omega) (by decide) ?_
        refine G_to [95] rfl ?_
        exact shift T (M.1 - les M key) _ σ1 (by rw [hI1.1, show les M key + (M.1 - les M key) = M.1 by omega]; rfl) (by omega) hI1.1 ⟨fun y hy => (hI1.2 y (by show y < M.1; omega)).1, fun y h1 h2 => by omega⟩ ⟨fun y hy => (hI1.2 y (by show y < M.1; omega)).2.1, fun y h1 h2 => by omega⟩ ⟨fun y hy => (hI1.2 y (by show y < M.1; omega)).2.2, fun y h1 h2 => by omega⟩ hf
      · rw [hx] at q
        exact absurd (ile (b := 0) (nI_le (Nat.le_refl 0) (by decide)) (by decide) (by decide)) (fun _ => q (nI_le (Nat.le_refl 0) (by decide)))
    | succ l ih =>
      intro x σ1 T hx hl hT hI1 hf
      have hw1 : wfT (setT M T) := ⟨hw.1, fun i hi => by have := hT i hi; show T i < 64; omega⟩
      have ha := ahF_le T (l + 1) (les M key)
      have hb := bhF_le T (l + 1) hle
      have hc := cntF_le T l (bhF M.1 T (l + 1) (les M key) - ahF T (l + 1) (les M key)) (ahF T (l + 1) (les M key))
      refine G_if rfl (fun q => ?_) (fun q => ?_)
      · rw [hx] at q
        exact absurd (ile (b := 0) q (by omega) (by decide)) (by omega)
      · refine G_callv rfl (by rw [hx]) (ev_layGap_21 hI1 hw1 hm (l := l + 1) (q := les M key) (f := les M key) (by omega) hle hle) ?_
        rintro r1 σ2 ⟨rfl, hf2, h21, h22⟩
        have hI2 := hf2.is (by decide) hI1
        refine G_callv rfl (by rw [h21, h22, hx, nI_pred]; rfl) (ev_between_21 hI2 hw1 hm (a := ahF T (l + 1) (les M key)) (b := bhF M.1 T (l + 1) (les M key)) (h := l) hb.2 (by show ahF T (l + 1) (les M key) ≤ M.1; omega) (by omega)) ?_
        rintro r1 σ3 ⟨rfl, rfl⟩
        refine G_if rfl (fun q2 => ?_) (fun q2 => ?_)
        · have q2 : ¬ cntF T l (bhF M.1 T (l + 1) (les M key) - ahF T (l + 1) (les M key)) (ahF T (l + 1) (les M key)) = 3 := fun e => q2 (by show nI (cntF T l (bhF M.1 T (l + 1) (les M key) - ahF T (l + 1) (les M key)) (ahF T (l + 1) (les M key))) = 3; rw [e]; rfl)
          refine G_to [15] rfl ?_
          rw [partL, show partF M.1 T (l + 1) (les M key) = T from by rw [partF]; exact if_neg q2]
          exact ih _ σ3 T (by rw [hx]; exact pk_m1 l) (by omega) hT hI2 (hf.tr (hf2.p (by decide)))
        · have q2 : cntF T l (bhF M.1 T (l + 1) (les M key) - ahF T (l + 1) (les M key)) (ahF T (l + 1) (les M key)) = 3 := ieq (b := 3) (Classical.not_not.mp q2) (by show cntF T l _ _ < _; omega) (by decide)
          obtain ⟨n1, n2, n3⟩ := nthF_in T l (bhF M.1 T (l + 1) (les M key) - ahF T (l + 1) (les M key)) (ahF T (l + 1) (les M key)) 2 (by decide) (by omega)
          refine G_callv rfl (by rw [h21, h22, hx, nI_pred]; rfl) (ev_placeOf_21 hI2 hw1 hm (a := ahF T (l + 1) (les M key)) (b := bhF M.1 T (l + 1) (les M key)) (h := l) (w := 1) hb.2 (by omega) (by omega) (by show 1 < cntF T l _ _; omega)) ?_
          rintro r1 σ4 ⟨rfl, rfl⟩
          refine G_ald rfl (mb + 81 + nthF T l (bhF M.1 T (l + 1) (les M key) - ahF T (l + 1) (les M key)) (ahF T (l + 1) (les M key)) 2) (ix81 mb _) (by omega) (by decide) ?_
          refine G_ast rfl (mb + 81 + nthF T l (bhF M.1 T (l + 1) (les M key) - ahF T (l + 1) (les M key)) (ahF T (l + 1) (les M key)) 2) (ix81 mb _) (by omega) (by decide) ?_
          refine G_to [15] rfl ?_
          rw [(hI2.2 (nthF T l (bhF M.1 T (l + 1) (les M key) - ahF T (l + 1) (les M key)) (ahF T (l + 1) (les M key)) 2) (by show _ < M.1; omega)).2.2]
          have hpe : partF M.1 T (l + 1) (les M key) = upN T (nthF T l (bhF M.1 T (l + 1) (les M key) - ahF T (l + 1) (les M key)) (ahF T (l + 1) (les M key)) 2) (T (nthF T l (bhF M.1 T (l + 1) (les M key) - ahF T (l + 1) (les M key)) (ahF T (l + 1) (les M key)) 2) + 1) := by
            rw [partF]
            exact if_pos q2
          have hple := partF_le (n := M.1) (l := l + 1) (p := les M key) (b := 40) (T := T) (by omega) hle hT (by omega)
          rw [partL]
          refine ih _ _ _ (by rw [hx]; exact pk_m1 l) (by omega) hple ?_ ((hf.tr (hf2.p (by decide))).st (by decide) (by omega))
          rw [hpe]
          have := isP_up (v := T (nthF T l (bhF M.1 T (l + 1) (les M key) - ahF T (l + 1) (les M key)) (ahF T (l + 1) (les M key)) 2) + 1) hI2 (by show M.1 ≤ 40; omega) (q := nthF T l (bhF M.1 T (l + 1) (les M key) - ahF T (l + 1) (les M key)) (ahF T (l + 1) (les M key)) 2) (by omega)
          rw [← nI_1] at this
          exact this
  refine G_call rfl (ev_plesser_21 hI hw hm (by omega)) ?_
  rintro r1 σ1 ⟨rfl, rfl⟩
  refine G_call rfl (ev_ptop_21 hI hw.t hm) ?_
  rintro r1 σ1 ⟨rfl, rfl⟩
  refine G_to [15] rfl ?_
  exact lev _ _ _ M.2.2.2 rfl htop (fun i hi => by have := hlow i hi; omega) hI (frP.rf _ _ _)
theorem ev_goPut_21 (hI : isP σ 21 mb M) (hw : wfM M) (hlow : lowM M) (hm : mb + 121 ≤ 242) {key v : Nat} (hk : key < 100) : Ev 102 [rMo, rP 21, .inl (nI mb), .inl (nI key), .inl (nI v)] σ (fun r σ' => (¬ has M key ∧ 40 ≤ M.1 ∧ r = some (.inl 0) ∧ σ' = σ) ∨ (has M key ∧ r = some (.inl 1) ∧ isP σ' 21 mb (setV M (les M key) v) ∧ frP 21 mb σ σ') ∨ (¬ has M key ∧ M.1 < 40 ∧ r = some (.inl 1) ∧ isP σ' 21 mb (placeM M key v) ∧ frP 21 mb σ σ')) := by
  have hn := hw.1
  refine G_call rfl (ev_find_21 hI hw hm (by omega)) ?_
  rintro r1 σ1 ⟨rfl, ⟨hh, rfl⟩ | ⟨hh, rfl⟩⟩
  · have hlt := hh.1
    refine G_if rfl (fun q => ?_) (fun q => ?_)
    · exact absurd q (fun e => by
        have h1 := congrArg Int32.toInt e
        rw [nI_toInt (by omega)] at h1
        have h2 : (-9 : Int32).toInt = -9 := rfl
        omega)
    · refine G_ast rfl (mb + 41 + les M key) (ix41 mb _) (by omega) (by decide) ?_
      refine G_retZ rfl (Or.inr rfl) (Or.inr (Or.inl ⟨hh, rfl, ⟨?_, fun i hi => ?_⟩, (frP.rf _ _ _).st (by decide) (by omega)⟩))
      · show hset σ1.1 21 0 (mb + 41 + les M key) (nI v) 21 0 mb = _
        unfold hset
        rw [if_neg (by omega)]
        exact hI.1
      · obtain ⟨a1, a2, a3⟩ := hI.2 i hi
        have hi : i < M.1 := hi
        show hset σ1.1 21 0 (mb + 41 + les M key) (nI v) 21 0 (mb + 1 + i) = _ ∧ hset σ1.1 21 0 (mb + 41 + les M key) (nI v) 21 0 (mb + 41 + i) = nI (upN M.2.2.1 (les M key) v i) ∧ hset σ1.1 21 0 (mb + 41 + les M key) (nI v) 21 0 (mb + 81 + i) = _
        unfold hset upN
        refine ⟨?_, ?_, ?_⟩
        · rw [if_neg (by omega)]
          exact a1
        · by_cases hil : i = les M key
          · rw [if_pos (by omega), if_pos hil]
          · rw [if_neg (by omega), if_neg hil]
            exact a2
        · rw [if_neg (by omega)]
          exact a3
  · refine G_if rfl (fun q => ?_) (fun q => ?_)
    · refine G_ald rfl mb rfl (by omega) (by decide) ?_
      rw [hI.1]
      refine G_if rfl (fun q2 => ?_) (fun q2 => ?_)
      · have q2 : M.1 < 40 := by
          rcases Nat.lt_or_ge M.1 40 with h | h
          · exact h
          · exact absurd (by rw [show M.1 = 40 by omega]; rfl) q2
        refine G_call rfl (ev_goNew_21 hI hw hlow hm q2 hk) ?_
        rintro r1 σ2 ⟨rfl, h3, h4⟩
        exact G_retZ rfl (Or.inr rfl) (Or.inr (Or.inr ⟨hh, q2, rfl, h4, h3⟩))
      · have q2 : M.1 = 40 := ieq (b := 40) (Classical.not_not.mp q2) (by omega) (by decide)
        exact G_retZ rfl (Or.inl rfl) (Or.inl ⟨hh, by omega, rfl, rfl⟩)
    · exact absurd rfl q
theorem ev_goNew_22 (hI : isP σ 22 mb M) (hw : wfM M) (hlow : lowM M) (hm : mb + 121 ≤ 242) (hn : M.1 < 40) {key v : Nat} (hk : key < 100) : Ev 103 [rMo, rP 22, .inl (nI mb), .inl (nI key), .inl (nI v)] σ (fun r σ' => r = none ∧ frP 22 mb σ σ' ∧ isP σ' 22 mb (placeM M key v)) := by
  have hle := les_le M key
  have htop := low_top hlow
  have shift : ∀ (T' : Nat → Nat) (d : Nat) (x : Int32) (σ1 : Hp), x = nI (les M key + d) → les M key + d ≤ M.1 → σ1.1 22 0 mb = nI M.1 → pU σ1 22 mb 1 M.1 (les M key + d) M.2.1 → pU σ1 22 mb 41 M.1 (les M key + d) M.2.2.1 → pU σ1 22 mb 81 M.1 (les M key + d) T' → frP 22 mb σ σ1 →
      RR 103 95 [some rMo, some (rP 22), some (.inl (nI mb)), some (.inl (nI key)), some (.inl (nI v)), some (.inl (nI (les M key))), some (.inl x)] [] σ1 (fun r σ' => r = none ∧ frP 22 mb σ σ' ∧ isP σ' 22 mb (insM (setT M T') (les M key) key v 0)) := by
    intro T' d
    induction d with
    | zero =>
      intro x σ1 hx hd hs h1 h41 h81 hf
      refine G_if rfl (fun q => ?_) (fun q => ?_)
      · refine G_ast rfl (mb + 1 + les M key) (ix1 mb _) (by omega) (by decide) ?_
        refine G_ast rfl (mb + 41 + les M key) (ix41 mb _) (by omega) (by decide) ?_
        refine G_ast rfl (mb + 81 + les M key) (ix81 mb _) (by omega) (by decide) ?_
        refine G_ald rfl mb rfl (by omega) (by decide) ?_
        refine G_ast rfl mb rfl (by omega) (by decide) ?_
        refine G_ret rfl ⟨rfl, ((((hf.st (by decide) (by omega)).st (by decide) (by omega)).st (by decide) (by omega)).st (by decide) (by omega)), ?_, fun i hi => ?_⟩
        · dsimp only
          simp only [hset]
          rw [if_pos ⟨trivial, trivial, trivial⟩, if_neg (by omega), if_neg (by omega), if_neg (by omega), hs]
          exact nI_1 _
        · have hi : i < M.1 + 1 := hi
          have a1 := h1.1 i
          have b1 := h1.2 i
          have a2 := h41.1 i
          have b2 := h41.2 i
          have a3 := h81.1 i
          have b3 := h81.2 i
          show hset (hset (hset (hset σ1.1 22 0 (mb + 1 + les M key) (nI key)) 22 0 (mb + 41 + les M key) (nI v)) 22 0 (mb + 81 + les M key) 0) 22 0 mb _ 22 0 (mb + 1 + i) = nI (insF M.2.1 (les M key) key i) ∧ hset (hset (hset (hset σ1.1 22 0 (mb + 1 + les M key) (nI key)) 22 0 (mb + 41 + les M key) (nI v)) 22 0 (mb + 81 + les M key) 0) 22 0 mb _ 22 0 (mb + 41 + i) = nI (insF M.2.2.1 (les M key) v i) ∧ hset (hset (hset (hset σ1.1 22 0 (mb + 1 + les M key) (nI key)) 22 0 (mb + 41 + les M key) (nI v)) 22 0 (mb + 81 + les M key) 0) 22 0 mb _ 22 0 (mb + 81 + i) = nI (insF T' (les M key) 0 i)
          unfold insF hset
          rcases Nat.lt_trichotomy i (les M key) with hip | hip | hip
          · refine ⟨?_, ?_, ?_⟩
            · rw [if_neg (by omega), if_neg (by omega), if_neg (by omega), if_neg (by omega), if_pos hip]
              exact a1 (by omega)
            · rw [if_neg (by omega), if_neg (by omega), if_neg (by omega), if_neg (by omega), if_pos hip]
              exact a2 (by omega)
            · rw [if_neg (by omega), if_neg (by omega), if_neg (by omega), if_neg (by omega), if_pos hip]
              exact a3 (by omega)
          · subst hip
            refine ⟨?_, ?_, ?_⟩
            · rw [if_neg (by omega), if_neg (by omega), if_neg (by omega), if_pos (by omega), if_neg (by omega), if_pos rfl]
            · rw [if_neg (by omega), if_neg (by omega), if_pos (by omega), if_neg (by omega), if_pos rfl]
            · rw [if_neg (by omega), if_pos (by omega), if_neg (by omega), if_pos rfl]
              rfl
          · refine ⟨?_, ?_, ?_⟩
            · rw [if_neg (by omega), if_neg (by omega), if_neg (by omega), if_neg (by omega), if_neg (by omega), if_neg (by omega)]
              exact b1 (by omega) (by omega)
            · rw [if_neg (by omega), if_neg (by omega), if_neg (by omega), if_neg (by omega), if_neg (by omega), if_neg (by omega)]
              exact b2 (by omega) (by omega)
            · rw [if_neg (by omega), if_neg (by omega), if_neg (by omega), if_neg (by omega), if_neg (by omega), if_neg (by omega)]
              exact b3 (by omega) (by omega)
      · rw [hx] at q
        exact absurd (nle q (by omega) (by omega)) (by omega)
    | succ d ih =>
      intro x σ1 hx hd hs h1 h41 h81 hf
      refine G_if rfl (fun q => ?_) (fun q => ?_)
      · rw [hx] at q
        exact absurd (ile q (by omega) (by omega)) (by omega)
      · refine G_callv rfl (by rw [hx, show les M key + (d + 1) = les M key + d + 1 from rfl, nI_pred]) (ev_move_22 (σ := σ1) hm (t := les M key + d + 1) (f := les M key + d) (by omega) (by omega)) ?_
        rintro r1 σ2 ⟨rfl, hf2, hmb, hxx⟩
        refine G_to [95] rfl ?_
        refine ih _ σ2 (by rw [hx]; exact pk_m1 _) (by omega) (by rw [hmb]; exact hs) ⟨fun y hy => ?_, fun y hy hy2 => ?_⟩ ⟨fun y hy => ?_, fun y hy hy2 => ?_⟩ ⟨fun y hy => ?_, fun y hy hy2 => ?_⟩ (hf.tr hf2)
        · rw [(hxx y (by omega)).1, if_neg (by omega)]
          exact h1.1 y (by omega)
        · rw [(hxx y (by omega)).1]
          by_cases hyy : y = les M key + d + 1
          · rw [if_pos hyy, hyy]
            exact h1.1 _ (by omega)
          · rw [if_neg hyy]
            exact h1.2 y (by omega) hy2
        · rw [(hxx y (by omega)).2.1, if_neg (by omega)]
          exact h41.1 y (by omega)
        · rw [(hxx y (by omega)).2.1]
          by_cases hyy : y = les M key + d + 1
          · rw [if_pos hyy, hyy]
            exact h41.1 _ (by omega)
          · rw [if_neg hyy]
            exact h41.2 y (by omega) hy2
        · rw [(hxx y (by omega)).2.2, if_neg (by omega)]
          exact h81.1 y (by omega)
        · rw [(hxx y (by omega)).2.2]
          by_cases hyy : y = les M key + d + 1
          · rw [if_pos hyy, hyy]
            exact h81.1 _ (by omega)
          · rw [if_neg hyy]
            exact h81.2 y (by omega) hy2
  have lev : ∀ (l : Nat) (x : Int32) (σ1 : Hp) (T : Nat → Nat), x = nI l → l ≤ 40 → (∀ i, i < M.1 → T i ≤ 40) → isP σ1 22 mb (setT M T) → frP 22 mb σ σ1 →
      RR 103 15 [some rMo, some (rP 22), some (.inl (nI mb)), some (.inl (nI key)), some (.inl (nI v)), some (.inl (nI (les M key))), some (.inl x)] [] σ1 (fun r σ' => r = none ∧ frP 22 mb σ σ' ∧ isP σ' 22 mb (insM (setT M (partL M.1 (les M key) l T)) (les M key) key v 0)) := by
    intro l
    induction l with
    | zero =>
      intro x σ1 T hx hl hT hI1 hf
      refine G_if rfl (fun q => ?_) (fun q => ?_)
      · refine G_ald rfl mb rfl (by omega) (by decide) ?_
        refine G_to [95] rfl ?_
        exact shift T (M.1 - les M key) _ σ1 (by rw [hI1.1, show les M key + (M.1 - les M key) = M.1 by omega]; rfl) (by omega) hI1.1 ⟨fun y hy => (hI1.2 y (by show y < M.1; omega)).1, fun y h1 h2 => by omega⟩ ⟨fun y hy => (hI1.2 y (by show y < M.1; omega)).2.1, fun y h1 h2 => by omega⟩ ⟨fun y hy => (hI1.2 y (by show y < M.1; omega)).2.2, fun y h1 h2 => by omega⟩ hf
      · rw [hx] at q
        exact absurd (ile (b := 0) (nI_le (Nat.le_refl 0) (by decide)) (by decide) (by decide)) (fun _ => q (nI_le (Nat.le_refl 0) (by decide)))
    | succ l ih =>
      intro x σ1 T hx hl hT hI1 hf
      have hw1 : wfT (setT M T) := ⟨hw.1, fun i hi => by have := hT i hi; show T i < 64; omega⟩
      have ha := ahF_le T (l + 1) (les M key)
      have hb := bhF_le T (l + 1) hle
      have hc := cntF_le T l (bhF M.1 T (l + 1) (les M key) - ahF T (l + 1) (les M key)) (ahF T (l + 1) (les M key))
      refine G_if rfl (fun q => ?_) (fun q => ?_)
      · rw [hx] at q
        exact absurd (ile (b := 0) q (by omega) (by decide)) (by omega)
      · refine G_callv rfl (by rw [hx]) (ev_layGap_22 hI1 hw1 hm (l := l + 1) (q := les M key) (f := les M key) (by omega) hle hle) ?_
        rintro r1 σ2 ⟨rfl, hf2, h21, h22⟩
        have hI2 := hf2.is (by decide) hI1
        refine G_callv rfl (by rw [h21, h22, hx, nI_pred]; rfl) (ev_between_22 hI2 hw1 hm (a := ahF T (l + 1) (les M key)) (b := bhF M.1 T (l + 1) (les M key)) (h := l) hb.2 (by show ahF T (l + 1) (les M key) ≤ M.1; omega) (by omega)) ?_
        rintro r1 σ3 ⟨rfl, rfl⟩
        refine G_if rfl (fun q2 => ?_) (fun q2 => ?_)
        · have q2 : ¬ cntF T l (bhF M.1 T (l + 1) (les M key) - ahF T (l + 1) (les M key)) (ahF T (l + 1) (les M key)) = 3 := fun e => q2 (by show nI (cntF T l (bhF M.1 T (l + 1) (les M key) - ahF T (l + 1) (les M key)) (ahF T (l + 1) (les M key))) = 3; rw [e]; rfl)
          refine G_to [15] rfl ?_
          rw [partL, show partF M.1 T (l + 1) (les M key) = T from by rw [partF]; exact if_neg q2]
          exact ih _ σ3 T (by rw [hx]; exact pk_m1 l) (by omega) hT hI2 (hf.tr (hf2.p (by decide)))
        · have q2 : cntF T l (bhF M.1 T (l + 1) (les M key) - ahF T (l + 1) (les M key)) (ahF T (l + 1) (les M key)) = 3 := ieq (b := 3) (Classical.not_not.mp q2) (by show cntF T l _ _ < _; omega) (by decide)
          obtain ⟨n1, n2, n3⟩ := nthF_in T l (bhF M.1 T (l + 1) (les M key) - ahF T (l + 1) (les M key)) (ahF T (l + 1) (les M key)) 2 (by decide) (by omega)
          refine G_callv rfl (by rw [h21, h22, hx, nI_pred]; rfl) (ev_placeOf_22 hI2 hw1 hm (a := ahF T (l + 1) (les M key)) (b := bhF M.1 T (l + 1) (les M key)) (h := l) (w := 1) hb.2 (by omega) (by omega) (by show 1 < cntF T l _ _; omega)) ?_
          rintro r1 σ4 ⟨rfl, rfl⟩
          refine G_ald rfl (mb + 81 + nthF T l (bhF M.1 T (l + 1) (les M key) - ahF T (l + 1) (les M key)) (ahF T (l + 1) (les M key)) 2) (ix81 mb _) (by omega) (by decide) ?_
          refine G_ast rfl (mb + 81 + nthF T l (bhF M.1 T (l + 1) (les M key) - ahF T (l + 1) (les M key)) (ahF T (l + 1) (les M key)) 2) (ix81 mb _) (by omega) (by decide) ?_
          refine G_to [15] rfl ?_
          rw [(hI2.2 (nthF T l (bhF M.1 T (l + 1) (les M key) - ahF T (l + 1) (les M key)) (ahF T (l + 1) (les M key)) 2) (by show _ < M.1; omega)).2.2]
          have hpe : partF M.1 T (l + 1) (les M key) = upN T (nthF T l (bhF M.1 T (l + 1) (les M key) - ahF T (l + 1) (les M key)) (ahF T (l + 1) (les M key)) 2) (T (nthF T l (bhF M.1 T (l + 1) (les M key) - ahF T (l + 1) (les M key)) (ahF T (l + 1) (les M key)) 2) + 1) := by
            rw [partF]
            exact if_pos q2
          have hple := partF_le (n := M.1) (l := l + 1) (p := les M key) (b := 40) (T := T) (by omega) hle hT (by omega)
          rw [partL]
          refine ih _ _ _ (by rw [hx]; exact pk_m1 l) (by omega) hple ?_ ((hf.tr (hf2.p (by decide))).st (by decide) (by omega))
          rw [hpe]
          have := isP_up (v := T (nthF T l (bhF M.1 T (l + 1) (les M key) - ahF T (l + 1) (les M key)) (ahF T (l + 1) (les M key)) 2) + 1) hI2 (by show M.1 ≤ 40; omega) (q := nthF T l (bhF M.1 T (l + 1) (les M key) - ahF T (l + 1) (les M key)) (ahF T (l + 1) (les M key)) 2) (by omega)
          rw [← nI_1] at this
          exact this
  refine G_call rfl (ev_plesser_22 hI hw hm (by omega)) ?_
  rintro r1 σ1 ⟨rfl, rfl⟩
  refine G_call rfl (ev_ptop_22 hI hw.t hm) ?_
  rintro r1 σ1 ⟨rfl, rfl⟩
  refine G_to [15] rfl ?_
  exact lev _ _ _ M.2.2.2 rfl htop (fun i hi => by have := hlow i hi; omega) hI (frP.rf _ _ _)
theorem ev_goPut_22 (hI : isP σ 22 mb M) (hw : wfM M) (hlow : lowM M) (hm : mb + 121 ≤ 242) {key v : Nat} (hk : key < 100) : Ev 102 [rMo, rP 22, .inl (nI mb), .inl (nI key), .inl (nI v)] σ (fun r σ' => (¬ has M key ∧ 40 ≤ M.1 ∧ r = some (.inl 0) ∧ σ' = σ) ∨ (has M key ∧ r = some (.inl 1) ∧ isP σ' 22 mb (setV M (les M key) v) ∧ frP 22 mb σ σ') ∨ (¬ has M key ∧ M.1 < 40 ∧ r = some (.inl 1) ∧ isP σ' 22 mb (placeM M key v) ∧ frP 22 mb σ σ')) := by
  have hn := hw.1
  refine G_call rfl (ev_find_22 hI hw hm (by omega)) ?_
  rintro r1 σ1 ⟨rfl, ⟨hh, rfl⟩ | ⟨hh, rfl⟩⟩
  · have hlt := hh.1
    refine G_if rfl (fun q => ?_) (fun q => ?_)
    · exact absurd q (fun e => by
        have h1 := congrArg Int32.toInt e
        rw [nI_toInt (by omega)] at h1
        have h2 : (-9 : Int32).toInt = -9 := rfl
        omega)
    · refine G_ast rfl (mb + 41 + les M key) (ix41 mb _) (by omega) (by decide) ?_
      refine G_retZ rfl (Or.inr rfl) (Or.inr (Or.inl ⟨hh, rfl, ⟨?_, fun i hi => ?_⟩, (frP.rf _ _ _).st (by decide) (by omega)⟩))
      · show hset σ1.1 22 0 (mb + 41 + les M key) (nI v) 22 0 mb = _
        unfold hset
        rw [if_neg (by omega)]
        exact hI.1
      · obtain ⟨a1, a2, a3⟩ := hI.2 i hi
        have hi : i < M.1 := hi
        show hset σ1.1 22 0 (mb + 41 + les M key) (nI v) 22 0 (mb + 1 + i) = _ ∧ hset σ1.1 22 0 (mb + 41 + les M key) (nI v) 22 0 (mb + 41 + i) = nI (upN M.2.2.1 (les M key) v i) ∧ hset σ1.1 22 0 (mb + 41 + les M key) (nI v) 22 0 (mb + 81 + i) = _
        unfold hset upN
        refine ⟨?_, ?_, ?_⟩
        · rw [if_neg (by omega)]
          exact a1
        · by_cases hil : i = les M key
          · rw [if_pos (by omega), if_pos hil]
          · rw [if_neg (by omega), if_neg hil]
            exact a2
        · rw [if_neg (by omega)]
          exact a3
  · refine G_if rfl (fun q => ?_) (fun q => ?_)
    · refine G_ald rfl mb rfl (by omega) (by decide) ?_
      rw [hI.1]
      refine G_if rfl (fun q2 => ?_) (fun q2 => ?_)
      · have q2 : M.1 < 40 := by
          rcases Nat.lt_or_ge M.1 40 with h | h
          · exact h
          · exact absurd (by rw [show M.1 = 40 by omega]; rfl) q2
        refine G_call rfl (ev_goNew_22 hI hw hlow hm q2 hk) ?_
        rintro r1 σ2 ⟨rfl, h3, h4⟩
        exact G_retZ rfl (Or.inr rfl) (Or.inr (Or.inr ⟨hh, q2, rfl, h4, h3⟩))
      · have q2 : M.1 = 40 := ieq (b := 40) (Classical.not_not.mp q2) (by omega) (by decide)
        exact G_retZ rfl (Or.inl rfl) (Or.inl ⟨hh, by omega, rfl, rfl⟩)
    · exact absurd rfl q
end MO
end
section
/-! The model: a key taken out. -/
theorem upN_comm {T : Nat → Nat} {a b u v : Nat} (h : a ≠ b) : upN (upN T a u) b v = upN (upN T b v) a u := by
  funext i
  unfold upN
  by_cases h1 : i = b
  · rw [if_pos h1, if_neg (by omega), if_pos h1]
  · rw [if_neg h1, if_neg h1]
theorem del_up (f : Nat → Nat) (p : Nat) : delF (upN f p (f (p + 1))) (p + 1) = delF f p := by
  funext i
  unfold delF upN
  rcases Nat.lt_trichotomy i p with h | h | h
  · rw [if_pos (by omega), if_neg (by omega), if_pos h]
  · subst h
    simp
  · rw [if_neg (by omega), if_neg (by omega), if_neg (by omega)]
theorem bhF_skip {n : Nat} {T : Nat → Nat} {l x : Nat} (hx : x < n) (hT : T x < l) : bhF n T l (x + 1) = bhF n T l x := by
  unfold bhF
  rw [show n - x = n - (x + 1) + 1 by omega, scn_t (by simpa using hT)]
section MO
variable {σ : Hp} {mb : Nat} {M : AM}
theorem ev_help_21 (hI : isP σ 21 mb M) (hw : wfT M) (hm : mb + 121 ≤ 242) {l x : Nat} (hl : 1 ≤ l) (hl2 : l < 63) (hx : x ≤ M.1) (h21 : σ.1 6 0 21 = nI (ahF M.2.2.2 l x) - 1) (h22 : σ.1 6 0 22 = nI (bhF M.1 M.2.2.2 l x)) (hc : cntF M.2.2.2 (l - 1) (bhF M.1 M.2.2.2 l x - ahF M.2.2.2 l x) (ahF M.2.2.2 l x) = 1)
    (hAB : ¬ (bhF M.1 M.2.2.2 l x < M.1 ∧ M.2.2.2 (bhF M.1 M.2.2.2 l x) = l) → 0 < ahF M.2.2.2 l x) (hLB : LB M.1 M.2.2.2) : Ev 112 [rMo, rP 21, .inl (nI mb), .inl (nI l)] σ (fun r σ' => r = none ∧ frP 21 mb σ σ' ∧ isP σ' 21 mb (setT M (helpF M.1 M.2.2.2 l x))) := by
  have hn := hw.1
  have ha := ahF_le M.2.2.2 l x
  have hb := bhF_le M.2.2.2 l hx
  -- the end: the fence down, the nearest up
  have fin : ∀ (f q c : Nat) (σ1 : Hp) (x4 x5 x6 x7 x8 x9 : Int32), isP σ1 21 mb M → frP 21 mb σ σ1 → f < M.1 → q < M.1 → f ≠ q → 1 ≤ M.2.2.2 f → x5 = nI f → x8 = nI c → c < 100 → (2 ≤ c → x9 = nI q) → RR 112 138 [some rMo, some (rP 21), some (.inl (nI mb)), some (.inl (nI l)), some (.inl x4), some (.inl x5), some (.inl x6), some (.inl x7), some (.inl x8), some (.inl x9)] [] σ1 (fun r σ' => r = none ∧ frP 21 mb σ σ' ∧ isP σ' 21 mb (setT M (if 2 ≤ c then upN (upN M.2.2.2 f (M.2.2.2 f - 1)) q (M.2.2.2 q + 1) else upN M.2.2.2 f (M.2.2.2 f - 1)))) := by
    intro f q c σ1 x4 x5 x6 x7 x8 x9 hI1 hf1 hf hq hfq hTf hx5 hx8 hcl hx9
    refine G_ald rfl (mb + 81 + f) (by rw [hx5]; exact ix81 mb f) (by omega) (by decide) ?_
    refine G_ast rfl (mb + 81 + f) (by rw [hx5]; exact ix81 mb f) (by omega) (by decide) ?_
    rw [(hI1.2 f hf).2.2, lm1 hTf]
    have hI2 := isP_up (v := M.2.2.2 f - 1) hI1 hn (q := f) (by omega)
    have hf2 : frP 21 mb σ (hset σ1.1 21 0 (mb + 81 + f) (nI (M.2.2.2 f - 1)), σ1.2) := hf1.st (by decide) (by omega)
    generalize (hset σ1.1 21 0 (mb + 81 + f) (nI (M.2.2.2 f - 1)), σ1.2) = σ2 at hI2 hf2 ⊢
    refine G_if rfl (fun h => ?_) (fun h => ?_)
    · rw [hx8] at h
      have h := ile (b := 1) h (by omega) (by decide)
      rw [if_neg (by omega)]
      exact G_ret rfl ⟨rfl, hf2, hI2⟩
    · rw [hx8] at h
      have h := nle (b := 1) h (by omega) (by decide)
      have hx9 := hx9 (by omega)
      refine G_ald rfl (mb + 81 + q) (by rw [hx9]; exact ix81 mb q) (by omega) (by decide) ?_
      refine G_ast rfl (mb + 81 + q) (by rw [hx9]; exact ix81 mb q) (by omega) (by decide) ?_
      rw [(hI2.2 q hq).2.2]
      have e : (setT M (upN M.2.2.2 f (M.2.2.2 f - 1))).2.2.2 q = M.2.2.2 q := by
        show upN M.2.2.2 f (M.2.2.2 f - 1) q = _
        unfold upN
        rw [if_neg (by omega)]
      rw [e, nI_1, if_pos (by omega)]
      exact G_ret rfl ⟨rfl, hf2.st (by decide) (by omega), isP_up (v := M.2.2.2 q + 1) hI2 hn (q := q) (by omega)⟩
  unfold helpF
  rw [if_pos hc]
  -- ahead
  have ahd : ¬ (bhF M.1 M.2.2.2 l x < M.1 ∧ M.2.2.2 (bhF M.1 M.2.2.2 l x) = l) → RR 112 30 [some rMo, some (rP 21), some (.inl (nI mb)), some (.inl (nI l)), none, none, none, none, none, none] [.inl 0] σ (fun r σ' => r = none ∧ frP 21 mb σ σ' ∧ isP σ' 21 mb (setT M (if bhF M.1 M.2.2.2 l x < M.1 ∧ M.2.2.2 (bhF M.1 M.2.2.2 l x) = l then helpB M.1 M.2.2.2 l (bhF M.1 M.2.2.2 l x) else if 0 < ahF M.2.2.2 l x then helpA M.2.2.2 l (ahF M.2.2.2 l x - 1) else M.2.2.2))) := by
    intro hno
    have hapos := hAB hno
    rw [if_neg hno, if_pos hapos]
    have hat := ahF_at M.2.2.2 l x (ahF M.2.2.2 l x - 1) (by omega)
    generalize hae : ahF M.2.2.2 l x = a at *
    have hs := ahF_le M.2.2.2 l (a - 1)
    have ea : nI a - 1 = nI (a - 1) := lm1 hapos
    -- the gap ahead of the fence has one
    have hc1 : 1 ≤ cntF M.2.2.2 (l - 1) (a - 1 - ahF M.2.2.2 l (a - 1)) (ahF M.2.2.2 l (a - 1)) := by
      obtain ⟨s1, s2⟩ := ahF_sp M.2.2.2 l (a - 1)
      obtain ⟨r, r1, r2, r3⟩ := hLB l hl ⟨a - 1, by omega, hat⟩ (ahF M.2.2.2 l (a - 1)) a (by omega) (by omega) (by
        rcases s1 with q | q
        · exact Or.inl q
        · rcases Nat.eq_zero_or_pos (ahF M.2.2.2 l (a - 1)) with q2 | q2
          · exact Or.inl q2
          · exact Or.inr (Or.inr ⟨q2, by omega, q⟩)) (Or.inr (Or.inr ⟨by omega, by omega, hat⟩))
      exact cntF_pos _ _ _ _ (r - 1) (by omega) (by omega) r3
    have hcl := cntF_le M.2.2.2 (l - 1) (a - 1 - ahF M.2.2.2 l (a - 1)) (ahF M.2.2.2 l (a - 1))
    refine G_if rfl (fun q => ?_) (fun q => ?_)
    · refine G_callv rfl (by rw [h21, ea, nI_1, show a - 1 + 1 = a by omega]) (ev_layGap_21 hI hw hm (l := l) (q := a - 1) (f := a) (by omega) (by omega) (by omega)) ?_
      rintro r1 σ2 ⟨rfl, hf2, g21, g22⟩
      have hI2 := hf2.is (by decide) hI
      refine G_if rfl (fun q => ?_) (fun q => ?_)
      · refine G_if rfl (fun q => ?_) (fun q => ?_)
        · refine G_callv rfl (by rw [g21, h21, ea, lm1 hl]) (ev_between_21 hI2 hw hm (a := ahF M.2.2.2 l (a - 1)) (b := a - 1) (h := l - 1) (by omega) (by omega) (by omega)) ?_
          rintro r1 σ3 ⟨rfl, rfl⟩
          obtain ⟨n1, n2, n3⟩ := nthF_in M.2.2.2 (l - 1) (a - 1 - ahF M.2.2.2 l (a - 1)) (ahF M.2.2.2 l (a - 1)) (cntF M.2.2.2 (l - 1) (a - 1 - ahF M.2.2.2 l (a - 1)) (ahF M.2.2.2 l (a - 1))) hc1 (Nat.le_refl _)
          refine G_if rfl (fun q => ?_) (fun q => ?_)
          · refine G_callv rfl (by rw [g21, h21, ea, lm1 hl, lm1 hc1]) (ev_placeOf_21 hI2 hw hm (a := ahF M.2.2.2 l (a - 1)) (b := a - 1) (h := l - 1) (w := cntF M.2.2.2 (l - 1) (a - 1 - ahF M.2.2.2 l (a - 1)) (ahF M.2.2.2 l (a - 1)) - 1) (by omega) (by omega) (by omega) (by omega)) ?_
            rintro r1 σ4 ⟨rfl, rfl⟩
            rw [show cntF M.2.2.2 (l - 1) (a - 1 - ahF M.2.2.2 l (a - 1)) (ahF M.2.2.2 l (a - 1)) - 1 + 1 = cntF M.2.2.2 (l - 1) (a - 1 - ahF M.2.2.2 l (a - 1)) (ahF M.2.2.2 l (a - 1)) by omega]
            refine G_to [138] rfl ?_
            refine (fin (a - 1) (nthF M.2.2.2 (l - 1) (a - 1 - ahF M.2.2.2 l (a - 1)) (ahF M.2.2.2 l (a - 1)) (cntF M.2.2.2 (l - 1) (a - 1 - ahF M.2.2.2 l (a - 1)) (ahF M.2.2.2 l (a - 1)))) _ _ _ _ _ _ _ _ hI2 (hf2.p (by decide)) (by omega) (by omega) (by omega) (by omega) (by rw [h21, ea]) rfl (by omega) (fun _ => rfl)).mono ?_
            rintro r σ' ⟨k1, k2, k3⟩
            refine ⟨k1, k2, ?_⟩
            have e : helpA M.2.2.2 l (a - 1) = if 2 ≤ cntF M.2.2.2 (l - 1) (a - 1 - ahF M.2.2.2 l (a - 1)) (ahF M.2.2.2 l (a - 1)) then upN (upN M.2.2.2 (a - 1) (M.2.2.2 (a - 1) - 1)) (nthF M.2.2.2 (l - 1) (a - 1 - ahF M.2.2.2 l (a - 1)) (ahF M.2.2.2 l (a - 1)) (cntF M.2.2.2 (l - 1) (a - 1 - ahF M.2.2.2 l (a - 1)) (ahF M.2.2.2 l (a - 1)))) (M.2.2.2 (nthF M.2.2.2 (l - 1) (a - 1 - ahF M.2.2.2 l (a - 1)) (ahF M.2.2.2 l (a - 1)) (cntF M.2.2.2 (l - 1) (a - 1 - ahF M.2.2.2 l (a - 1)) (ahF M.2.2.2 l (a - 1)))) + 1) else upN M.2.2.2 (a - 1) (M.2.2.2 (a - 1) - 1) := by
              unfold helpA hA1
              split
              · rw [upN_comm (by omega)]
                congr 1
                unfold upN
                rw [if_neg (by omega)]
              · rfl
            rw [e]
            exact k3
          · exact absurd rfl q
        · exact absurd rfl q
      · exact absurd rfl q
    · exact absurd rfl q
  refine G_ald rfl mb rfl (by omega) (by decide) ?_
  rw [hI.1]
  refine G_if rfl (fun q => ?_) (fun q => ?_)
  · rw [h22] at q
    have q := ile q (by omega) (by omega)
    refine G_to [30] rfl ?_
    exact ahd (by omega)
  · rw [h22] at q
    have q := nle q (by omega) (by omega)
    have hTb := hw.2 _ q
    refine G_ald rfl (mb + 81 + bhF M.1 M.2.2.2 l x) (by rw [h22]; exact ix81 mb _) (by omega) (by decide) ?_
    rw [(hI.2 _ q).2.2]
    refine G_if rfl (fun q2 => ?_) (fun q2 => ?_)
    · refine G_to [30] rfl ?_
      exact ahd (fun e => q2 (by rw [e.2]))
    · have q2 := ieq (Classical.not_not.mp q2) (by omega) (by omega)
      rw [if_pos ⟨q, q2⟩]
      generalize hbe : bhF M.1 M.2.2.2 l x = b at *
      have ht := bhF_le M.2.2.2 l (show b + 1 ≤ M.1 by omega)
      have hc1 : 1 ≤ cntF M.2.2.2 (l - 1) (bhF M.1 M.2.2.2 l (b + 1) - (b + 1)) (b + 1) := by
        obtain ⟨s1, s2⟩ := bhF_sp M.2.2.2 l (show b + 1 ≤ M.1 by omega)
        obtain ⟨r, r1, r2, r3⟩ := hLB l hl ⟨b, by omega, by omega⟩ (b + 1) (bhF M.1 M.2.2.2 l (b + 1) + 1) (by omega) (by omega) (Or.inr (Or.inr ⟨by omega, by omega, by simpa using Nat.le_of_eq q2.symm⟩)) (by
          rcases s1 with q | q
          · exact Or.inr (Or.inl (by omega))
          · exact Or.inr (Or.inr ⟨by omega, by omega, by simpa using q.2⟩))
        exact cntF_pos _ _ _ _ (r - 1) (by omega) (by omega) r3
      have hcl := cntF_le M.2.2.2 (l - 1) (bhF M.1 M.2.2.2 l (b + 1) - (b + 1)) (b + 1)
      refine G_if rfl (fun q3 => ?_) (fun q3 => ?_)
      · exact absurd q3 (by decide)
      · refine G_callv rfl (by rw [h22, nI_1]) (ev_layGap_21 hI hw hm (l := l) (q := b) (f := b + 1) (by omega) (by omega) (by omega)) ?_
        rintro r1 σ2 ⟨rfl, hf2, g21, g22⟩
        have hI2 := hf2.is (by decide) hI
        refine G_if rfl (fun q3 => ?_) (fun q3 => ?_)
        · exact absurd q3 (by decide)
        · refine G_if rfl (fun q3 => ?_) (fun q3 => ?_)
          · exact absurd q3 (by decide)
          · refine G_callv rfl (by rw [g22, h22, lm1 hl, nI_pred]) (ev_between_21 hI2 hw hm (a := b + 1) (b := bhF M.1 M.2.2.2 l (b + 1)) (h := l - 1) (by omega) (by omega) (by omega)) ?_
            rintro r1 σ3 ⟨rfl, rfl⟩
            obtain ⟨n1, n2, n3⟩ := nthF_in M.2.2.2 (l - 1) (bhF M.1 M.2.2.2 l (b + 1) - (b + 1)) (b + 1) 1 (Nat.le_refl _) hc1
            refine G_if rfl (fun q3 => ?_) (fun q3 => ?_)
            · exact absurd q3 (by decide)
            · refine G_callv rfl (by rw [g22, h22, lm1 hl, nI_pred]; rfl) (ev_placeOf_21 hI2 hw hm (a := b + 1) (b := bhF M.1 M.2.2.2 l (b + 1)) (h := l - 1) (w := 0) (by omega) (by omega) (by omega) (by omega)) ?_
              rintro r1 σ4 ⟨rfl, rfl⟩
              refine G_to [138] rfl ?_
              refine (fin b (nthF M.2.2.2 (l - 1) (bhF M.1 M.2.2.2 l (b + 1) - (b + 1)) (b + 1) 1) _ _ _ _ _ _ _ _ hI2 (hf2.p (by decide)) (by omega) (by omega) (by omega) (by omega) h22 rfl (by omega) (fun _ => rfl)).mono ?_
              rintro r σ' ⟨k1, k2, k3⟩
              refine ⟨k1, k2, ?_⟩
              have e : helpB M.1 M.2.2.2 l b = if 2 ≤ cntF M.2.2.2 (l - 1) (bhF M.1 M.2.2.2 l (b + 1) - (b + 1)) (b + 1) then upN (upN M.2.2.2 b (M.2.2.2 b - 1)) (nthF M.2.2.2 (l - 1) (bhF M.1 M.2.2.2 l (b + 1) - (b + 1)) (b + 1) 1) (M.2.2.2 (nthF M.2.2.2 (l - 1) (bhF M.1 M.2.2.2 l (b + 1) - (b + 1)) (b + 1) 1) + 1) else upN M.2.2.2 b (M.2.2.2 b - 1) := by
                unfold helpB hB1
                split
                · rw [upN_comm (by omega)]
                  congr 1
                  unfold upN
                  rw [if_neg (by omega)]
                · rfl
              rw [e]
              exact k3
theorem ev_help_22 (hI : isP σ 22 mb M) (hw : wfT M) (hm : mb + 121 ≤ 242) {l x : Nat} (hl : 1 ≤ l) (hl2 : l < 63) (hx : x ≤ M.1) (h21 : σ.1 6 0 21 = nI (ahF M.2.2.2 l x) - 1) (h22 : σ.1 6 0 22 = nI (bhF M.1 M.2.2.2 l x)) (hc : cntF M.2.2.2 (l - 1) (bhF M.1 M.2.2.2 l x - ahF M.2.2.2 l x) (ahF M.2.2.2 l x) = 1)
    (hAB : ¬ (bhF M.1 M.2.2.2 l x < M.1 ∧ M.2.2.2 (bhF M.1 M.2.2.2 l x) = l) → 0 < ahF M.2.2.2 l x) (hLB : LB M.1 M.2.2.2) : Ev 112 [rMo, rP 22, .inl (nI mb), .inl (nI l)] σ (fun r σ' => r = none ∧ frP 22 mb σ σ' ∧ isP σ' 22 mb (setT M (helpF M.1 M.2.2.2 l x))) := by
  have hn := hw.1
  have ha := ahF_le M.2.2.2 l x
  have hb := bhF_le M.2.2.2 l hx
  -- the end: the fence down, the nearest up
  have fin : ∀ (f q c : Nat) (σ1 : Hp) (x4 x5 x6 x7 x8 x9 : Int32), isP σ1 22 mb M → frP 22 mb σ σ1 → f < M.1 → q < M.1 → f ≠ q → 1 ≤ M.2.2.2 f → x5 = nI f → x8 = nI c → c < 100 → (2 ≤ c → x9 = nI q) → RR 112 138 [some rMo, some (rP 22), some (.inl (nI mb)), some (.inl (nI l)), some (.inl x4), some (.inl x5), some (.inl x6), some (.inl x7), some (.inl x8), some (.inl x9)] [] σ1 (fun r σ' => r = none ∧ frP 22 mb σ σ' ∧ isP σ' 22 mb (setT M (if 2 ≤ c then upN (upN M.2.2.2 f (M.2.2.2 f - 1)) q (M.2.2.2 q + 1) else upN M.2.2.2 f (M.2.2.2 f - 1)))) := by
    intro f q c σ1 x4 x5 x6 x7 x8 x9 hI1 hf1 hf hq hfq hTf hx5 hx8 hcl hx9
    refine G_ald rfl (mb + 81 + f) (by rw [hx5]; exact ix81 mb f) (by omega) (by decide) ?_
    refine G_ast rfl (mb + 81 + f) (by rw [hx5]; exact ix81 mb f) (by omega) (by decide) ?_
    rw [(hI1.2 f hf).2.2, lm1 hTf]
    have hI2 := isP_up (v := M.2.2.2 f - 1) hI1 hn (q := f) (by omega)
    have hf2 : frP 22 mb σ (hset σ1.1 22 0 (mb + 81 + f) (nI (M.2.2.2 f - 1)), σ1.2) := hf1.st (by decide) (by omega)
    generalize (hset σ1.1 22 0 (mb + 81 + f) (nI (M.2.2.2 f - 1)), σ1.2) = σ2 at hI2 hf2 ⊢
    refine G_if rfl (fun h => ?_) (fun h => ?_)
    · rw [hx8] at h
      have h := ile (b := 1) h (by omega) (by decide)
      rw [if_neg (by omega)]
      exact G_ret rfl ⟨rfl, hf2, hI2⟩
    · rw [hx8] at h
      have h := nle (b := 1) h (by omega) (by decide)
      have hx9 := hx9 (by omega)
      refine G_ald rfl (mb + 81 + q) (by rw [hx9]; exact ix81 mb q) (by omega) (by decide) ?_
      refine G_ast rfl (mb + 81 + q) (by rw [hx9]; exact ix81 mb q) (by omega) (by decide) ?_
      rw [(hI2.2 q hq).2.2]
      have e : (setT M (upN M.2.2.2 f (M.2.2.2 f - 1))).2.2.2 q = M.2.2.2 q := by
        show upN M.2.2.2 f (M.2.2.2 f - 1) q = _
        unfold upN
        rw [if_neg (by omega)]
      rw [e, nI_1, if_pos (by omega)]
      exact G_ret rfl ⟨rfl, hf2.st (by decide) (by omega), isP_up (v := M.2.2.2 q + 1) hI2 hn (q := q) (by omega)⟩
  unfold helpF
  rw [if_pos hc]
  -- ahead
  have ahd : ¬ (bhF M.1 M.2.2.2 l x < M.1 ∧ M.2.2.2 (bhF M.1 M.2.2.2 l x) = l) → RR 112 30 [some rMo, some (rP 22), some (.inl (nI mb)), some (.inl (nI l)), none, none, none, none, none, none] [.inl 0] σ (fun r σ' => r = none ∧ frP 22 mb σ σ' ∧ isP σ' 22 mb (setT M (if bhF M.1 M.2.2.2 l x < M.1 ∧ M.2.2.2 (bhF M.1 M.2.2.2 l x) = l then helpB M.1 M.2.2.2 l (bhF M.1 M.2.2.2 l x) else if 0 < ahF M.2.2.2 l x then helpA M.2.2.2 l (ahF M.2.2.2 l x - 1) else M.2.2.2))) := by
    intro hno
    have hapos := hAB hno
    rw [if_neg hno, if_pos hapos]
    have hat := ahF_at M.2.2.2 l x (ahF M.2.2.2 l x - 1) (by omega)
    generalize hae : ahF M.2.2.2 l x = a at *
    have hs := ahF_le M.2.2.2 l (a - 1)
    have ea : nI a - 1 = nI (a - 1) := lm1 hapos
    -- the gap ahead of the fence has one
    have hc1 : 1 ≤ cntF M.2.2.2 (l - 1) (a - 1 - ahF M.2.2.2 l (a - 1)) (ahF M.2.2.2 l (a - 1)) := by
      obtain ⟨s1, s2⟩ := ahF_sp M.2.2.2 l (a - 1)
      obtain ⟨r, r1, r2, r3⟩ := hLB l hl ⟨a - 1, by omega, hat⟩ (ahF M.2.2.2 l (a - 1)) a (by omega) (by omega) (by
        rcases s1 with q | q
        · exact Or.inl q
        · rcases Nat.eq_zero_or_pos (ahF M.2.2.2 l (a - 1)) with q2 | q2
          · exact Or.inl q2
          · exact Or.inr (Or.inr ⟨q2, by omega, q⟩)) (Or.inr (Or.inr ⟨by omega, by omega, hat⟩))
      exact cntF_pos _ _ _ _ (r - 1) (by omega) (by omega) r3
    have hcl := cntF_le M.2.2.2 (l - 1) (a - 1 - ahF M.2.2.2 l (a - 1)) (ahF M.2.2.2 l (a - 1))
    refine G_if rfl (fun q => ?_) (fun q => ?_)
    · refine G_callv rfl (by rw [h21, ea, nI_1, show a - 1 + 1 = a by omega]) (ev_layGap_22 hI hw hm (l := l) (q := a - 1) (f := a) (by omega) (by omega) (by omega)) ?_
      rintro r1 σ2 ⟨rfl, hf2, g21, g22⟩
      have hI2 := hf2.is (by decide) hI
      refine G_if rfl (fun q => ?_) (fun q => ?_)
      · refine G_if rfl (fun q => ?_) (fun q => ?_)
        · refine G_callv rfl (by rw [g21, h21, ea, lm1 hl]) (ev_between_22 hI2 hw hm (a := ahF M.2.2.2 l (a - 1)) (b := a - 1) (h := l - 1) (by omega) (by omega) (by omega)) ?_
          rintro r1 σ3 ⟨rfl, rfl⟩
          obtain ⟨n1, n2, n3⟩ := nthF_in M.2.2.2 (l - 1) (a - 1 - ahF M.2.2.2 l (a - 1)) (ahF M.2.2.2 l (a - 1)) (cntF M.2.2.2 (l - 1) (a - 1 - ahF M.2.2.2 l (a - 1)) (ahF M.2.2.2 l (a - 1))) hc1 (Nat.le_refl _)
          refine G_if rfl (fun q => ?_) (fun q => ?_)
          · refine G_callv rfl (by rw [g21, h21, ea, lm1 hl, lm1 hc1]) (ev_placeOf_22 hI2 hw hm (a := ahF M.2.2.2 l (a - 1)) (b := a - 1) (h := l - 1) (w := cntF M.2.2.2 (l - 1) (a - 1 - ahF M.2.2.2 l (a - 1)) (ahF M.2.2.2 l (a - 1)) - 1) (by omega) (by omega) (by omega) (by omega)) ?_
            rintro r1 σ4 ⟨rfl, rfl⟩
            rw [show cntF M.2.2.2 (l - 1) (a - 1 - ahF M.2.2.2 l (a - 1)) (ahF M.2.2.2 l (a - 1)) - 1 + 1 = cntF M.2.2.2 (l - 1) (a - 1 - ahF M.2.2.2 l (a - 1)) (ahF M.2.2.2 l (a - 1)) by omega]
            refine G_to [138] rfl ?_
            refine (fin (a - 1) (nthF M.2.2.2 (l - 1) (a - 1 - ahF M.2.2.2 l (a - 1)) (ahF M.2.2.2 l (a - 1)) (cntF M.2.2.2 (l - 1) (a - 1 - ahF M.2.2.2 l (a - 1)) (ahF M.2.2.2 l (a - 1)))) _ _ _ _ _ _ _ _ hI2 (hf2.p (by decide)) (by omega) (by omega) (by omega) (by omega) (by rw [h21, ea]) rfl (by omega) (fun _ => rfl)).mono ?_
            rintro r σ' ⟨k1, k2, k3⟩
            refine ⟨k1, k2, ?_⟩
            have e : helpA M.2.2.2 l (a - 1) = if 2 ≤ cntF M.2.2.2 (l - 1) (a - 1 - ahF M.2.2.2 l (a - 1)) (ahF M.2.2.2 l (a - 1)) then upN (upN M.2.2.2 (a - 1) (M.2.2.2 (a - 1) - 1)) (nthF M.2.2.2 (l - 1) (a - 1 - ahF M.2.2.2 l (a - 1)) (ahF M.2.2.2 l (a - 1)) (cntF M.2.2.2 (l - 1) (a - 1 - ahF M.2.2.2 l (a - 1)) (ahF M.2.2.2 l (a - 1)))) (M.2.2.2 (nthF M.2.2.2 (l - 1) (a - 1 - ahF M.2.2.2 l (a - 1)) (ahF M.2.2.2 l (a - 1)) (cntF M.2.2.2 (l - 1) (a - 1 - ahF M.2.2.2 l (a - 1)) (ahF M.2.2.2 l (a - 1)))) + 1) else upN M.2.2.2 (a - 1) (M.2.2.2 (a - 1) - 1) := by
              unfold helpA hA1
              split
              · rw [upN_comm (by omega)]
                congr 1
                unfold upN
                rw [if_neg (by omega)]
              · rfl
            rw [e]
            exact k3
          · exact absurd rfl q
        · exact absurd rfl q
      · exact absurd rfl q
    · exact absurd rfl q
  refine G_ald rfl mb rfl (by omega) (by decide) ?_
  rw [hI.1]
  refine G_if rfl (fun q => ?_) (fun q => ?_)
  · rw [h22] at q
    have q := ile q (by omega) (by omega)
    refine G_to [30] rfl ?_
    exact ahd (by omega)
  · rw [h22] at q
    have q := nle q (by omega) (by omega)
    have hTb := hw.2 _ q
    refine G_ald rfl (mb + 81 + bhF M.1 M.2.2.2 l x) (by rw [h22]; exact ix81 mb _) (by omega) (by decide) ?_
    rw [(hI.2 _ q).2.2]
    refine G_if rfl (fun q2 => ?_) (fun q2 => ?_)
    · refine G_to [30] rfl ?_
      exact ahd (fun e => q2 (by rw [e.2]))
    · have q2 := ieq (Classical.not_not.mp q2) (by omega) (by omega)
      rw [if_pos ⟨q, q2⟩]
      generalize hbe : bhF M.1 M.2.2.2 l x = b at *
      have ht := bhF_le M.2.2.2 l (show b + 1 ≤ M.1 by omega)
      have hc1 : 1 ≤ cntF M.2.2.2 (l - 1) (bhF M.1 M.2.2.2 l (b + 1) - (b + 1)) (b + 1) := by
        obtain ⟨s1, s2⟩ := bhF_sp M.2.2.2 l (show b + 1 ≤ M.1 by omega)
        obtain ⟨r, r1, r2, r3⟩ := hLB l hl ⟨b, by omega, by omega⟩ (b + 1) (bhF M.1 M.2.2.2 l (b + 1) + 1) (by omega) (by omega) (Or.inr (Or.inr ⟨by omega, by omega, by simpa using Nat.le_of_eq q2.symm⟩)) (by
          rcases s1 with q | q
          · exact Or.inr (Or.inl (by omega))
          · exact Or.inr (Or.inr ⟨by omega, by omega, by simpa using q.2⟩))
        exact cntF_pos _ _ _ _ (r - 1) (by omega) (by omega) r3
      have hcl := cntF_le M.2.2.2 (l - 1) (bhF M.1 M.2.2.2 l (b + 1) - (b + 1)) (b + 1)
      refine G_if rfl (fun q3 => ?_) (fun q3 => ?_)
      · exact absurd q3 (by decide)
      · refine G_callv rfl (by rw [h22, nI_1]) (ev_layGap_22 hI hw hm (l := l) (q := b) (f := b + 1) (by omega) (by omega) (by omega)) ?_
        rintro r1 σ2 ⟨rfl, hf2, g21, g22⟩
        have hI2 := hf2.is (by decide) hI
        refine G_if rfl (fun q3 => ?_) (fun q3 => ?_)
        · exact absurd q3 (by decide)
        · refine G_if rfl (fun q3 => ?_) (fun q3 => ?_)
          · exact absurd q3 (by decide)
          · refine G_callv rfl (by rw [g22, h22, lm1 hl, nI_pred]) (ev_between_22 hI2 hw hm (a := b + 1) (b := bhF M.1 M.2.2.2 l (b + 1)) (h := l - 1) (by omega) (by omega) (by omega)) ?_
            rintro r1 σ3 ⟨rfl, rfl⟩
            obtain ⟨n1, n2, n3⟩ := nthF_in M.2.2.2 (l - 1) (bhF M.1 M.2.2.2 l (b + 1) - (b + 1)) (b + 1) 1 (Nat.le_refl _) hc1
            refine G_if rfl (fun q3 => ?_) (fun q3 => ?_)
            · exact absurd q3 (by decide)
            · refine G_callv rfl (by rw [g22, h22, lm1 hl, nI_pred]; rfl) (ev_placeOf_22 hI2 hw hm (a := b + 1) (b := bhF M.1 M.2.2.2 l (b + 1)) (h := l - 1) (w := 0) (by omega) (by omega) (by omega) (by omega)) ?_
              rintro r1 σ4 ⟨rfl, rfl⟩
              refine G_to [138] rfl ?_
              refine (fin b (nthF M.2.2.2 (l - 1) (bhF M.1 M.2.2.2 l (b + 1) - (b + 1)) (b + 1) 1) _ _ _ _ _ _ _ _ hI2 (hf2.p (by decide)) (by omega) (by omega) (by omega) (by omega) h22 rfl (by omega) (fun _ => rfl)).mono ?_
              rintro r σ' ⟨k1, k2, k3⟩
              refine ⟨k1, k2, ?_⟩
              have e : helpB M.1 M.2.2.2 l b = if 2 ≤ cntF M.2.2.2 (l - 1) (bhF M.1 M.2.2.2 l (b + 1) - (b + 1)) (b + 1) then upN (upN M.2.2.2 b (M.2.2.2 b - 1)) (nthF M.2.2.2 (l - 1) (bhF M.1 M.2.2.2 l (b + 1) - (b + 1)) (b + 1) 1) (M.2.2.2 (nthF M.2.2.2 (l - 1) (bhF M.1 M.2.2.2 l (b + 1) - (b + 1)) (b + 1) 1) + 1) else upN M.2.2.2 b (M.2.2.2 b - 1) := by
                unfold helpB hB1
                split
                · rw [upN_comm (by omega)]
                  congr 1
                  unfold upN
                  rw [if_neg (by omega)]
                · rfl
              rw [e]
              exact k3
end MO
end
section
/-! The model: a key taken out. -/
section MO
variable {σ : Hp} {mb : Nat} {M : AM}
theorem ev_goRemove_21 (hI : isP σ 21 mb M) (hV : Inv M) (hm : mb + 121 ≤ 242) {p : Nat} (hp : p < M.1) : Ev 111 [rMo, rP 21, .inl (nI mb), .inl (nI p)] σ (fun r σ' => r = some (.inl (nI (M.2.2.1 p))) ∧ frP 21 mb σ σ' ∧ isP σ' 21 mb (outM M p)) := by
  have hw := hV.1
  have hn := hw.1
  have hlow := hV.low
  have htop := low_top hlow
  obtain ⟨o1, o2, o3, o4, o5⟩ := outP_ok hV.2 hp
  obtain ⟨i0, hi0, ht0⟩ := topF_at M.2.2.2 M.1 (by omega)
  generalize hxe : outP M p = x at *
  have shift : ∀ (K V T' : Nat → Nat) (m i : Nat) (x6 : Int32) (σ1 : Hp), x6 = nI (i + 1) → i + 1 + m = M.1 → x ≤ i → σ1.1 21 0 mb = nI M.1 → pD σ1 21 mb 1 M.1 i x K → pD σ1 21 mb 41 M.1 i x V → pD σ1 21 mb 81 M.1 i x T' → frP 21 mb σ σ1 →
      RR 111 132 [some rMo, some (rP 21), some (.inl (nI mb)), some (.inl (nI p)), some (.inl (nI (M.2.2.1 p))), some (.inl (nI x)), some (.inl x6)] [] σ1 (fun r σ' => r = some (.inl (nI (M.2.2.1 p))) ∧ frP 21 mb σ σ' ∧ isP σ' 21 mb (M.1 - 1, delF K x, delF V x, delF T' x)) := by
    intro K V T' m
    induction m with
    | zero =>
      intro i x6 σ1 hx6 hi hxi hs h1 h41 h81 hf
      refine G_ald rfl mb rfl (by omega) (by decide) ?_
      rw [hs]
      refine G_if rfl (fun q => ?_) (fun q => ?_)
      · refine G_ald rfl mb rfl (by omega) (by decide) ?_
        refine G_ast rfl mb rfl (by omega) (by decide) ?_
        rw [hs, lm1 (by omega)]
        refine G_ret rfl ⟨rfl, hf.st (by decide) (by omega), ?_, fun y hy => ?_⟩
        · show hset σ1.1 21 0 mb (nI (M.1 - 1)) 21 0 mb = _
          unfold hset
          rw [if_pos ⟨rfl, rfl, rfl⟩]
        · have hy : y < M.1 - 1 := hy
          show hset σ1.1 21 0 mb (nI (M.1 - 1)) 21 0 (mb + 1 + y) = _ ∧ hset σ1.1 21 0 mb (nI (M.1 - 1)) 21 0 (mb + 41 + y) = _ ∧ hset σ1.1 21 0 mb (nI (M.1 - 1)) 21 0 (mb + 81 + y) = _
          unfold hset
          rw [if_neg (by omega), if_neg (by omega), if_neg (by omega)]
          exact ⟨h1.1 y (by omega), h41.1 y (by omega), h81.1 y (by omega)⟩
      · rw [hx6] at q
        exact absurd (nle q (by omega) (by omega)) (by omega)
    | succ m ih =>
      intro i x6 σ1 hx6 hi hxi hs h1 h41 h81 hf
      refine G_ald rfl mb rfl (by omega) (by decide) ?_
      rw [hs]
      refine G_if rfl (fun q => ?_) (fun q => ?_)
      · rw [hx6] at q
        exact absurd (ile q (by omega) (by omega)) (by omega)
      · refine G_callv rfl (by rw [hx6, nI_pred]) (ev_move_21 (σ := σ1) hm (t := i) (f := i + 1) (by omega) (by omega)) ?_
        rintro r1 σ2 ⟨rfl, hf2, hmb, hxx⟩
        refine G_to [132] rfl ?_
        refine ih (i + 1) _ σ2 (by rw [hx6]; exact nI_1 _) (by omega) (by omega) (by rw [hmb]; exact hs) ⟨fun y hy => ?_, fun y hy hy2 => ?_⟩ ⟨fun y hy => ?_, fun y hy hy2 => ?_⟩ ⟨fun y hy => ?_, fun y hy hy2 => ?_⟩ (hf.tr hf2)
        · rw [(hxx y (by omega)).1]
          by_cases hyy : y = i
          · rw [if_pos hyy, hyy, delF, if_neg (by omega)]
            exact h1.2 _ (by omega) (by omega)
          · rw [if_neg hyy]
            exact h1.1 y (by omega)
        · rw [(hxx y (by omega)).1, if_neg (by omega)]
          exact h1.2 y (by omega) hy2
        · rw [(hxx y (by omega)).2.1]
          by_cases hyy : y = i
          · rw [if_pos hyy, hyy, delF, if_neg (by omega)]
            exact h41.2 _ (by omega) (by omega)
          · rw [if_neg hyy]
            exact h41.1 y (by omega)
        · rw [(hxx y (by omega)).2.1, if_neg (by omega)]
          exact h41.2 y (by omega) hy2
        · rw [(hxx y (by omega)).2.2]
          by_cases hyy : y = i
          · rw [if_pos hyy, hyy, delF, if_neg (by omega)]
            exact h81.2 _ (by omega) (by omega)
          · rw [if_neg hyy]
            exact h81.1 y (by omega)
        · rw [(hxx y (by omega)).2.2, if_neg (by omega)]
          exact h81.2 y (by omega) hy2
  have hdl : ∀ (f : Nat → Nat) (y : Nat), y < x → delF f x y = f y := fun f y hy => by simp [delF, hy]
  have lev : ∀ (K V : Nat → Nat) (l : Nat) (x6 : Int32) (σ1 : Hp) (T : Nat → Nat), x6 = nI l → l ≤ 40 → (∀ i, i < M.1 → T i ≤ 40) → LB M.1 T → T x = 0 → (l = 0 ∨ ∃ i, i < M.1 ∧ l ≤ T i) → J2 M.1 T x (l + 1) → isP σ1 21 mb (M.1, K, V, T) → frP 21 mb σ σ1 →
      RR 111 70 [some rMo, some (rP 21), some (.inl (nI mb)), some (.inl (nI p)), some (.inl (nI (M.2.2.1 p))), some (.inl (nI x)), some (.inl x6)] [] σ1 (fun r σ' => r = some (.inl (nI (M.2.2.1 p))) ∧ frP 21 mb σ σ' ∧ isP σ' 21 mb (M.1 - 1, delF K x, delF V x, delF (helpL M.1 x l T) x)) := by
    intro K V l
    induction l with
    | zero =>
      intro x6 σ1 T hx6 hl hT hLB hTx hex hJ hI1 hf
      refine G_if rfl (fun q => ?_) (fun q => ?_)
      · refine G_to [132] rfl ?_
        exact shift K V T (M.1 - (x + 1)) x _ σ1 (nI_1 x) (by omega) (Nat.le_refl _) hI1.1 ⟨fun y hy => by rw [hdl _ _ hy]; exact (hI1.2 y (by show y < M.1; omega)).1, fun y h1 h2 => (hI1.2 y h2).1⟩ ⟨fun y hy => by rw [hdl _ _ hy]; exact (hI1.2 y (by show y < M.1; omega)).2.1, fun y h1 h2 => (hI1.2 y h2).2.1⟩ ⟨fun y hy => by rw [hdl _ _ hy]; exact (hI1.2 y (by show y < M.1; omega)).2.2, fun y h1 h2 => (hI1.2 y h2).2.2⟩ hf
      · exact absurd (by rw [hx6]; exact nI_le (Nat.le_refl 0) (by decide)) q
    | succ l ih =>
      intro x6 σ1 T hx6 hl hT hLB hTx hex hJ hI1 hf
      have hw1 : wfT (M.1, K, V, T) := ⟨hw.1, fun i hi => by have := hT i hi; show T i < 64; omega⟩
      have hex' : ∃ i, i < M.1 ∧ l + 1 ≤ T i := by
        rcases hex with q | q
        · omega
        · exact q
      obtain ⟨s1, s2, s3, s4, s5⟩ := help_step hLB (by omega) o1 hTx hex' hJ
      have ha := ahF_le T (l + 1) x
      have hb := bhF_le T (l + 1) (Nat.le_of_lt o1)
      have hc := cntF_le T l (bhF M.1 T (l + 1) x - ahF T (l + 1) x) (ahF T (l + 1) x)
      refine G_if rfl (fun q => ?_) (fun q => ?_)
      · rw [hx6] at q
        exact absurd (ile (b := 0) q (by omega) (by decide)) (by omega)
      · refine G_callv rfl (by rw [hx6, nI_1]) (ev_layGap_21 hI1 hw1 hm (l := l + 1) (q := x) (f := x + 1) (by omega) (by show x ≤ M.1; omega) (by show x + 1 ≤ M.1; omega)) ?_
        rintro r1 σ2 ⟨rfl, hf2, h21, h22⟩
        have h22 : σ2.1 6 0 22 = nI (bhF M.1 T (l + 1) x) := by
          rw [h22]
          show nI (bhF M.1 T (l + 1) (x + 1)) = _
          rw [bhF_skip o1 (by omega)]
        have hI2 := hf2.is (by decide) hI1
        refine G_callv rfl (by rw [h21, h22, hx6, nI_pred]) (ev_between_21 hI2 hw1 hm (a := ahF T (l + 1) x) (b := bhF M.1 T (l + 1) x) (h := l) hb.2 (by show ahF T (l + 1) x ≤ M.1; omega) (by omega)) ?_
        rintro r1 σ3 ⟨rfl, rfl⟩
        refine G_if rfl (fun q2 => ?_) (fun q2 => ?_)
        · have q2 : ¬ cntF T l (bhF M.1 T (l + 1) x - ahF T (l + 1) x) (ahF T (l + 1) x) = 1 := fun e => q2 (by show nI (cntF T l (bhF M.1 T (l + 1) x - ahF T (l + 1) x) (ahF T (l + 1) x)) = 1; rw [e]; rfl)
          refine G_to [70] rfl ?_
          have e : helpF M.1 T (l + 1) x = T := by
            rw [helpF]
            exact if_neg q2
          rw [e] at s1 s2 s3 s4
          rw [helpL, e]
          exact ih _ σ3 T (by rw [hx6]; exact pk_m1 l) (by omega) hT s1 s2 (Or.inr s3) s4 hI2 (hf.tr (hf2.p (by decide)))
        · have q2 : cntF T l (bhF M.1 T (l + 1) x - ahF T (l + 1) x) (ahF T (l + 1) x) = 1 := ieq (b := 1) (Classical.not_not.mp q2) (by show cntF T l _ _ < _; omega) (by decide)
          refine G_callv rfl (by rw [hx6]) (ev_help_21 hI2 hw1 hm (l := l + 1) (x := x) (by omega) (by omega) (by show x ≤ M.1; omega) h21 h22 q2 (s5 q2) hLB) ?_
          rintro r1 σ4 ⟨rfl, hf4, hI4⟩
          refine G_to [70] rfl ?_
          rw [helpL]
          exact ih _ σ4 _ (by rw [hx6]; exact pk_m1 l) (by omega) (helpF_le (by omega) (by omega) hT (by omega)) s1 s2 (Or.inr s3) s4 hI4 ((hf.tr (hf2.p (by decide))).tr hf4)
  have start : ∀ (K V : Nat → Nat) (σ1 : Hp) (x5 : Int32), x5 = nI x → isP σ1 21 mb (M.1, K, V, M.2.2.2) → frP 21 mb σ σ1 → RR 111 61 [some rMo, some (rP 21), some (.inl (nI mb)), some (.inl (nI p)), some (.inl (nI (M.2.2.1 p))), some (.inl x5), none] [] σ1 (fun r σ' => r = some (.inl (nI (M.2.2.1 p))) ∧ frP 21 mb σ σ' ∧ isP σ' 21 mb (M.1 - 1, delF K x, delF V x, delF (helpL M.1 x (topF M.2.2.2 M.1 - 1) M.2.2.2) x)) := by
    intro K V σ1 x5 hx5 hI1 hf
    subst hx5
    refine G_call rfl (ev_ptop_21 hI1 ⟨hn, hw.t.2⟩ hm) ?_
    rintro r1 σ2 ⟨rfl, rfl⟩
    refine G_to [70] rfl ?_
    refine lev K V _ _ _ M.2.2.2 (lm1 (by show 1 ≤ topF M.2.2.2 M.1; omega)) (by omega) (fun i hi => by have := hlow i hi; omega) hV.2 o2 (Or.inr ⟨i0, hi0, by omega⟩) (fun hex => ?_) hI1 hf
    obtain ⟨i, hi, hi2⟩ := hex
    have := topF_ge M.2.2.2 M.1 i hi
    omega
  refine G_ald rfl (mb + 41 + p) (ix41 mb p) (by omega) (by decide) ?_
  rw [(hI.2 p hp).2.1]
  refine G_ald rfl (mb + 81 + p) (ix81 mb p) (by omega) (by decide) ?_
  rw [(hI.2 p hp).2.2]
  have hTp := hlow p hp
  refine G_if rfl (fun q => ?_) (fun q => ?_)
  · have q := ile (b := 0) q (by omega) (by decide)
    have e := o5 (by omega)
    refine (start M.2.1 M.2.2.1 σ _ (by rw [e]) hI (frP.rf _ _ _)).mono ?_
    rintro r σ' ⟨k1, k2, k3⟩
    refine ⟨k1, k2, ?_⟩
    unfold outM
    rw [hxe]
    rw [e] at k3 ⊢
    exact k3
  · have q := nle (b := 0) q (by omega) (by decide)
    have e := o4 q
    refine G_ald rfl (mb + 1 + (p + 1)) (by rw [nI_1 p]; exact ix1 mb (p + 1)) (by omega) (by decide) ?_
    refine G_ast rfl (mb + 1 + p) (ix1 mb p) (by omega) (by decide) ?_
    refine G_ald rfl (mb + 41 + (p + 1)) (by rw [nI_1 p]; exact ix41 mb (p + 1)) (by omega) (by decide) ?_
    refine G_ast rfl (mb + 41 + p) (ix41 mb p) (by omega) (by decide) ?_
    refine (start (upN M.2.1 p (M.2.1 (p + 1))) (upN M.2.2.1 p (M.2.2.1 (p + 1))) (hset (hset σ.1 21 0 (mb + 1 + p) (σ.1 21 0 (mb + 1 + (p + 1)))) 21 0 (mb + 41 + p) (hset σ.1 21 0 (mb + 1 + p) (σ.1 21 0 (mb + 1 + (p + 1))) 21 0 (mb + 41 + (p + 1))), σ.2) (nI p + 1) (by rw [nI_1, e]) ⟨?_, fun i hi => ?_⟩ (((frP.rf _ _ _).st (by decide) (by omega)).st (by decide) (by omega))).mono ?_
    · show hset (hset σ.1 21 0 (mb + 1 + p) _) 21 0 (mb + 41 + p) _ 21 0 mb = _
      unfold hset
      rw [if_neg (by omega), if_neg (by omega)]
      exact hI.1
    · have hi : i < M.1 := hi
      obtain ⟨a1, a2, a3⟩ := hI.2 i hi
      obtain ⟨b1, b2, b3⟩ := hI.2 (p + 1) (by omega)
      have e41 : hset σ.1 21 0 (mb + 1 + p) (σ.1 21 0 (mb + 1 + (p + 1))) 21 0 (mb + 41 + (p + 1)) = nI (M.2.2.1 (p + 1)) := by
        unfold hset
        rw [if_neg (by omega)]
        exact b2
      show hset (hset σ.1 21 0 (mb + 1 + p) (σ.1 21 0 (mb + 1 + (p + 1)))) 21 0 (mb + 41 + p) (hset σ.1 21 0 (mb + 1 + p) (σ.1 21 0 (mb + 1 + (p + 1))) 21 0 (mb + 41 + (p + 1))) 21 0 (mb + 1 + i) = nI (upN M.2.1 p (M.2.1 (p + 1)) i) ∧ hset (hset σ.1 21 0 (mb + 1 + p) (σ.1 21 0 (mb + 1 + (p + 1)))) 21 0 (mb + 41 + p) (hset σ.1 21 0 (mb + 1 + p) (σ.1 21 0 (mb + 1 + (p + 1))) 21 0 (mb + 41 + (p + 1))) 21 0 (mb + 41 + i) = nI (upN M.2.2.1 p (M.2.2.1 (p + 1)) i) ∧ hset (hset σ.1 21 0 (mb + 1 + p) (σ.1 21 0 (mb + 1 + (p + 1)))) 21 0 (mb + 41 + p) (hset σ.1 21 0 (mb + 1 + p) (σ.1 21 0 (mb + 1 + (p + 1))) 21 0 (mb + 41 + (p + 1))) 21 0 (mb + 81 + i) = nI (M.2.2.2 i)
      rw [e41, b1]
      unfold hset upN
      refine ⟨?_, ?_, ?_⟩
      · rw [if_neg (by omega)]
        by_cases hip : i = p
        · rw [if_pos (by omega), if_pos hip]
        · rw [if_neg (by omega), if_neg hip]
          exact a1
      · by_cases hip : i = p
        · rw [if_pos (by omega), if_pos hip]
        · rw [if_neg (by omega), if_neg (by omega), if_neg hip]
          exact a2
      · rw [if_neg (by omega), if_neg (by omega)]
        exact a3
    · rintro r σ' ⟨k1, k2, k3⟩
      refine ⟨k1, k2, ?_⟩
      unfold outM
      rw [hxe]
      rw [e] at k3 ⊢
      rw [del_up, del_up] at k3
      exact k3
theorem ev_goRemove_22 (hI : isP σ 22 mb M) (hV : Inv M) (hm : mb + 121 ≤ 242) {p : Nat} (hp : p < M.1) : Ev 111 [rMo, rP 22, .inl (nI mb), .inl (nI p)] σ (fun r σ' => r = some (.inl (nI (M.2.2.1 p))) ∧ frP 22 mb σ σ' ∧ isP σ' 22 mb (outM M p)) := by
  have hw := hV.1
  have hn := hw.1
  have hlow := hV.low
  have htop := low_top hlow
  obtain ⟨o1, o2, o3, o4, o5⟩ := outP_ok hV.2 hp
  obtain ⟨i0, hi0, ht0⟩ := topF_at M.2.2.2 M.1 (by omega)
  generalize hxe : outP M p = x at *
  have shift : ∀ (K V T' : Nat → Nat) (m i : Nat) (x6 : Int32) (σ1 : Hp), x6 = nI (i + 1) → i + 1 + m = M.1 → x ≤ i → σ1.1 22 0 mb = nI M.1 → pD σ1 22 mb 1 M.1 i x K → pD σ1 22 mb 41 M.1 i x V → pD σ1 22 mb 81 M.1 i x T' → frP 22 mb σ σ1 →
      RR 111 132 [some rMo, some (rP 22), some (.inl (nI mb)), some (.inl (nI p)), some (.inl (nI (M.2.2.1 p))), some (.inl (nI x)), some (.inl x6)] [] σ1 (fun r σ' => r = some (.inl (nI (M.2.2.1 p))) ∧ frP 22 mb σ σ' ∧ isP σ' 22 mb (M.1 - 1, delF K x, delF V x, delF T' x)) := by
    intro K V T' m
    induction m with
    | zero =>
      intro i x6 σ1 hx6 hi hxi hs h1 h41 h81 hf
      refine G_ald rfl mb rfl (by omega) (by decide) ?_
      rw [hs]
      refine G_if rfl (fun q => ?_) (fun q => ?_)
      · refine G_ald rfl mb rfl (by omega) (by decide) ?_
        refine G_ast rfl mb rfl (by omega) (by decide) ?_
        rw [hs, lm1 (by omega)]
        refine G_ret rfl ⟨rfl, hf.st (by decide) (by omega), ?_, fun y hy => ?_⟩
        · show hset σ1.1 22 0 mb (nI (M.1 - 1)) 22 0 mb = _
          unfold hset
          rw [if_pos ⟨rfl, rfl, rfl⟩]
        · have hy : y < M.1 - 1 := hy
          show hset σ1.1 22 0 mb (nI (M.1 - 1)) 22 0 (mb + 1 + y) = _ ∧ hset σ1.1 22 0 mb (nI (M.1 - 1)) 22 0 (mb + 41 + y) = _ ∧ hset σ1.1 22 0 mb (nI (M.1 - 1)) 22 0 (mb + 81 + y) = _
          unfold hset
          rw [if_neg (by omega), if_neg (by omega), if_neg (by omega)]
          exact ⟨h1.1 y (by omega), h41.1 y (by omega), h81.1 y (by omega)⟩
      · rw [hx6] at q
        exact absurd (nle q (by omega) (by omega)) (by omega)
    | succ m ih =>
      intro i x6 σ1 hx6 hi hxi hs h1 h41 h81 hf
      refine G_ald rfl mb rfl (by omega) (by decide) ?_
      rw [hs]
      refine G_if rfl (fun q => ?_) (fun q => ?_)
      · rw [hx6] at q
        exact absurd (ile q (by omega) (by omega)) (by omega)
      · refine G_callv rfl (by rw [hx6, nI_pred]) (ev_move_22 (σ := σ1) hm (t := i) (f := i + 1) (by omega) (by omega)) ?_
        rintro r1 σ2 ⟨rfl, hf2, hmb, hxx⟩
        refine G_to [132] rfl ?_
        refine ih (i + 1) _ σ2 (by rw [hx6]; exact nI_1 _) (by omega) (by omega) (by rw [hmb]; exact hs) ⟨fun y hy => ?_, fun y hy hy2 => ?_⟩ ⟨fun y hy => ?_, fun y hy hy2 => ?_⟩ ⟨fun y hy => ?_, fun y hy hy2 => ?_⟩ (hf.tr hf2)
        · rw [(hxx y (by omega)).1]
          by_cases hyy : y = i
          · rw [if_pos hyy, hyy, delF, if_neg (by omega)]
            exact h1.2 _ (by omega) (by omega)
          · rw [if_neg hyy]
            exact h1.1 y (by omega)
        · rw [(hxx y (by omega)).1, if_neg (by omega)]
          exact h1.2 y (by omega) hy2
        · rw [(hxx y (by omega)).2.1]
          by_cases hyy : y = i
          · rw [if_pos hyy, hyy, delF, if_neg (by omega)]
            exact h41.2 _ (by omega) (by omega)
          · rw [if_neg hyy]
            exact h41.1 y (by omega)
        · rw [(hxx y (by omega)).2.1, if_neg (by omega)]
          exact h41.2 y (by omega) hy2
        · rw [(hxx y (by omega)).2.2]
          by_cases hyy : y = i
          · rw [if_pos hyy, hyy, delF, if_neg (by omega)]
            exact h81.2 _ (by omega) (by omega)
          · rw [if_neg hyy]
            exact h81.1 y (by omega)
        · rw [(hxx y (by omega)).2.2, if_neg (by omega)]
          exact h81.2 y (by omega) hy2
  have hdl : ∀ (f : Nat → Nat) (y : Nat), y < x → delF f x y = f y := fun f y hy => by simp [delF, hy]
  have lev : ∀ (K V : Nat → Nat) (l : Nat) (x6 : Int32) (σ1 : Hp) (T : Nat → Nat), x6 = nI l → l ≤ 40 → (∀ i, i < M.1 → T i ≤ 40) → LB M.1 T → T x = 0 → (l = 0 ∨ ∃ i, i < M.1 ∧ l ≤ T i) → J2 M.1 T x (l + 1) → isP σ1 22 mb (M.1, K, V, T) → frP 22 mb σ σ1 →
      RR 111 70 [some rMo, some (rP 22), some (.inl (nI mb)), some (.inl (nI p)), some (.inl (nI (M.2.2.1 p))), some (.inl (nI x)), some (.inl x6)] [] σ1 (fun r σ' => r = some (.inl (nI (M.2.2.1 p))) ∧ frP 22 mb σ σ' ∧ isP σ' 22 mb (M.1 - 1, delF K x, delF V x, delF (helpL M.1 x l T) x)) := by
    intro K V l
    induction l with
    | zero =>
      intro x6 σ1 T hx6 hl hT hLB hTx hex hJ hI1 hf
      refine G_if rfl (fun q => ?_) (fun q => ?_)
      · refine G_to [132] rfl ?_
        exact shift K V T (M.1 - (x + 1)) x _ σ1 (nI_1 x) (by omega) (Nat.le_refl _) hI1.1 ⟨fun y hy => by rw [hdl _ _ hy]; exact (hI1.2 y (by show y < M.1; omega)).1, fun y h1 h2 => (hI1.2 y h2).1⟩ ⟨fun y hy => by rw [hdl _ _ hy]; exact (hI1.2 y (by show y < M.1; omega)).2.1, fun y h1 h2 => (hI1.2 y h2).2.1⟩ ⟨fun y hy => by rw [hdl _ _ hy]; exact (hI1.2 y (by show y < M.1; omega)).2.2, fun y h1 h2 => (hI1.2 y h2).2.2⟩ hf
      · exact absurd (by rw [hx6]; exact nI_le (Nat.le_refl 0) (by decide)) q
    | succ l ih =>
      intro x6 σ1 T hx6 hl hT hLB hTx hex hJ hI1 hf
      have hw1 : wfT (M.1, K, V, T) := ⟨hw.1, fun i hi => by have := hT i hi; show T i < 64; omega⟩
      have hex' : ∃ i, i < M.1 ∧ l + 1 ≤ T i := by
        rcases hex with q | q
        · omega
        · exact q
      obtain ⟨s1, s2, s3, s4, s5⟩ := help_step hLB (by omega) o1 hTx hex' hJ
      have ha := ahF_le T (l + 1) x
      have hb := bhF_le T (l + 1) (Nat.le_of_lt o1)
      have hc := cntF_le T l (bhF M.1 T (l + 1) x - ahF T (l + 1) x) (ahF T (l + 1) x)
      refine G_if rfl (fun q => ?_) (fun q => ?_)
      · rw [hx6] at q
        exact absurd (ile (b := 0) q (by omega) (by decide)) (by omega)
      · refine G_callv rfl (by rw [hx6, nI_1]) (ev_layGap_22 hI1 hw1 hm (l := l + 1) (q := x) (f := x + 1) (by omega) (by show x ≤ M.1; omega) (by show x + 1 ≤ M.1; omega)) ?_
        rintro r1 σ2 ⟨rfl, hf2, h21, h22⟩
        have h22 : σ2.1 6 0 22 = nI (bhF M.1 T (l + 1) x) := by
          rw [h22]
          show nI (bhF M.1 T (l + 1) (x + 1)) = _
          rw [bhF_skip o1 (by omega)]
        have hI2 := hf2.is (by decide) hI1
        refine G_callv rfl (by rw [h21, h22, hx6, nI_pred]) (ev_between_22 hI2 hw1 hm (a := ahF T (l + 1) x) (b := bhF M.1 T (l + 1) x) (h := l) hb.2 (by show ahF T (l + 1) x ≤ M.1; omega) (by omega)) ?_
        rintro r1 σ3 ⟨rfl, rfl⟩
        refine G_if rfl (fun q2 => ?_) (fun q2 => ?_)
        · have q2 : ¬ cntF T l (bhF M.1 T (l + 1) x - ahF T (l + 1) x) (ahF T (l + 1) x) = 1 := fun e => q2 (by show nI (cntF T l (bhF M.1 T (l + 1) x - ahF T (l + 1) x) (ahF T (l + 1) x)) = 1; rw [e]; rfl)
          refine G_to [70] rfl ?_
          have e : helpF M.1 T (l + 1) x = T := by
            rw [helpF]
            exact if_neg q2
          rw [e] at s1 s2 s3 s4
          rw [helpL, e]
          exact ih _ σ3 T (by rw [hx6]; exact pk_m1 l) (by omega) hT s1 s2 (Or.inr s3) s4 hI2 (hf.tr (hf2.p (by decide)))
        · have q2 : cntF T l (bhF M.1 T (l + 1) x - ahF T (l + 1) x) (ahF T (l + 1) x) = 1 := ieq (b := 1) (Classical.not_not.mp q2) (by show cntF T l _ _ < _; omega) (by decide)
          refine G_callv rfl (by rw [hx6]) (ev_help_22 hI2 hw1 hm (l := l + 1) (x := x) (by omega) (by omega) (by show x ≤ M.1; omega) h21 h22 q2 (s5 q2) hLB) ?_
          rintro r1 σ4 ⟨rfl, hf4, hI4⟩
          refine G_to [70] rfl ?_
          rw [helpL]
          exact ih _ σ4 _ (by rw [hx6]; exact pk_m1 l) (by omega) (helpF_le (by omega) (by omega) hT (by omega)) s1 s2 (Or.inr s3) s4 hI4 ((hf.tr (hf2.p (by decide))).tr hf4)
  have start : ∀ (K V : Nat → Nat) (σ1 : Hp) (x5 : Int32), x5 = nI x → isP σ1 22 mb (M.1, K, V, M.2.2.2) → frP 22 mb σ σ1 → RR 111 61 [some rMo, some (rP 22), some (.inl (nI mb)), some (.inl (nI p)), some (.inl (nI (M.2.2.1 p))), some (.inl x5), none] [] σ1 (fun r σ' => r = some (.inl (nI (M.2.2.1 p))) ∧ frP 22 mb σ σ' ∧ isP σ' 22 mb (M.1 - 1, delF K x, delF V x, delF (helpL M.1 x (topF M.2.2.2 M.1 - 1) M.2.2.2) x)) := by
    intro K V σ1 x5 hx5 hI1 hf
    subst hx5
    refine G_call rfl (ev_ptop_22 hI1 ⟨hn, hw.t.2⟩ hm) ?_
    rintro r1 σ2 ⟨rfl, rfl⟩
    refine G_to [70] rfl ?_
    refine lev K V _ _ _ M.2.2.2 (lm1 (by show 1 ≤ topF M.2.2.2 M.1; omega)) (by omega) (fun i hi => by have := hlow i hi; omega) hV.2 o2 (Or.inr ⟨i0, hi0, by omega⟩) (fun hex => ?_) hI1 hf
    obtain ⟨i, hi, hi2⟩ := hex
    have := topF_ge M.2.2.2 M.1 i hi
    omega
  refine G_ald rfl (mb + 41 + p) (ix41 mb p) (by omega) (by decide) ?_
  rw [(hI.2 p hp).2.1]
  refine G_ald rfl (mb + 81 + p) (ix81 mb p) (by omega) (by decide) ?_
  rw [(hI.2 p hp).2.2]
  have hTp := hlow p hp
  refine G_if rfl (fun q => ?_) (fun q => ?_)
  · have q := ile (b := 0) q (by omega) (by decide)
    have e := o5 (by omega)
    refine (start M.2.1 M.2.2.1 σ _ (by rw [e]) hI (frP.rf _ _ _)).mono ?_
    rintro r σ' ⟨k1, k2, k3⟩
    refine ⟨k1, k2, ?_⟩
    unfold outM
    rw [hxe]
    rw [e] at k3 ⊢
    exact k3
  · have q := nle (b := 0) q (by omega) (by decide)
    have e := o4 q
    refine G_ald rfl (mb + 1 + (p + 1)) (by rw [nI_1 p]; exact ix1 mb (p + 1)) (by omega) (by decide) ?_
    refine G_ast rfl (mb + 1 + p) (ix1 mb p) (by omega) (by decide) ?_
    refine G_ald rfl (mb + 41 + (p + 1)) (by rw [nI_1 p]; exact ix41 mb (p + 1)) (by omega) (by decide) ?_
    refine G_ast rfl (mb + 41 + p) (ix41 mb p) (by omega) (by decide) ?_
    refine (start (upN M.2.1 p (M.2.1 (p + 1))) (upN M.2.2.1 p (M.2.2.1 (p + 1))) (hset (hset σ.1 22 0 (mb + 1 + p) (σ.1 22 0 (mb + 1 + (p + 1)))) 22 0 (mb + 41 + p) (hset σ.1 22 0 (mb + 1 + p) (σ.1 22 0 (mb + 1 + (p + 1))) 22 0 (mb + 41 + (p + 1))), σ.2) (nI p + 1) (by rw [nI_1, e]) ⟨?_, fun i hi => ?_⟩ (((frP.rf _ _ _).st (by decide) (by omega)).st (by decide) (by omega))).mono ?_
    · show hset (hset σ.1 22 0 (mb + 1 + p) _) 22 0 (mb + 41 + p) _ 22 0 mb = _
      unfold hset
      rw [if_neg (by omega), if_neg (by omega)]
      exact hI.1
    · have hi : i < M.1 := hi
      obtain ⟨a1, a2, a3⟩ := hI.2 i hi
      obtain ⟨b1, b2, b3⟩ := hI.2 (p + 1) (by omega)
      have e41 : hset σ.1 22 0 (mb + 1 + p) (σ.1 22 0 (mb + 1 + (p + 1))) 22 0 (mb + 41 + (p + 1)) = nI (M.2.2.1 (p + 1)) := by
        unfold hset
        rw [if_neg (by omega)]
        exact b2
      show hset (hset σ.1 22 0 (mb + 1 + p) (σ.1 22 0 (mb + 1 + (p + 1)))) 22 0 (mb + 41 + p) (hset σ.1 22 0 (mb + 1 + p) (σ.1 22 0 (mb + 1 + (p + 1))) 22 0 (mb + 41 + (p + 1))) 22 0 (mb + 1 + i) = nI (upN M.2.1 p (M.2.1 (p + 1)) i) ∧ hset (hset σ.1 22 0 (mb + 1 + p) (σ.1 22 0 (mb + 1 + (p + 1)))) 22 0 (mb + 41 + p) (hset σ.1 22 0 (mb + 1 + p) (σ.1 22 0 (mb + 1 + (p + 1))) 22 0 (mb + 41 + (p + 1))) 22 0 (mb + 41 + i) = nI (upN M.2.2.1 p (M.2.2.1 (p + 1)) i) ∧ hset (hset σ.1 22 0 (mb + 1 + p) (σ.1 22 0 (mb + 1 + (p + 1)))) 22 0 (mb + 41 + p) (hset σ.1 22 0 (mb + 1 + p) (σ.1 22 0 (mb + 1 + (p + 1))) 22 0 (mb + 41 + (p + 1))) 22 0 (mb + 81 + i) = nI (M.2.2.2 i)
      rw [e41, b1]
      unfold hset upN
      refine ⟨?_, ?_, ?_⟩
      · rw [if_neg (by omega)]
        by_cases hip : i = p
        · rw [if_pos (by omega), if_pos hip]
        · rw [if_neg (by omega), if_neg hip]
          exact a1
      · by_cases hip : i = p
        · rw [if_pos (by omega), if_pos hip]
        · rw [if_neg (by omega), if_neg (by omega), if_neg hip]
          exact a2
      · rw [if_neg (by omega), if_neg (by omega)]
        exact a3
    · rintro r σ' ⟨k1, k2, k3⟩
      refine ⟨k1, k2, ?_⟩
      unfold outM
      rw [hxe]
      rw [e] at k3 ⊢
      rw [del_up, del_up] at k3
      exact k3
end MO
end
section
/-! The model: a search, all looks. -/
theorem lkI_skip (K T : Nat → Nat) (key l : Nat) : ∀ (m i hr c : Nat), lkI K T key l m i hr c = (if scn (fun i => decide (T i < l)) m i = i + m then (false, hr, c) else if K (scn (fun i => decide (T i < l)) m i) = key then (true, hr, c + 1) else if key < K (scn (fun i => decide (T i < l)) m i) then (false, hr, c + 1) else lkI K T key l (i + m - (scn (fun i => decide (T i < l)) m i + 1)) (scn (fun i => decide (T i < l)) m i + 1) (scn (fun i => decide (T i < l)) m i + 1) (c + 1))
  | 0, i, hr, c => by simp [lkI, scn]
  | m + 1, i, hr, c => by
    by_cases hT : T i < l
    · rw [scn_t (by simpa using hT), show i + (m + 1) = i + 1 + m by omega, ← lkI_skip K T key l m (i + 1) hr c, lkI, if_pos hT]
    · rw [scn_f (by simpa using hT), if_neg (by omega), lkI, if_neg hT, show i + (m + 1) - (i + 1) = m by omega]
def slF (M : AM) : Nat → Nat → Nat → Nat
  | 0, _, s => s
  | m + 1, i, s => slF M m (i + 1) (s + (looksF M (M.2.1 i)).2)
def b2i (b : Bool) : Int32 := match b with
  | true => 1
  | false => 0
section MO
variable {σ : Hp} {mb : Nat} {M : AM}
theorem ev_search_21 (hI : isP σ 21 mb M) (hw : wfM M) (hm : mb + 121 ≤ 242) {key : Nat} (hk : key < 2147483648) : Ev 119 [rMo, rP 21, .inl (nI mb), .inl (nI key)] σ (fun r σ' => r = some (.inl (nI (looksF M key).2)) ∧ frS σ σ' ∧ σ'.1 6 0 20 = b2i (looksF M key).1) := by
  have hn := hw.1
  have htop : topF M.2.2.2 M.1 ≤ 64 := topF_le _ hw.t.2
  have loop : ∀ (N lv hr c : Nat) (x4 x5 x6 : Int32) (x7 x8 : Option PV) (σ1 : Hp), lv * 41 + (M.1 - hr) < N → lv ≤ 64 → hr ≤ M.1 → x4 = nI c → x5 = nI hr - 1 → x6 = nI lv - 1 → σ1.1 6 0 20 = 0 → frS σ σ1 →
      RR 119 20 [some rMo, some (rP 21), some (.inl (nI mb)), some (.inl (nI key)), some (.inl x4), some (.inl x5), some (.inl x6), x7, x8] [] σ1 (fun r σ' => r = some (.inl (nI (lkO M.2.1 M.2.2.2 M.1 key lv hr c).2)) ∧ frS σ σ' ∧ σ'.1 6 0 20 = b2i (lkO M.2.1 M.2.2.2 M.1 key lv hr c).1) := by
    intro N
    induction N with
    | zero =>
      intro lv hr c x4 x5 x6 x7 x8 σ1 h0
      omega
    | succ N ih =>
      intro lv hr c x4 x5 x6 x7 x8 σ1 hN hlv hhr hx4 hx5 hx6 h20 hf
      have hI1 := hf.is (by decide) hI
      cases lv with
      | zero =>
        refine G_if rfl (fun q => ?_) (fun q => ?_)
        · exact G_ret rfl ⟨by rw [hx4]; rfl, hf, by rw [h20]; rfl⟩
        · rw [hx6] at q
          exact absurd ((im1_lt (by omega)).mpr rfl) q
      | succ l =>
        have hb := bhF_le M.2.2.2 l hhr
        have hsk := lkI_skip M.2.1 M.2.2.2 key l (M.1 - hr) hr hr c
        rw [show hr + (M.1 - hr) = M.1 by omega] at hsk
        change _ = (if bhF M.1 M.2.2.2 l hr = M.1 then _ else if M.2.1 (bhF M.1 M.2.2.2 l hr) = key then _ else if key < M.2.1 (bhF M.1 M.2.2.2 l hr) then _ else lkI M.2.1 M.2.2.2 key l (M.1 - (bhF M.1 M.2.2.2 l hr + 1)) (bhF M.1 M.2.2.2 l hr + 1) (bhF M.1 M.2.2.2 l hr + 1) (c + 1)) at hsk
        refine G_if rfl (fun q => ?_) (fun q => ?_)
        · rw [hx6] at q
          exact absurd ((im1_lt (by omega)).mp q) (by omega)
        · refine G_if rfl (fun q2 => ?_) (fun q2 => ?_)
          · exact absurd h20 q2
          · refine G_callv rfl (by rw [hx5, im1_add, hx6, nI_pred]) (ev_nextOn_21 hI1 hw.t hm (f := hr) (l := l) hhr (by omega)) ?_
            rintro r1 σ2 ⟨rfl, rfl⟩
            refine G_ald rfl mb rfl (by omega) (by decide) ?_
            rw [hI1.1]
            have hx6' : x6 + -1 = nI l - 1 := by rw [hx6]; exact im1_dec l
            generalize hbe : bhF M.1 M.2.2.2 l hr = b at *
            refine G_if rfl (fun q3 => ?_) (fun q3 => ?_)
            · have q3 := ile q3 (by omega) (by omega)
              refine G_if rfl (fun q4 => ?_) (fun q4 => ?_)
              · refine G_if rfl (fun q5 => ?_) (fun q5 => ?_)
                · refine G_if rfl (fun q6 => ?_) (fun q6 => ?_)
                  · refine G_to [20] rfl ?_
                    rw [lkO, hsk, if_pos (by omega)]
                    exact ih l hr c _ _ _ _ _ _ (by omega) (by omega) hhr (by rw [hx4, show (0 : Int32) = nI 0 from rfl, nI_add, Nat.add_zero]) hx5 hx6' (by simp [hset]) (hf.st (by decide))
                  · exact absurd rfl q6
                · exact absurd rfl q5
              · exact absurd rfl q4
            · have q3 := nle q3 (by omega) (by omega)
              have hK := (hw.2.1 b q3).1
              refine G_if rfl (fun q4 => ?_) (fun q4 => ?_)
              · exact absurd q4 (by decide)
              · refine G_if rfl (fun q5 => ?_) (fun q5 => ?_)
                · exact absurd q5 (by decide)
                · refine G_ald rfl (mb + 1 + b) (ix1 mb b) (by omega) (by decide) ?_
                  rw [(hI1.2 b q3).1]
                  refine G_if rfl (fun q6 => ?_) (fun q6 => ?_)
                  · have q6 : ¬ M.2.1 b = key := fun e => q6 (by rw [e])
                    refine G_if rfl (fun q7 => ?_) (fun q7 => ?_)
                    · exact absurd q7 (by decide)
                    · have hf3 : frS σ (hset σ2.1 6 0 20 0, σ2.2) := hf.st (by decide)
                      have h203 : (hset σ2.1 6 0 20 0, σ2.2).1 6 0 20 = 0 := by simp [hset]
                      have hI3 := hf3.is (by decide) hI
                      generalize (hset σ2.1 6 0 20 0, σ2.2) = σ3 at hf3 h203 hI3 ⊢
                      refine G_ald rfl (mb + 1 + b) (ix1 mb b) (by omega) (by decide) ?_
                      rw [(hI3.2 b q3).1]
                      refine G_if rfl (fun q8 => ?_) (fun q8 => ?_)
                      · have q8 := ile q8 hk (by omega)
                        refine G_to [20] rfl ?_
                        rw [lkO, hsk, if_neg (by omega), if_neg q6, if_pos (by omega)]
                        exact ih l hr (c + 1) _ _ _ _ _ _ (by omega) (by omega) hhr (by rw [hx4]; exact nI_1 c) hx5 hx6' h203 hf3
                      · have q8 := nle q8 hk (by omega)
                        refine G_to [20] rfl ?_
                        have e : lkO M.2.1 M.2.2.2 M.1 key (l + 1) hr c = lkO M.2.1 M.2.2.2 M.1 key (l + 1) (b + 1) (c + 1) := by
                          rw [lkO, lkO, hsk, if_neg (by omega), if_neg q6, if_neg (by omega)]
                        rw [e]
                        exact ih (l + 1) (b + 1) (c + 1) _ _ _ _ _ _ (by omega) (by omega) (by omega) (by rw [hx4]; exact nI_1 c) (nI_pred b).symm hx6 h203 hf3
                  · have q6 := ieq (Classical.not_not.mp q6) (by omega) hk
                    refine G_if rfl (fun q7 => ?_) (fun q7 => ?_)
                    · exact absurd q7 (by decide)
                    · have hf3 : frS σ (hset σ2.1 6 0 20 1, σ2.2) := hf.st (by decide)
                      have h203 : (hset σ2.1 6 0 20 1, σ2.2).1 6 0 20 = 1 := by simp [hset]
                      have hI3 := hf3.is (by decide) hI
                      generalize (hset σ2.1 6 0 20 1, σ2.2) = σ3 at hf3 h203 hI3 ⊢
                      refine G_ald rfl (mb + 1 + b) (ix1 mb b) (by omega) (by decide) ?_
                      rw [(hI3.2 b q3).1]
                      refine G_if rfl (fun q8 => ?_) (fun q8 => ?_)
                      · have eO : lkO M.2.1 M.2.2.2 M.1 key (l + 1) hr c = (true, c + 1) := by
                          rw [lkO, hsk, if_neg (by omega), if_pos q6]
                        rw [eO]
                        refine G_to [20] rfl ?_
                        refine G_if rfl (fun q9 => ?_) (fun q9 => ?_)
                        · exact G_ret rfl ⟨by rw [hx4, nI_1], hf3, h203⟩
                        · refine G_if rfl (fun q10 => ?_) (fun q10 => ?_)
                          · exact G_ret rfl ⟨by rw [hx4, nI_1], hf3, h203⟩
                          · rw [h203] at q10
                            exact absurd (by decide) q10
                      · exact absurd (by rw [q6]; exact nI_le (Nat.le_refl _) hk) q8
  refine G_call rfl (ev_ptop_21 hI hw.t hm) ?_
  rintro r1 σ1 ⟨rfl, rfl⟩
  refine G_to [20] rfl ?_
  exact loop (topF M.2.2.2 M.1 * 41 + (M.1 - 0) + 1) _ 0 0 _ _ _ _ _ _ (by omega) htop (Nat.zero_le _) nI_0.symm im1_neg.symm rfl (by simp [hset]) ((frS.rf _).st (by decide))
theorem ev_pallLooks_21 (hI : isP σ 21 mb M) (hw : wfM M) (hm : mb + 121 ≤ 242) : Ev 118 [rMo, rP 21, .inl (nI mb)] σ (fun r σ' => r = some (.inl (nI (slF M M.1 0 0))) ∧ frS σ σ') := by
  have hn := hw.1
  have loop : ∀ (m i s : Nat) (x3 x4 : Int32) (σ1 : Hp), x4 = nI i → i + m = M.1 → x3 = nI s → frS σ σ1 → RR 118 5 [some rMo, some (rP 21), some (.inl (nI mb)), some (.inl x3), some (.inl x4)] [] σ1 (fun r σ' => r = some (.inl (nI (slF M m i s))) ∧ frS σ σ') := by
    intro m
    induction m with
    | zero =>
      intro i s x3 x4 σ1 hx4 hi hx3 hf
      have hI1 := hf.is (by decide) hI
      refine G_ald rfl mb rfl (by omega) (by decide) ?_
      rw [hI1.1]
      refine G_if rfl (fun h => ?_) (fun h => ?_)
      · exact G_ret rfl ⟨by rw [hx3]; rfl, hf⟩
      · rw [hx4] at h
        exact absurd (nle h (by omega) (by omega)) (by omega)
    | succ m ih =>
      intro i s x3 x4 σ1 hx4 hi hx3 hf
      have hI1 := hf.is (by decide) hI
      have hK := (hw.2.1 i (by omega)).1
      refine G_ald rfl mb rfl (by omega) (by decide) ?_
      rw [hI1.1]
      refine G_if rfl (fun h => ?_) (fun h => ?_)
      · rw [hx4] at h
        exact absurd (ile h (by omega) (by omega)) (by omega)
      · refine G_ald rfl (mb + 1 + i) (by rw [hx4]; exact ix1 mb i) (by omega) (by decide) ?_
        rw [(hI1.2 i (by omega)).1]
        refine G_call rfl (ev_search_21 hI1 hw hm (key := M.2.1 i) (by omega)) ?_
        rintro r1 σ2 ⟨rfl, hf2, -⟩
        refine G_to [5] rfl ?_
        exact ih (i + 1) _ _ _ σ2 (by rw [hx4]; exact nI_1 i) (by omega) (by rw [hx3, nI_add]) (hf.tr hf2)
  refine G_to [5] rfl ?_
  exact loop M.1 0 0 _ _ σ nI_0.symm (by omega) nI_0.symm (frS.rf σ)
theorem ev_search_22 (hI : isP σ 22 mb M) (hw : wfM M) (hm : mb + 121 ≤ 242) {key : Nat} (hk : key < 2147483648) : Ev 119 [rMo, rP 22, .inl (nI mb), .inl (nI key)] σ (fun r σ' => r = some (.inl (nI (looksF M key).2)) ∧ frS σ σ' ∧ σ'.1 6 0 20 = b2i (looksF M key).1) := by
  have hn := hw.1
  have htop : topF M.2.2.2 M.1 ≤ 64 := topF_le _ hw.t.2
  have loop : ∀ (N lv hr c : Nat) (x4 x5 x6 : Int32) (x7 x8 : Option PV) (σ1 : Hp), lv * 41 + (M.1 - hr) < N → lv ≤ 64 → hr ≤ M.1 → x4 = nI c → x5 = nI hr - 1 → x6 = nI lv - 1 → σ1.1 6 0 20 = 0 → frS σ σ1 →
      RR 119 20 [some rMo, some (rP 22), some (.inl (nI mb)), some (.inl (nI key)), some (.inl x4), some (.inl x5), some (.inl x6), x7, x8] [] σ1 (fun r σ' => r = some (.inl (nI (lkO M.2.1 M.2.2.2 M.1 key lv hr c).2)) ∧ frS σ σ' ∧ σ'.1 6 0 20 = b2i (lkO M.2.1 M.2.2.2 M.1 key lv hr c).1) := by
    intro N
    induction N with
    | zero =>
      intro lv hr c x4 x5 x6 x7 x8 σ1 h0
      omega
    | succ N ih =>
      intro lv hr c x4 x5 x6 x7 x8 σ1 hN hlv hhr hx4 hx5 hx6 h20 hf
      have hI1 := hf.is (by decide) hI
      cases lv with
      | zero =>
        refine G_if rfl (fun q => ?_) (fun q => ?_)
        · exact G_ret rfl ⟨by rw [hx4]; rfl, hf, by rw [h20]; rfl⟩
        · rw [hx6] at q
          exact absurd ((im1_lt (by omega)).mpr rfl) q
      | succ l =>
        have hb := bhF_le M.2.2.2 l hhr
        have hsk := lkI_skip M.2.1 M.2.2.2 key l (M.1 - hr) hr hr c
        rw [show hr + (M.1 - hr) = M.1 by omega] at hsk
        change _ = (if bhF M.1 M.2.2.2 l hr = M.1 then _ else if M.2.1 (bhF M.1 M.2.2.2 l hr) = key then _ else if key < M.2.1 (bhF M.1 M.2.2.2 l hr) then _ else lkI M.2.1 M.2.2.2 key l (M.1 - (bhF M.1 M.2.2.2 l hr + 1)) (bhF M.1 M.2.2.2 l hr + 1) (bhF M.1 M.2.2.2 l hr + 1) (c + 1)) at hsk
        refine G_if rfl (fun q => ?_) (fun q => ?_)
        · rw [hx6] at q
          exact absurd ((im1_lt (by omega)).mp q) (by omega)
        · refine G_if rfl (fun q2 => ?_) (fun q2 => ?_)
          · exact absurd h20 q2
          · refine G_callv rfl (by rw [hx5, im1_add, hx6, nI_pred]) (ev_nextOn_22 hI1 hw.t hm (f := hr) (l := l) hhr (by omega)) ?_
            rintro r1 σ2 ⟨rfl, rfl⟩
            refine G_ald rfl mb rfl (by omega) (by decide) ?_
            rw [hI1.1]
            have hx6' : x6 + -1 = nI l - 1 := by rw [hx6]; exact im1_dec l
            generalize hbe : bhF M.1 M.2.2.2 l hr = b at *
            refine G_if rfl (fun q3 => ?_) (fun q3 => ?_)
            · have q3 := ile q3 (by omega) (by omega)
              refine G_if rfl (fun q4 => ?_) (fun q4 => ?_)
              · refine G_if rfl (fun q5 => ?_) (fun q5 => ?_)
                · refine G_if rfl (fun q6 => ?_) (fun q6 => ?_)
                  · refine G_to [20] rfl ?_
                    rw [lkO, hsk, if_pos (by omega)]
                    exact ih l hr c _ _ _ _ _ _ (by omega) (by omega) hhr (by rw [hx4, show (0 : Int32) = nI 0 from rfl, nI_add, Nat.add_zero]) hx5 hx6' (by simp [hset]) (hf.st (by decide))
                  · exact absurd rfl q6
                · exact absurd rfl q5
              · exact absurd rfl q4
            · have q3 := nle q3 (by omega) (by omega)
              have hK := (hw.2.1 b q3).1
              refine G_if rfl (fun q4 => ?_) (fun q4 => ?_)
              · exact absurd q4 (by decide)
              · refine G_if rfl (fun q5 => ?_) (fun q5 => ?_)
                · exact absurd q5 (by decide)
                · refine G_ald rfl (mb + 1 + b) (ix1 mb b) (by omega) (by decide) ?_
                  rw [(hI1.2 b q3).1]
                  refine G_if rfl (fun q6 => ?_) (fun q6 => ?_)
                  · have q6 : ¬ M.2.1 b = key := fun e => q6 (by rw [e])
                    refine G_if rfl (fun q7 => ?_) (fun q7 => ?_)
                    · exact absurd q7 (by decide)
                    · have hf3 : frS σ (hset σ2.1 6 0 20 0, σ2.2) := hf.st (by decide)
                      have h203 : (hset σ2.1 6 0 20 0, σ2.2).1 6 0 20 = 0 := by simp [hset]
                      have hI3 := hf3.is (by decide) hI
                      generalize (hset σ2.1 6 0 20 0, σ2.2) = σ3 at hf3 h203 hI3 ⊢
                      refine G_ald rfl (mb + 1 + b) (ix1 mb b) (by omega) (by decide) ?_
                      rw [(hI3.2 b q3).1]
                      refine G_if rfl (fun q8 => ?_) (fun q8 => ?_)
                      · have q8 := ile q8 hk (by omega)
                        refine G_to [20] rfl ?_
                        rw [lkO, hsk, if_neg (by omega), if_neg q6, if_pos (by omega)]
                        exact ih l hr (c + 1) _ _ _ _ _ _ (by omega) (by omega) hhr (by rw [hx4]; exact nI_1 c) hx5 hx6' h203 hf3
                      · have q8 := nle q8 hk (by omega)
                        refine G_to [20] rfl ?_
                        have e : lkO M.2.1 M.2.2.2 M.1 key (l + 1) hr c = lkO M.2.1 M.2.2.2 M.1 key (l + 1) (b + 1) (c + 1) := by
                          rw [lkO, lkO, hsk, if_neg (by omega), if_neg q6, if_neg (by omega)]
                        rw [e]
                        exact ih (l + 1) (b + 1) (c + 1) _ _ _ _ _ _ (by omega) (by omega) (by omega) (by rw [hx4]; exact nI_1 c) (nI_pred b).symm hx6 h203 hf3
                  · have q6 := ieq (Classical.not_not.mp q6) (by omega) hk
                    refine G_if rfl (fun q7 => ?_) (fun q7 => ?_)
                    · exact absurd q7 (by decide)
                    · have hf3 : frS σ (hset σ2.1 6 0 20 1, σ2.2) := hf.st (by decide)
                      have h203 : (hset σ2.1 6 0 20 1, σ2.2).1 6 0 20 = 1 := by simp [hset]
                      have hI3 := hf3.is (by decide) hI
                      generalize (hset σ2.1 6 0 20 1, σ2.2) = σ3 at hf3 h203 hI3 ⊢
                      refine G_ald rfl (mb + 1 + b) (ix1 mb b) (by omega) (by decide) ?_
                      rw [(hI3.2 b q3).1]
                      refine G_if rfl (fun q8 => ?_) (fun q8 => ?_)
                      · have eO : lkO M.2.1 M.2.2.2 M.1 key (l + 1) hr c = (true, c + 1) := by
                          rw [lkO, hsk, if_neg (by omega), if_pos q6]
                        rw [eO]
                        refine G_to [20] rfl ?_
                        refine G_if rfl (fun q9 => ?_) (fun q9 => ?_)
                        · exact G_ret rfl ⟨by rw [hx4, nI_1], hf3, h203⟩
                        · refine G_if rfl (fun q10 => ?_) (fun q10 => ?_)
                          · exact G_ret rfl ⟨by rw [hx4, nI_1], hf3, h203⟩
                          · rw [h203] at q10
                            exact absurd (by decide) q10
                      · exact absurd (by rw [q6]; exact nI_le (Nat.le_refl _) hk) q8
  refine G_call rfl (ev_ptop_22 hI hw.t hm) ?_
  rintro r1 σ1 ⟨rfl, rfl⟩
  refine G_to [20] rfl ?_
  exact loop (topF M.2.2.2 M.1 * 41 + (M.1 - 0) + 1) _ 0 0 _ _ _ _ _ _ (by omega) htop (Nat.zero_le _) nI_0.symm im1_neg.symm rfl (by simp [hset]) ((frS.rf _).st (by decide))
theorem ev_pallLooks_22 (hI : isP σ 22 mb M) (hw : wfM M) (hm : mb + 121 ≤ 242) : Ev 118 [rMo, rP 22, .inl (nI mb)] σ (fun r σ' => r = some (.inl (nI (slF M M.1 0 0))) ∧ frS σ σ') := by
  have hn := hw.1
  have loop : ∀ (m i s : Nat) (x3 x4 : Int32) (σ1 : Hp), x4 = nI i → i + m = M.1 → x3 = nI s → frS σ σ1 → RR 118 5 [some rMo, some (rP 22), some (.inl (nI mb)), some (.inl x3), some (.inl x4)] [] σ1 (fun r σ' => r = some (.inl (nI (slF M m i s))) ∧ frS σ σ') := by
    intro m
    induction m with
    | zero =>
      intro i s x3 x4 σ1 hx4 hi hx3 hf
      have hI1 := hf.is (by decide) hI
      refine G_ald rfl mb rfl (by omega) (by decide) ?_
      rw [hI1.1]
      refine G_if rfl (fun h => ?_) (fun h => ?_)
      · exact G_ret rfl ⟨by rw [hx3]; rfl, hf⟩
      · rw [hx4] at h
        exact absurd (nle h (by omega) (by omega)) (by omega)
    | succ m ih =>
      intro i s x3 x4 σ1 hx4 hi hx3 hf
      have hI1 := hf.is (by decide) hI
      have hK := (hw.2.1 i (by omega)).1
      refine G_ald rfl mb rfl (by omega) (by decide) ?_
      rw [hI1.1]
      refine G_if rfl (fun h => ?_) (fun h => ?_)
      · rw [hx4] at h
        exact absurd (ile h (by omega) (by omega)) (by omega)
      · refine G_ald rfl (mb + 1 + i) (by rw [hx4]; exact ix1 mb i) (by omega) (by decide) ?_
        rw [(hI1.2 i (by omega)).1]
        refine G_call rfl (ev_search_22 hI1 hw hm (key := M.2.1 i) (by omega)) ?_
        rintro r1 σ2 ⟨rfl, hf2, -⟩
        refine G_to [5] rfl ?_
        exact ih (i + 1) _ _ _ σ2 (by rw [hx4]; exact nI_1 i) (by omega) (by rw [hx3, nI_add]) (hf.tr hf2)
  refine G_to [5] rfl ?_
  exact loop M.1 0 0 _ _ σ nI_0.symm (by omega) nI_0.symm (frS.rf σ)
end MO
end
section
/-! All looks: lane by lane, or key by key. -/
def sm : Nat → (Nat → Nat) → Nat
  | 0, _ => 0
  | n + 1, f => sm n f + f n
theorem sm_congr : ∀ (n : Nat) (f g : Nat → Nat), (∀ i, i < n → f i = g i) → sm n f = sm n g
  | 0, _, _, _ => rfl
  | n + 1, f, g, h => by rw [sm, sm, sm_congr n f g (fun i hi => h i (by omega)), h n (by omega)]
theorem sm_add : ∀ (n : Nat) (f g : Nat → Nat), sm n (fun i => f i + g i) = sm n f + sm n g
  | 0, _, _ => rfl
  | n + 1, f, g => by
    rw [sm, sm, sm, sm_add n f g]
    omega
theorem sm_zero : ∀ (n : Nat), sm n (fun _ => 0) = 0
  | 0 => rfl
  | n + 1 => by rw [sm, sm_zero n]
theorem sm_swap : ∀ (n m : Nat) (f : Nat → Nat → Nat), sm n (fun i => sm m (fun l => f l i)) = sm m (fun l => sm n (fun i => f l i))
  | 0, m, f => by simp only [sm]; rw [sm_zero]
  | n + 1, m, f => by
    simp only [sm]
    rw [sm_swap n m f, ← sm_add]
theorem cntF_snoc (T : Nat → Nat) (h : Nat) : ∀ (m i : Nat), cntF T h (m + 1) i = cntF T h m i + (if T (i + m) = h then 1 else 0)
  | 0, i => by simp [cntF]
  | m + 1, i => by
    rw [cntF, cntF_snoc T h m (i + 1), cntF, show i + 1 + m = i + (m + 1) by omega]
    omega
/-- how many of a height lie ahead of i, since the last higher one -/
def pas (T : Nat → Nat) (l i : Nat) : Nat := cntF T l (i - ahF T (l + 1) i) (ahF T (l + 1) i)
def cst (T : Nat → Nat) (n l i : Nat) : Nat := if l < T i then 0 else if T i = l then pas T l i + 1 else pas T l i + (if i + 1 < ahF T l n then 1 else 0)
theorem pas_succ (T : Nat → Nat) (l i : Nat) : pas T l (i + 1) = if l < T i then 0 else if T i = l then pas T l i + 1 else pas T l i := by
  unfold pas
  have hle := ahF_le T (l + 1) i
  rw [ahF]
  by_cases h : T i < l + 1
  · rw [if_pos h, show i + 1 - ahF T (l + 1) i = i - ahF T (l + 1) i + 1 by omega, cntF_snoc, show ahF T (l + 1) i + (i - ahF T (l + 1) i) = i by omega, if_neg (show ¬ l < T i by omega)]
    split <;> rfl
  · rw [if_neg h, if_pos (by omega)]
    simp [cntF]
theorem alI_eq (T : Nat → Nat) (n l : Nat) : ∀ (m i s : Nat), alI T l (ahF T l n) m i (pas T l i) s = s + (sm (i + m) (cst T n l) - sm i (cst T n l))
  | 0, i, s => by simp [alI]
  | m + 1, i, s => by
    have mono : ∀ (a d : Nat), sm a (cst T n l) ≤ sm (a + d) (cst T n l) := by
      intro a d
      induction d with
      | zero => exact Nat.le_refl _
      | succ d ih => rw [← Nat.add_assoc, sm]; omega
    have h1 := mono (i + 1) m
    have h2 : sm (i + 1) (cst T n l) = sm i (cst T n l) + cst T n l i := rfl
    have ih := alI_eq T n l m (i + 1)
    rw [pas_succ] at ih
    rw [show i + (m + 1) = i + 1 + m by omega, alI]
    by_cases h : l < T i
    · rw [if_pos h] at ih
      rw [if_pos h, ih]
      have : cst T n l i = 0 := by unfold cst; rw [if_pos h]
      omega
    · rw [if_neg h] at ih
      rw [if_neg h]
      by_cases h3 : T i = l
      · rw [if_pos h3] at ih
        rw [if_pos h3, ih]
        have : cst T n l i = pas T l i + 1 := by unfold cst; rw [if_neg h, if_pos h3]
        omega
      · rw [if_neg h3] at ih
        rw [if_neg h3, ih]
        have : cst T n l i = pas T l i + (if i + 1 < ahF T l n then 1 else 0) := by unfold cst; rw [if_neg h, if_neg h3]
        by_cases h4 : i + 1 < ahF T l n
        · rw [if_pos h4] at this ⊢
          omega
        · rw [if_neg h4] at this ⊢
          omega
theorem pas_0 (T : Nat → Nat) (l : Nat) : pas T l 0 = 0 := rfl
theorem alO_eq (T : Nat → Nat) (n : Nat) : ∀ (lv s : Nat), alO T n lv s = s + sm lv (fun l => sm n (cst T n l))
  | 0, s => rfl
  | lv + 1, s => by
    have h := alI_eq T n lv n 0 s
    rw [pas_0, Nat.zero_add] at h
    have e : sm (lv + 1) (fun l => sm n (cst T n l)) = sm lv (fun l => sm n (cst T n l)) + sm n (cst T n lv) := rfl
    have : sm 0 (cst T n lv) = 0 := rfl
    rw [alO, h, alO_eq T n lv]
    omega
theorem lkI_walk {M : AM} (hw : wfM M) {i0 l : Nat} (hi0 : i0 < M.1) : ∀ (d i c : Nat), i + d = i0 → (∀ x, i ≤ x → x < i0 → M.2.2.2 x ≤ l) → lkI M.2.1 M.2.2.2 (M.2.1 i0) l (M.1 - i) i (ahF M.2.2.2 l i) c = lkI M.2.1 M.2.2.2 (M.2.1 i0) l (M.1 - i0) i0 (ahF M.2.2.2 l i0) (c + cntF M.2.2.2 l d i)
  | 0, i, c, hd, _ => by
    have : i = i0 := by omega
    subst this
    rfl
  | d + 1, i, c, hd, hT => by
    have h1 := hT i (Nat.le_refl _) (by omega)
    have hlt := wf_lt hw (show i < i0 by omega) hi0
    have ih := lkI_walk hw (l := l) hi0 d (i + 1)
    rw [show M.1 - i = M.1 - (i + 1) + 1 by omega, lkI, cntF]
    rw [ahF] at ih
    by_cases h2 : M.2.2.2 i < l
    · rw [if_pos h2] at ih
      rw [if_pos h2, if_neg (by omega), Nat.zero_add]
      exact ih c (by omega) (fun x h3 h4 => hT x (by omega) h4)
    · rw [if_neg h2] at ih
      rw [if_neg h2, if_neg (by omega), if_neg (by omega), if_pos (by omega), ← Nat.add_assoc]
      exact ih (c + 1) (by omega) (fun x h3 h4 => hT x (by omega) h4)
theorem ahF_self (T : Nat → Nat) (l i : Nat) : ahF T l (ahF T (l + 1) i) = ahF T (l + 1) i := by
  rcases (ahF_sp T (l + 1) i).1 with h | h
  · rw [h]; rfl
  · generalize ahF T (l + 1) i = a at h
    cases a with
    | zero => rfl
    | succ a =>
      rw [ahF, if_neg (by simp at h; omega)]
theorem ahF_cut (T : Nat → Nat) (l : Nat) : ∀ (n i : Nat), i < n → (i + 1 < ahF T l n ↔ ∃ b, i < b ∧ b < n ∧ l ≤ T b)
  | 0, i, h => by omega
  | n + 1, i, h => by
    rw [ahF]
    by_cases hT : T n < l
    · rw [if_pos hT]
      by_cases hin : i = n
      · subst hin
        have := ahF_le T l i
        constructor
        · intro h; omega
        · rintro ⟨b, h1, h2, h3⟩; omega
      · rw [ahF_cut T l n i (by omega)]
        constructor
        · rintro ⟨b, h1, h2, h3⟩
          exact ⟨b, h1, by omega, h3⟩
        · rintro ⟨b, h1, h2, h3⟩
          refine ⟨b, h1, ?_, h3⟩
          rcases Nat.lt_or_ge b n with h4 | h4
          · exact h4
          · have : b = n := by omega
            subst this
            omega
    · rw [if_neg hT]
      constructor
      · intro h1
        exact ⟨n, by omega, by omega, by omega⟩
      · rintro ⟨b, h1, h2, h3⟩
        omega
theorem lkO_eq {M : AM} (hw : wfM M) {i0 : Nat} (hi0 : i0 < M.1) : ∀ (lv c : Nat), M.2.2.2 i0 < lv → (lkO M.2.1 M.2.2.2 M.1 (M.2.1 i0) lv (ahF M.2.2.2 lv i0) c) = (true, c + sm lv (fun l => cst M.2.2.2 M.1 l i0))
  | 0, c, h => by omega
  | lv + 1, c, h => by
    have ha := ahF_le M.2.2.2 (lv + 1) i0
    have hsp := (ahF_sp M.2.2.2 (lv + 1) i0).2
    have hwk := lkI_walk hw hi0 (l := lv) (i0 - ahF M.2.2.2 (lv + 1) i0) (ahF M.2.2.2 (lv + 1) i0) c (by omega) (fun x h1 h2 => by have := hsp x h1 h2; omega)
    rw [ahF_self] at hwk
    change _ = lkI _ _ _ _ _ _ _ (c + pas M.2.2.2 lv i0) at hwk
    rw [lkO, hwk, sm]
    rw [show M.1 - i0 = M.1 - (i0 + 1) + 1 by omega, lkI]
    by_cases hT : M.2.2.2 i0 < lv
    · have hsk := lkI_skip M.2.1 M.2.2.2 (M.2.1 i0) lv (M.1 - (i0 + 1)) (i0 + 1) (ahF M.2.2.2 lv i0) (c + pas M.2.2.2 lv i0)
      rw [show i0 + 1 + (M.1 - (i0 + 1)) = M.1 by omega] at hsk
      change _ = (if bhF M.1 M.2.2.2 lv (i0 + 1) = M.1 then _ else if M.2.1 (bhF M.1 M.2.2.2 lv (i0 + 1)) = _ then _ else if _ < M.2.1 (bhF M.1 M.2.2.2 lv (i0 + 1)) then _ else _) at hsk
      rw [if_pos hT, hsk]
      have hb := bhF_le M.2.2.2 lv (show i0 + 1 ≤ M.1 by omega)
      obtain ⟨b1, b2⟩ := bhF_sp M.2.2.2 lv (show i0 + 1 ≤ M.1 by omega)
      have hcut := ahF_cut M.2.2.2 lv M.1 i0 hi0
      have hc : cst M.2.2.2 M.1 lv i0 = pas M.2.2.2 lv i0 + (if i0 + 1 < ahF M.2.2.2 lv M.1 then 1 else 0) := by
        unfold cst
        rw [if_neg (by omega), if_neg (by omega)]
      rw [hc]
      by_cases hbn : bhF M.1 M.2.2.2 lv (i0 + 1) = M.1
      · rw [if_pos hbn, if_neg (fun q => by
          obtain ⟨b, q1, q2, q3⟩ := hcut.mp q
          have := b2 b (by omega) (by omega)
          omega)]
        simp only
        rw [lkO_eq hw hi0 lv _ hT]
        congr 1
        omega
      · have hbl : bhF M.1 M.2.2.2 lv (i0 + 1) < M.1 := by omega
        have hkl := wf_lt hw (show i0 < bhF M.1 M.2.2.2 lv (i0 + 1) by omega) hbl
        rw [if_neg hbn, if_neg (by omega), if_pos hkl, if_pos (hcut.mpr ⟨_, by omega, hbl, by
          rcases b1 with q | q
          · omega
          · exact q.2⟩)]
        simp only
        rw [lkO_eq hw hi0 lv _ hT]
        congr 1
        omega
    · have he : M.2.2.2 i0 = lv := by omega
      rw [if_neg hT, if_pos rfl]
      simp only
      have hc : cst M.2.2.2 M.1 lv i0 = pas M.2.2.2 lv i0 + 1 := by
        unfold cst
        rw [if_neg (by omega), if_pos he]
      rw [hc]
      have hz : sm lv (fun l => cst M.2.2.2 M.1 l i0) = 0 := by
        rw [← sm_zero lv]
        refine sm_congr lv _ _ (fun l hl => ?_)
        unfold cst
        rw [if_pos (by omega)]
      rw [hz]
      congr 1
      omega
theorem ahF_top {T : Nat → Nat} {l : Nat} : ∀ (i : Nat), (∀ x, x < i → T x < l) → ahF T l i = 0
  | 0, _ => rfl
  | i + 1, h => by
    rw [ahF, if_pos (h i (by omega))]
    exact ahF_top i (fun x hx => h x (by omega))
theorem looksF_at {M : AM} (hw : wfM M) {i0 : Nat} (hi0 : i0 < M.1) : looksF M (M.2.1 i0) = (true, sm (topF M.2.2.2 M.1) (fun l => cst M.2.2.2 M.1 l i0)) := by
  have h := lkO_eq hw hi0 (topF M.2.2.2 M.1) 0 (by have := topF_ge M.2.2.2 M.1 i0 hi0; omega)
  rw [ahF_top i0 (fun x hx => by have := topF_ge M.2.2.2 M.1 x (by omega); omega), Nat.zero_add] at h
  exact h
theorem slF_eq {M : AM} (hw : wfM M) : ∀ (m i s : Nat), i + m ≤ M.1 → slF M m i s + sm i (fun x => (looksF M (M.2.1 x)).2) = s + sm (i + m) (fun x => (looksF M (M.2.1 x)).2)
  | 0, i, s, _ => rfl
  | m + 1, i, s, h => by
    have ih := slF_eq hw m (i + 1) (s + (looksF M (M.2.1 i)).2) (by omega)
    have h2 : sm (i + 1) (fun x => (looksF M (M.2.1 x)).2) = sm i (fun x => (looksF M (M.2.1 x)).2) + (looksF M (M.2.1 i)).2 := rfl
    rw [show i + (m + 1) = i + 1 + m by omega, slF]
    omega
/-- all looks are one number, however they are counted -/
theorem all_looks {M : AM} (hw : wfM M) : slF M M.1 0 0 = alF M.2.2.2 M.1 := by
  have h1 := slF_eq hw M.1 0 0 (by omega)
  have h2 := alO_eq M.2.2.2 M.1 (topF M.2.2.2 M.1) 0
  have h3 : sm M.1 (fun x => (looksF M (M.2.1 x)).2) = sm M.1 (fun x => sm (topF M.2.2.2 M.1) (fun l => cst M.2.2.2 M.1 l x)) := sm_congr _ _ _ (fun x hx => by rw [looksF_at hw hx])
  rw [sm_swap] at h3
  have h4 : sm 0 (fun x => (looksF M (M.2.1 x)).2) = 0 := rfl
  unfold alF
  simp only [Nat.zero_add] at h1 h2
  rw [h4, Nat.add_zero] at h1
  rw [h2]
  exact h1.trans h3
end
section
/-! Items: all looks; keys by place; new ones; other heights; moved ones. -/
theorem im1_le {q i : Nat} (hq : q < 2147483648) (hi : i < 2147483648) : nI q - 1 ≤ nI i ↔ q ≤ i + 1 := by
  cases q with
  | zero =>
    rw [im1_neg]
    constructor
    · intro _; omega
    · intro _
      have h1 : (-1 : Int32) ≤ 0 := by decide
      exact Int32.le_trans h1 (nI_pos' hi)
  | succ q =>
    rw [nI_pred, nI_leI (by omega) hi]
    omega
section IT
variable {σ : Hp} {j : Nat} {M : AM}
theorem ev_allLooks (hI : isI σ j M) (hw : wfT M) : Ev 29 [rI j] σ (fun r σ' => r = some (.inl (nI (alF M.2.2.2 M.1))) ∧ σ' = σ) := by
  have hn := hw.1
  have htop : topF M.2.2.2 M.1 ≤ 64 := topF_le _ hw.2
  have inner : ∀ (l last : Nat), l < 64 → last ≤ 40 → ∀ (m i p s : Nat) (x1 x2 x3 x4 x5 : Int32) (Q : Option PV → Hp → Prop), x1 = nI s → x2 = nI l → x3 = nI last - 1 → x4 = nI p → x5 = nI i → i + m = M.1 → (∀ (x1 x4 x5 : Int32), x1 = nI (alI M.2.2.2 l last m i p s) → RR 29 101 [some (rI j), some (.inl x1), some (.inl x2), some (.inl x3), some (.inl x4), some (.inl x5)] [] σ Q) → RR 29 29 [some (rI j), some (.inl x1), some (.inl x2), some (.inl x3), some (.inl x4), some (.inl x5)] [] σ Q := by
    intro l last hl hlast m
    induction m with
    | zero =>
      intro i p s x1 x2 x3 x4 x5 Q hx1 hx2 hx3 hx4 hx5 hi k
      refine G_if rfl (fun h => ?_) (fun h => ?_)
      · exact k _ _ _ hx1
      · rw [hI.1, hx5] at h
        exact absurd (nle h (by omega) (by omega)) (by omega)
    | succ m ih =>
      intro i p s x1 x2 x3 x4 x5 Q hx1 hx2 hx3 hx4 hx5 hi k
      have hT := hw.2 i (by omega)
      rw [alI] at k
      refine G_if rfl (fun h => ?_) (fun h => ?_)
      · rw [hI.1, hx5] at h
        exact absurd (ile h (by omega) (by omega)) (by omega)
      · refine G_ald rfl i hx5 (by omega) (by decide) ?_
        rw [(hI.2 i (by omega)).2.2]
        refine G_if rfl (fun h2 => ?_) (fun h2 => ?_)
        · rw [hx2] at h2
          have h2 := ile h2 (by omega) (by omega)
          rw [if_neg (by omega)] at k
          refine G_ald rfl i hx5 (by omega) (by decide) ?_
          rw [(hI.2 i (by omega)).2.2]
          refine G_if rfl (fun h3 => ?_) (fun h3 => ?_)
          · rw [hx2] at h3
            have h3 : ¬ M.2.2.2 i = l := fun e => h3 (by rw [e])
            rw [if_neg h3] at k
            refine G_if rfl (fun h4 => ?_) (fun h4 => ?_)
            · rw [hx3, hx5, im1_le (by omega) (by omega)] at h4
              rw [if_neg (by omega)] at k
              refine G_to [29] rfl ?_
              exact ih (i + 1) p (s + p) _ _ _ _ _ Q (by rw [hx1, hx4, nI_add]) hx2 hx3 hx4 (by rw [hx5]; exact nI_1 i) (by omega) k
            · rw [hx3, hx5, im1_le (by omega) (by omega)] at h4
              rw [if_pos (by omega)] at k
              refine G_to [29] rfl ?_
              exact ih (i + 1) p (s + (p + 1)) _ _ _ _ _ Q (by rw [hx1, hx4, nI_1, nI_add]) hx2 hx3 hx4 (by rw [hx5]; exact nI_1 i) (by omega) k
          · rw [hx2] at h3
            have h3 := ieq (Classical.not_not.mp h3) (by omega) (by omega)
            rw [if_pos h3] at k
            refine G_to [29] rfl ?_
            exact ih (i + 1) (p + 1) (s + (p + 1)) _ _ _ _ _ Q (by rw [hx1, hx4, nI_1, nI_add]) hx2 hx3 (by rw [hx4]; exact nI_1 p) (by rw [hx5]; exact nI_1 i) (by omega) k
        · rw [hx2] at h2
          have h2 := nle h2 (by omega) (by omega)
          rw [if_pos h2] at k
          refine G_to [29] rfl ?_
          exact ih (i + 1) 0 s _ _ _ _ _ Q hx1 hx2 hx3 nI_0.symm (by rw [hx5]; exact nI_1 i) (by omega) k
  have outer : ∀ (lv s : Nat) (x1 x2 : Int32) (x3 x4 x5 : Option PV), x1 = nI s → x2 = nI lv - 1 → lv ≤ 64 → RR 29 9 [some (rI j), some (.inl x1), some (.inl x2), x3, x4, x5] [] σ (fun r σ' => r = some (.inl (nI (alO M.2.2.2 M.1 lv s))) ∧ σ' = σ) := by
    intro lv
    induction lv with
    | zero =>
      intro s x1 x2 x3 x4 x5 hx1 hx2 hlv
      refine G_if rfl (fun h => ?_) (fun h => ?_)
      · exact G_ret rfl ⟨by rw [hx1]; rfl, rfl⟩
      · rw [hx2] at h
        exact absurd ((im1_lt (by omega)).mpr rfl) h
    | succ l ih =>
      intro s x1 x2 x3 x4 x5 hx1 hx2 hlv
      have hle := ahF_le M.2.2.2 l M.1
      refine G_if rfl (fun h => ?_) (fun h => ?_)
      · rw [hx2] at h
        exact absurd ((im1_lt (by omega)).mp h) (by omega)
      · refine G_callv rfl (by rw [hI.1, hx2, nI_pred]) (ev_ahead hI hw (p := M.1) (l := l) (Nat.le_refl _) (by omega)) ?_
        rintro r1 σ1 ⟨rfl, rfl⟩
        refine G_to [29] rfl ?_
        refine inner l (ahF M.2.2.2 l M.1) (by omega) (by omega) M.1 0 0 s _ _ _ _ _ _ hx1 (by rw [hx2]; exact nI_pred l) rfl nI_0.symm nI_0.symm (by omega) (fun y1 y4 y5 hy1 => ?_)
        refine G_to [9] rfl ?_
        exact ih _ _ _ _ _ _ hy1 (by rw [hx2]; exact im1_dec l) (by omega)
  refine G_call rfl (ev_top hI hw) ?_
  rintro r1 σ1 ⟨rfl, rfl⟩
  refine G_to [9] rfl ?_
  exact outer _ 0 _ _ _ _ _ nI_0.symm rfl htop
theorem ev_keyAt_in (hI : isI σ j M) (hn : M.1 ≤ 40) {x : Int32} {i : Nat} (hx : x = nI i) (hi : i < M.1) : Ev 28 [rI j, .inl x] σ (fun r σ' => r = some (.inl (nI (M.2.1 i))) ∧ σ' = σ) := by
  subst hx
  refine G_if rfl (fun q => ?_) (fun q => ?_)
  · exact absurd q (nI_pos (by omega))
  · refine G_if rfl (fun q2 => ?_) (fun q2 => ?_)
    · rw [hI.1] at q2
      exact absurd (ile q2 (by omega) (by omega)) (by omega)
    · refine G_ald rfl i rfl (by omega) (by decide) ?_
      rw [(hI.2 i hi).1]
      exact G_ret rfl ⟨rfl, rfl⟩
theorem ev_keyAt_out (hI : isI σ j M) {x : Int32} (hx : x < 0 ∨ nI M.1 ≤ x) : Ev 28 [rI j, .inl x] σ (fun r σ' => r = some (.inl (-9)) ∧ σ' = σ) := by
  refine G_if rfl (fun q => ?_) (fun q => ?_)
  · exact G_ret rfl ⟨rfl, rfl⟩
  · refine G_if rfl (fun q2 => ?_) (fun q2 => ?_)
    · exact G_ret rfl ⟨rfl, rfl⟩
    · rw [hI.1] at q2
      exact absurd hx (fun h => h.elim q q2)
theorem ev_newTo {j2 : Nat} {M2 : AM} (hI : isI σ j M) (hw : wfM M) (hI2 : isI σ j2 M2) (hw2 : wfM M2) {a b : Nat} (ha : a < 100) (hb : b < 100) : Ev 25 [rI j, rI j2, .inl (nI a), .inl (nI b)] σ (fun r σ' => r = some (.inl (nI (nwF M2 M.2.1 a b M.1 0 0))) ∧ σ' = σ) := by
  have hn := hw.1
  have loop : ∀ (m i s : Nat) (x4 x5 : Int32), x4 = nI s → x5 = nI i → i + m = M.1 → RR 25 6 [some (rI j), some (rI j2), some (.inl (nI a)), some (.inl (nI b)), some (.inl x4), some (.inl x5)] [] σ (fun r σ' => r = some (.inl (nI (nwF M2 M.2.1 a b m i s))) ∧ σ' = σ) := by
    intro m
    induction m with
    | zero =>
      intro i s x4 x5 hx4 hx5 hi
      refine G_if rfl (fun h => ?_) (fun h => ?_)
      · exact G_ret rfl ⟨by rw [hx4]; rfl, rfl⟩
      · rw [hI.1, hx5] at h
        exact absurd (nle h (by omega) (by omega)) (by omega)
    | succ m ih =>
      intro i s x4 x5 hx4 hx5 hi
      have hK := (hw.2.1 i (by omega)).1
      rw [nwF]
      have no : ¬ (a ≤ M.2.1 i ∧ M.2.1 i ≤ b ∧ ¬ has M2 (M.2.1 i)) → RR 25 54 [some (rI j), some (rI j2), some (.inl (nI a)), some (.inl (nI b)), some (.inl x4), some (.inl x5)] [] σ (fun r σ' => r = some (.inl (nI (nwF M2 M.2.1 a b m (i + 1) (@ite _ (a ≤ M.2.1 i ∧ M.2.1 i ≤ b ∧ ¬ has M2 (M.2.1 i)) (Classical.propDecidable _) (s + 1) s)))) ∧ σ' = σ) := by
        intro hno
        rw [if_neg hno]
        refine G_to [6] rfl ?_
        exact ih (i + 1) s _ _ hx4 (by rw [hx5]; exact nI_1 i) (by omega)
      refine G_if rfl (fun h => ?_) (fun h => ?_)
      · rw [hI.1, hx5] at h
        exact absurd (ile h (by omega) (by omega)) (by omega)
      · refine G_ald rfl i hx5 (by omega) (by decide) ?_
        rw [(hI.2 i (by omega)).1]
        refine G_if rfl (fun h2 => ?_) (fun h2 => ?_)
        · have h2 := ilt h2 (by omega) (by omega)
          exact no (fun q => by omega)
        · have h2 := nlt h2 (by omega) (by omega)
          refine G_ald rfl i hx5 (by omega) (by decide) ?_
          rw [(hI.2 i (by omega)).1]
          refine G_if rfl (fun h3 => ?_) (fun h3 => ?_)
          · have h3 := ilt h3 (by omega) (by omega)
            exact no (fun q => by omega)
          · have h3 := nlt h3 (by omega) (by omega)
            refine G_ald rfl i hx5 (by omega) (by decide) ?_
            rw [(hI.2 i (by omega)).1]
            refine G_call rfl (ev_indexOf hI2 hw2 (key := M.2.1 i) (by omega)) ?_
            rintro r1 σ1 ⟨rfl, ⟨hh, rfl⟩ | ⟨hh, rfl⟩⟩
            · refine G_if rfl (fun h4 => ?_) (fun h4 => ?_)
              · exact no (fun q => q.2.2 hh)
              · exact absurd (nI_pos' (by have := hh.1; have := hw2.1; omega)) h4
            · refine G_if rfl (fun h4 => ?_) (fun h4 => ?_)
              · exact absurd h4 (by decide)
              · rw [if_pos ⟨h2, h3, hh⟩]
                refine G_to [6] rfl ?_
                exact ih (i + 1) (s + 1) _ _ (by rw [hx4]; exact nI_1 s) (by rw [hx5]; exact nI_1 i) (by omega)
  refine G_to [6] rfl ?_
  exact loop M.1 0 0 _ _ nI_0.symm nI_0.symm (by omega)
end IT
end
section
/-! The two systems' states told by one value. -/
abbrev BM : Type := AM × AM
abbrev TX : Type := Nat × (Nat → Nat)
abbrev SG : Type := Nat × ((Nat → Nat) × ((Nat → Nat) × (Nat → Nat)))
/-- both maps; what was ahead of the last acts, the last first; slots; the text; what is sought; the seed -/
abbrev SS : Type := BM × ((Nat × (Nat → BM)) × ((Nat → Option BM) × (TX × (SG × Int64))))
def isB (σ : Hp) (b : Nat) (B : BM) : Prop := isI σ (2 * b) B.1 ∧ isI σ (2 * b + 1) B.2
def kp (o : Option BM) : Int32 := match o with
  | some _ => 1
  | none => 0
def cAct (σ : Hp) (H : Nat × (Nat → BM)) : Prop := ∃ nx, nx < 14 ∧ σ.1 0 0 1 = nI nx ∧ σ.1 0 0 2 = nI H.1 ∧ ∀ h, h < H.1 → isB σ (2 + (nx + 13 - h) % 14) (H.2 h)
def cSlt (σ : Hp) (f : Nat → Option BM) : Prop := ∀ k, k < 2 → σ.1 12 0 k = kp (f k) ∧ ∀ B, f k = some B → isB σ (16 + k) B
def cTxt (σ : Hp) (t : TX) : Prop := σ.1 4 0 2 = nI t.1 ∧ ∀ i, i < t.1 → σ.1 13 0 i = nI (t.2 i)
def cSgt (σ : Hp) (g : SG) : Prop := σ.1 3 0 3 = nI g.1 ∧ ∀ i, i < g.1 → σ.1 15 0 i = nI (g.2.1 i) ∧ σ.1 16 0 i = nI (g.2.2.1 i) ∧ σ.1 17 0 i = nI (g.2.2.2 i)
def CS (σ : Hp) (S : SS) : Prop := isB σ 0 S.1 ∧ cAct σ S.2.1 ∧ cSlt σ S.2.2.1 ∧ cTxt σ S.2.2.2.1 ∧ cSgt σ S.2.2.2.2.1 ∧ σ.2.1 5 = S.2.2.2.2.2
def isPB (σ : Hp) (P mb : Nat) (B : BM) : Prop := isP σ P mb B.1 ∧ isP σ P (mb + 121) B.2
def mAct (σ : Hp) (H : Nat × (Nat → BM)) : Prop := σ.1 6 0 11 = nI H.1 ∧ ∀ h, h < H.1 → isPB σ 23 (242 * (H.1 - 1 - h)) (H.2 h)
def mSlt (σ : Hp) (f : Nat → Option BM) : Prop := ∀ k, k < 2 → σ.1 25 0 k = kp (f k) ∧ ∀ B, f k = some B → isPB σ 24 (242 * k) B
def mTxt (σ : Hp) (t : TX) : Prop := σ.1 6 0 2 = nI t.1 ∧ ∀ i, i < t.1 → σ.1 18 0 i = nI (t.2 i)
def mSgt (σ : Hp) (g : SG) : Prop := σ.1 6 0 14 = nI g.1 ∧ ∀ i, i < g.1 → σ.1 26 0 i = nI (g.2.1 i) ∧ σ.1 27 0 i = nI (g.2.2.1 i) ∧ σ.1 28 0 i = nI (g.2.2.2 i)
def MS (σ : Hp) (S : SS) : Prop := isPB σ 21 0 S.1 ∧ mAct σ S.2.1 ∧ mSlt σ S.2.2.1 ∧ mTxt σ S.2.2.2.1 ∧ mSgt σ S.2.2.2.2.1 ∧ σ.2.1 6 = S.2.2.2.2.2
def InvB (B : BM) : Prop := Inv B.1 ∧ Inv B.2
def SI (S : SS) : Prop := InvB S.1 ∧ (S.2.1.1 ≤ 14 ∧ ∀ h, h < S.2.1.1 → InvB (S.2.1.2 h)) ∧ (∀ k B, k < 2 → S.2.2.1 k = some B → InvB B) ∧ (S.2.2.2.1.1 ≤ 64 ∧ ∀ i, i < S.2.2.2.1.1 → S.2.2.2.1.2 i < 256) ∧ (S.2.2.2.2.1.1 ≤ 6 ∧ ∀ i, i < S.2.2.2.2.1.1 → S.2.2.2.2.1.2.1 i < 2 ∧ S.2.2.2.2.1.2.2.1 i ≤ 20 ∧ S.2.2.2.2.1.2.2.2 i < 2)
/-- the model's part is as it was; the class's part is -/
def mEq (σ σ' : Hp) : Prop := (∀ k, k = 6 ∨ 18 ≤ k → σ'.1 k = σ.1 k) ∧ σ'.2.1 6 = σ.2.1 6 ∧ σ'.2.2 = σ.2.2
def cEq (σ σ' : Hp) : Prop := (∀ k, k ≠ 6 ∧ (k < 18 ∨ 31 ≤ k) → σ'.1 k = σ.1 k) ∧ σ'.2.1 5 = σ.2.1 5 ∧ σ'.2.2 = σ.2.2
theorem mEq.rf (σ : Hp) : mEq σ σ := ⟨fun _ _ => rfl, rfl, rfl⟩
theorem cEq.rf (σ : Hp) : cEq σ σ := ⟨fun _ _ => rfl, rfl, rfl⟩
theorem mEq.tr {σ σ1 σ2 : Hp} (h : mEq σ σ1) (h2 : mEq σ1 σ2) : mEq σ σ2 := ⟨fun k q => (h2.1 k q).trans (h.1 k q), h2.2.1.trans h.2.1, h2.2.2.trans h.2.2⟩
theorem cEq.tr {σ σ1 σ2 : Hp} (h : cEq σ σ1) (h2 : cEq σ1 σ2) : cEq σ σ2 := ⟨fun k q => (h2.1 k q).trans (h.1 k q), h2.2.1.trans h.2.1, h2.2.2.trans h.2.2⟩
theorem mEq.st {σ σ1 : Hp} {k i s : Nat} {v : Int32} (h : mEq σ σ1) (hk : k ≠ 6 ∧ k < 18) : mEq σ (hset σ1.1 k i s v, σ1.2) := by
  refine ⟨fun k' q => ?_, h.2.1, h.2.2⟩
  rw [← h.1 k' q]
  funext i'
  exact hset_ne (by rintro e; cases e; omega)
theorem cEq.st {σ σ1 : Hp} {k i s : Nat} {v : Int32} (h : cEq σ σ1) (hk : k = 6 ∨ (18 ≤ k ∧ k < 31)) : cEq σ (hset σ1.1 k i s v, σ1.2) := by
  refine ⟨fun k' q => ?_, h.2.1, h.2.2⟩
  rw [← h.1 k' q]
  funext i'
  exact hset_ne (by rintro e; cases e; omega)
theorem CS.of {σ σ' : Hp} {S : SS} (h : CS σ S) (he : cEq σ σ') : CS σ' S := by
  have e : ∀ k, k ≠ 6 ∧ (k < 18 ∨ 31 ≤ k) → σ'.1 k = σ.1 k := he.1
  unfold CS cAct cSlt cTxt cSgt isB isI at h ⊢
  rw [e 0 (by decide), e 2 (by decide), e 3 (by decide), e 4 (by decide), e 7 (by decide), e 8 (by decide), e 9 (by decide), e 12 (by decide), e 13 (by decide), e 15 (by decide), e 16 (by decide), e 17 (by decide), he.2.1]
  exact h
theorem MS.of {σ σ' : Hp} {S : SS} (h : MS σ S) (he : mEq σ σ') : MS σ' S := by
  have e : ∀ k, k = 6 ∨ 18 ≤ k → σ'.1 k = σ.1 k := he.1
  unfold MS mAct mSlt mTxt mSgt isPB isP at h ⊢
  rw [e 6 (by decide), e 18 (by decide), e 21 (by decide), e 23 (by decide), e 24 (by decide), e 25 (by decide), e 26 (by decide), e 27 (by decide), e 28 (by decide), he.2.1]
  exact h
theorem frI.m {j : Nat} {σ σ' : Hp} (h : frI j σ σ') : mEq σ σ' := ⟨fun k q => by
  funext i
  exact h.1 k i (fun q2 => by omega), by rw [h.2], by rw [h.2]⟩
theorem frP.c {P mb : Nat} {σ σ' : Hp} (h : frP P mb σ σ') (hP : 18 ≤ P ∧ P < 31) : cEq σ σ' := ⟨fun k q => by
  funext i
  exact h.1 k i (by omega) (fun q2 => by omega), by rw [h.2.2.1], by rw [h.2.2.1]⟩
theorem frS.c {σ σ' : Hp} (h : frS σ σ') : cEq σ σ' := ⟨fun k q => by
  funext i
  exact h.1 k i (by omega), by rw [h.2.2], by rw [h.2.2]⟩
/-- of the class only the Items 0 .. 3 have changed -/
def frN (σ σ' : Hp) : Prop := (∀ k i, ¬ (i < 4 ∧ (k = 2 ∨ k = 7 ∨ k = 8 ∨ k = 9)) → σ'.1 k i = σ.1 k i) ∧ σ'.2 = σ.2
theorem frN.rf (σ : Hp) : frN σ σ := ⟨fun _ _ _ => rfl, rfl⟩
theorem frN.tr {σ σ1 σ2 : Hp} (h : frN σ σ1) (h2 : frN σ1 σ2) : frN σ σ2 := ⟨fun k i q => (h2.1 k i q).trans (h.1 k i q), h2.2.trans h.2⟩
theorem frI.n {j : Nat} {σ σ' : Hp} (h : frI j σ σ') (hj : j < 4) : frN σ σ' := ⟨fun k i q => h.1 k i (fun q2 => q ⟨by omega, q2.2⟩), h.2⟩
theorem frN.m {σ σ' : Hp} (h : frN σ σ') : mEq σ σ' := ⟨fun k q => by
  funext i
  exact h.1 k i (fun q2 => by omega), by rw [h.2], by rw [h.2]⟩
theorem frN.b {σ σ' : Hp} {b : Nat} {B : BM} (h : frN σ σ') (hb : 2 ≤ b) (hB : isB σ b B) : isB σ' b B := by
  have e : ∀ k i, 4 ≤ i → σ'.1 k i = σ.1 k i := fun k i q => h.1 k i (fun q2 => by omega)
  unfold isB isI at hB ⊢
  rw [e 2 (2 * b) (by omega), e 7 (2 * b) (by omega), e 8 (2 * b) (by omega), e 9 (2 * b) (by omega), e 2 (2 * b + 1) (by omega), e 7 (2 * b + 1) (by omega), e 8 (2 * b + 1) (by omega), e 9 (2 * b + 1) (by omega)]
  exact hB
/-- the maps now in use may have changed -/
theorem CS.now {σ σ' : Hp} {S : SS} {B : BM} (h : CS σ S) (hf : frN σ σ') (hB : isB σ' 0 B) : CS σ' (B, S.2) := by
  obtain ⟨h1, ⟨nx, a1, a2, a3, a4⟩, h3, h4, h5, h6⟩ := h
  have e : ∀ k, k ≠ 2 → k ≠ 7 → k ≠ 8 → k ≠ 9 → σ'.1 k = σ.1 k := fun k q1 q2 q3 q4 => by
    funext i
    exact hf.1 k i (fun q => by omega)
  refine ⟨hB, ⟨nx, a1, ?_, ?_, fun h hh => hf.b (by omega) (a4 h hh)⟩, fun k hk => ⟨?_, fun B' q => hf.b (by omega) ((h3 k hk).2 B' q)⟩, ?_, ?_, ?_⟩
  · rw [e 0 (by decide) (by decide) (by decide) (by decide)]; exact a2
  · rw [e 0 (by decide) (by decide) (by decide) (by decide)]; exact a3
  · rw [e 12 (by decide) (by decide) (by decide) (by decide)]; exact (h3 k hk).1
  · unfold cTxt at h4 ⊢
    rw [e 4 (by decide) (by decide) (by decide) (by decide), e 13 (by decide) (by decide) (by decide) (by decide)]
    exact h4
  · unfold cSgt at h5 ⊢
    rw [e 3 (by decide) (by decide) (by decide) (by decide), e 15 (by decide) (by decide) (by decide) (by decide), e 16 (by decide) (by decide) (by decide) (by decide), e 17 (by decide) (by decide) (by decide) (by decide)]
    exact h5
  · rw [hf.2]; exact h6
/-- a map's number, a key -/
theorem i01 {x : Int32} : (0 ≤ x ∧ x < 2) ↔ (x = 0 ∨ x = 1) := by
  constructor
  · rintro ⟨h1, h2⟩
    have h3 := Int32.le_iff_toInt_le.mp h1
    have h4 := Int32.lt_iff_toInt_lt.mp h2
    have e0 : (0 : Int32).toInt = 0 := rfl
    have e2 : (2 : Int32).toInt = 2 := rfl
    have e1 : (1 : Int32).toInt = 1 := rfl
    rw [e0] at h3
    rw [e2] at h4
    rcases (show x.toInt = 0 ∨ x.toInt = 1 by omega) with h5 | h5
    · exact Or.inl (Int32.toInt_inj.mp (by rw [h5, e0]))
    · exact Or.inr (Int32.toInt_inj.mp (by rw [h5, e1]))
  · rintro (rfl | rfl) <;> decide
theorem i01' {x : Int32} : (0 ≤ x ∧ x ≤ 1) ↔ (x = 0 ∨ x = 1) := by
  rw [← i01]
  constructor
  · rintro ⟨h1, h2⟩
    exact ⟨h1, Int32.lt_of_le_of_lt h2 (by decide)⟩
  · rintro h
    rcases i01.mp h with rfl | rfl <;> decide
theorem i100 {x : Int32} : (0 ≤ x ∧ x < 100) ↔ ∃ k, k < 100 ∧ x = nI k := by
  constructor
  · rintro ⟨h1, h2⟩
    have h3 : ¬ x < 0 := Int32.not_lt.mpr h1
    obtain ⟨k, hk, rfl⟩ := nI_of h3
    exact ⟨k, ilt (b := 100) h2 hk (by decide), rfl⟩
  · rintro ⟨k, hk, rfl⟩
    exact ⟨nI_pos' (by omega), nI_lt hk (by decide)⟩
theorem i100' {x : Int32} : (0 ≤ x ∧ x ≤ 99) ↔ ∃ k, k < 100 ∧ x = nI k := by
  rw [← i100]
  constructor
  · rintro ⟨h1, h2⟩
    exact ⟨h1, Int32.lt_of_le_of_lt h2 (by decide)⟩
  · rintro h
    obtain ⟨k, hk, rfl⟩ := i100.mp h
    exact ⟨nI_pos' (by omega), nI_le (show k ≤ 99 by omega) (by decide)⟩
theorem ev_isMap (x : Int32) (σ : Hp) : Ev 46 [.inl x] σ (fun r σ' => σ' = σ ∧ (((x = 0 ∨ x = 1) ∧ r = some (.inl 1)) ∨ (¬ (x = 0 ∨ x = 1) ∧ r = some (.inl 0)))) := by
  refine G_if rfl (fun q => ?_) (fun q => ?_)
  · exact G_retZ rfl (Or.inl rfl) ⟨rfl, Or.inr ⟨fun e => by rcases e with rfl | rfl <;> exact absurd q (by decide), rfl⟩⟩
  · refine G_if rfl (fun q2 => ?_) (fun q2 => ?_)
    · exact G_retZ rfl (Or.inl rfl) ⟨rfl, Or.inr ⟨fun e => by rcases e with rfl | rfl <;> exact absurd q2 (by decide), rfl⟩⟩
    · exact G_retZ rfl (Or.inr rfl) ⟨rfl, Or.inl ⟨i01.mp ⟨Int32.not_lt.mp q, Int32.not_le.mp q2⟩, rfl⟩⟩
theorem ev_isSlot (x : Int32) (σ : Hp) : Ev 85 [.inl x] σ (fun r σ' => σ' = σ ∧ (((x = 0 ∨ x = 1) ∧ r = some (.inl 1)) ∨ (¬ (x = 0 ∨ x = 1) ∧ r = some (.inl 0)))) := by
  refine G_if rfl (fun q => ?_) (fun q => ?_)
  · exact G_retZ rfl (Or.inl rfl) ⟨rfl, Or.inr ⟨fun e => by rcases e with rfl | rfl <;> exact absurd q (by decide), rfl⟩⟩
  · refine G_if rfl (fun q2 => ?_) (fun q2 => ?_)
    · exact G_retZ rfl (Or.inl rfl) ⟨rfl, Or.inr ⟨fun e => by rcases e with rfl | rfl <;> exact absurd q2 (by decide), rfl⟩⟩
    · exact G_retZ rfl (Or.inr rfl) ⟨rfl, Or.inl ⟨i01.mp ⟨Int32.not_lt.mp q, Int32.not_le.mp q2⟩, rfl⟩⟩
def okK (x : Int32) : Prop := ∃ k, k < 100 ∧ x = nI k
theorem ev_isKey (x : Int32) (σ : Hp) : Ev 48 [.inl x] σ (fun r σ' => σ' = σ ∧ ((okK x ∧ r = some (.inl 1)) ∨ (¬ okK x ∧ r = some (.inl 0)))) := by
  refine G_if rfl (fun q => ?_) (fun q => ?_)
  · exact G_retZ rfl (Or.inl rfl) ⟨rfl, Or.inr ⟨fun e => by
      have := (i100.mpr e).1
      exact absurd q (Int32.not_lt.mpr this), rfl⟩⟩
  · refine G_if rfl (fun q2 => ?_) (fun q2 => ?_)
    · exact G_retZ rfl (Or.inl rfl) ⟨rfl, Or.inr ⟨fun e => by
        have := (i100.mpr e).2
        exact absurd q2 (Int32.not_le.mpr this), rfl⟩⟩
    · exact G_retZ rfl (Or.inr rfl) ⟨rfl, Or.inl ⟨i100.mp ⟨Int32.not_lt.mp q, Int32.not_le.mp q2⟩, rfl⟩⟩
abbrev rB (b : Nat) : PV := .inr (.inr (1, b))
abbrev rT : PV := .inr (.inr (5, 0))
theorem ev_of0 (b : Nat) (σ : Hp) : Ev 3 [rB b, .inl 0] σ (fun r σ' => r = some (rI (2 * b)) ∧ σ' = σ) := by
  refine G_if rfl (fun q => ?_) (fun q => ?_)
  · exact absurd rfl q
  · exact G_ret rfl ⟨rfl, rfl⟩
theorem ev_of1 (b : Nat) {x : Int32} (hx : ¬ x = 0) (σ : Hp) : Ev 3 [rB b, .inl x] σ (fun r σ' => r = some (rI (2 * b + 1)) ∧ σ' = σ) := by
  refine G_if rfl (fun q => ?_) (fun q => ?_)
  · exact G_ret rfl ⟨rfl, rfl⟩
  · exact absurd hx q
/-- a map by its number -/
def mp (B : BM) (m : Nat) : AM := match m with
  | 0 => B.1
  | _ => B.2
theorem ev_of (b : Nat) {m : Nat} (hm : m < 2) (σ : Hp) : Ev 3 [rB b, .inl (nI m)] σ (fun r σ' => r = some (rI (2 * b + m)) ∧ σ' = σ) := by
  match m, hm with
  | 0, _ => exact ev_of0 b σ
  | 1, _ => exact ev_of1 b (by decide) σ
theorem isB.at {σ : Hp} {b : Nat} {B : BM} (h : isB σ b B) {m : Nat} (hm : m < 2) : isI σ (2 * b + m) (mp B m) := by
  match m, hm with
  | 0, _ => exact h.1
  | 1, _ => exact h.2
theorem InvB.at {B : BM} (h : InvB B) {m : Nat} (hm : m < 2) : Inv (mp B m) := by
  match m, hm with
  | 0, _ => exact h.1
  | 1, _ => exact h.2
theorem isPB.at {σ : Hp} {P mb : Nat} {B : BM} (h : isPB σ P mb B) {m : Nat} (hm : m < 2) : isP σ P (mb + 121 * m) (mp B m) := by
  match m, hm with
  | 0, _ => exact h.1
  | 1, _ => exact h.2
theorem okM_nat {x : Int32} (h : x = 0 ∨ x = 1) : ∃ m, m < 2 ∧ x = nI m := by
  rcases h with rfl | rfl
  · exact ⟨0, by decide, rfl⟩
  · exact ⟨1, by decide, rfl⟩
end
section
/-! Public calls, first lot: what only reads. -/
def CSpec (y : Nat) (vs : List PV) (S : SS) (r : PV) (S' : SS) : Prop := ∀ σ, CS σ S → Ev y (rT :: vs) σ (fun q σ' => q = some r ∧ CS σ' S' ∧ mEq σ σ')
def MSpec (y : Nat) (vs : List PV) (S : SS) (r : PV) (S' : SS) : Prop := ∀ σ, MS σ S → Ev y (rMo :: vs) σ (fun q σ' => q = some r ∧ MS σ' S' ∧ cEq σ σ')
noncomputable def gt {α : Type} (P : Prop) (a b : α) : α := @ite _ P (Classical.propDecidable P) a b
theorem gt_t {α : Type} {P : Prop} {a b : α} (h : P) : gt P a b = a := by
  unfold gt
  exact if_pos h
theorem gt_f {α : Type} {P : Prop} {a b : α} (h : ¬ P) : gt P a b = b := by
  unfold gt
  exact if_neg h
def okM (x : Int32) : Prop := x = 0 ∨ x = 1
theorem MS.scr {σ σ' : Hp} {S : SS} (h : MS σ S) (hf : frS σ σ') : MS σ' S := by
  have e : ∀ k, k ≠ 6 → σ'.1 k = σ.1 k := fun k q => funext (fun i => hf.1 k i q)
  unfold MS mAct mSlt mTxt mSgt isPB isP at h ⊢
  rw [hf.2.1 11 (by decide), hf.2.1 2 (by decide), hf.2.1 14 (by decide), e 18 (by decide), e 21 (by decide), e 23 (by decide), e 24 (by decide), e 25 (by decide), e 26 (by decide), e 27 (by decide), e 28 (by decide), hf.2.2]
  exact h
theorem frS.th (σ : Hp) : frS σ (hset σ.1 6 0 0 0, σ.2) := (frS.rf σ).st (by decide)
theorem mb121 (m : Nat) : (121 : Int32) * nI m = nI (0 + 121 * m) := by
  rw [show (121 : Int32) = nI 121 from rfl, pk_mul, Nat.zero_add]
noncomputable def fRank (S : SS) (x k : Int32) : Int32 := gt (okM x ∧ okK k) (nI (les (mp S.1 x.toNatClampNeg) k.toNatClampNeg)) (-1)
noncomputable def fGet (S : SS) (x k : Int32) : Int32 := gt (okM x ∧ okK k) (gt (has (mp S.1 x.toNatClampNeg) k.toNatClampNeg) (nI ((mp S.1 x.toNatClampNeg).2.2.1 (les (mp S.1 x.toNatClampNeg) k.toNatClampNeg))) (-9)) (-1)
noncomputable def fLooks (S : SS) (x k : Int32) : Int32 := gt (okM x ∧ okK k) (nI (looksF (mp S.1 x.toNatClampNeg) k.toNatClampNeg).2) (-1)
noncomputable def fSum (S : SS) (x a b : Int32) : Int32 := gt (okM x ∧ okK a ∧ okK b) (gt (a ≤ b) (nI (vwF (mp S.1 x.toNatClampNeg).2.1 (mp S.1 x.toNatClampNeg).2.2.1 a.toNatClampNeg b.toNatClampNeg (mp S.1 x.toNatClampNeg).1 0 0)) (-2)) (-1)
theorem c_rank {S : SS} (hS : SI S) (x k : Int32) : CSpec 56 [.inl x, .inl k] S (.inl (fRank S x k)) S := by
  intro σ hC
  unfold fRank
  refine G_call rfl (ev_isMap x σ) ?_
  rintro r1 σ1 ⟨rfl, ⟨h1, rfl⟩ | ⟨h1, rfl⟩⟩
  · refine G_if rfl (fun q => ?_) (fun q => ?_)
    · exact absurd q (by decide)
    · refine G_call rfl (ev_isKey k σ1) ?_
      rintro r1 σ2 ⟨rfl, ⟨h2, rfl⟩ | ⟨h2, rfl⟩⟩
      · refine G_if rfl (fun q => ?_) (fun q => ?_)
        · rw [gt_t ⟨h1, h2⟩]
          obtain ⟨m, hm, rfl⟩ := okM_nat h1
          obtain ⟨key, hk, rfl⟩ := h2
          have hI := hC.1.at hm
          have hV := hS.1.at hm
          rw [nI_clamp (by omega), nI_clamp (by omega)]
          refine G_call rfl (ev_of 0 hm σ2) ?_
          rintro r1 σ3 ⟨rfl, rfl⟩
          refine G_call rfl (ev_lesser hI hV.1 (by omega)) ?_
          rintro r1 σ4 ⟨rfl, rfl⟩
          exact G_ret rfl ⟨rfl, hC, mEq.rf _⟩
        · exact absurd (by decide) q
      · refine G_if rfl (fun q => ?_) (fun q => ?_)
        · exact absurd rfl q
        · rw [gt_f (fun q => h2 q.2)]
          exact G_ret rfl ⟨rfl, hC, mEq.rf _⟩
  · refine G_if rfl (fun q => ?_) (fun q => ?_)
    · rw [gt_f (fun q => h1 q.1)]
      exact G_ret rfl ⟨rfl, hC, mEq.rf _⟩
    · exact absurd rfl q
theorem c_looks {S : SS} (hS : SI S) (x k : Int32) : CSpec 58 [.inl x, .inl k] S (.inl (fLooks S x k)) S := by
  intro σ hC
  unfold fLooks
  refine G_call rfl (ev_isMap x σ) ?_
  rintro r1 σ1 ⟨rfl, ⟨h1, rfl⟩ | ⟨h1, rfl⟩⟩
  · refine G_if rfl (fun q => ?_) (fun q => ?_)
    · exact absurd q (by decide)
    · refine G_call rfl (ev_isKey k σ1) ?_
      rintro r1 σ2 ⟨rfl, ⟨h2, rfl⟩ | ⟨h2, rfl⟩⟩
      · refine G_if rfl (fun q => ?_) (fun q => ?_)
        · rw [gt_t ⟨h1, h2⟩]
          obtain ⟨m, hm, rfl⟩ := okM_nat h1
          obtain ⟨key, hk, rfl⟩ := h2
          have hI := hC.1.at hm
          have hV := hS.1.at hm
          rw [nI_clamp (by omega), nI_clamp (by omega)]
          refine G_call rfl (ev_of 0 hm σ2) ?_
          rintro r1 σ3 ⟨rfl, rfl⟩
          refine G_call rfl (ev_looksFor hI hV.1 hk) ?_
          rintro r1 σ4 ⟨rfl, rfl⟩
          exact G_ret rfl ⟨rfl, hC, mEq.rf _⟩
        · exact absurd (by decide) q
      · refine G_if rfl (fun q => ?_) (fun q => ?_)
        · exact absurd rfl q
        · rw [gt_f (fun q => h2 q.2)]
          exact G_ret rfl ⟨rfl, hC, mEq.rf _⟩
  · refine G_if rfl (fun q => ?_) (fun q => ?_)
    · rw [gt_f (fun q => h1 q.1)]
      exact G_ret rfl ⟨rfl, hC, mEq.rf _⟩
    · exact absurd rfl q
theorem c_get {S : SS} (hS : SI S) (x k : Int32) : CSpec 54 [.inl x, .inl k] S (.inl (fGet S x k)) S := by
  intro σ hC
  unfold fGet
  refine G_call rfl (ev_isMap x σ) ?_
  rintro r1 σ1 ⟨rfl, ⟨h1, rfl⟩ | ⟨h1, rfl⟩⟩
  · refine G_if rfl (fun q => ?_) (fun q => ?_)
    · exact absurd q (by decide)
    · refine G_call rfl (ev_isKey k σ1) ?_
      rintro r1 σ2 ⟨rfl, ⟨h2, rfl⟩ | ⟨h2, rfl⟩⟩
      · refine G_if rfl (fun q => ?_) (fun q => ?_)
        · rw [gt_t ⟨h1, h2⟩]
          obtain ⟨m, hm, rfl⟩ := okM_nat h1
          obtain ⟨key, hk, rfl⟩ := h2
          have hI := hC.1.at hm
          have hV := hS.1.at hm
          have hn := hV.1.1
          rw [nI_clamp (by omega), nI_clamp (by omega)]
          refine G_call rfl (ev_of 0 hm σ2) ?_
          rintro r1 σ3 ⟨rfl, rfl⟩
          refine G_call rfl (ev_indexOf hI hV.1 (by omega)) ?_
          rintro r1 σ4 ⟨rfl, ⟨hh, rfl⟩ | ⟨hh, rfl⟩⟩
          · have hlt := hh.1
            rw [gt_t hh]
            refine G_if rfl (fun q2 => ?_) (fun q2 => ?_)
            · refine G_ald rfl (les (mp S.1 m) key) rfl (by omega) (by decide) ?_
              rw [show (2 * 0 + m) = 2 * 0 + m from rfl, (hI.2 _ hlt).2.1]
              exact G_ret rfl ⟨rfl, hC, mEq.rf _⟩
            · exact absurd (nI_pos' (by omega)) q2
          · rw [gt_f hh]
            refine G_if rfl (fun q2 => ?_) (fun q2 => ?_)
            · exact absurd q2 (by decide)
            · exact G_ret rfl ⟨rfl, hC, mEq.rf _⟩
        · exact absurd (by decide) q
      · refine G_if rfl (fun q => ?_) (fun q => ?_)
        · exact absurd rfl q
        · rw [gt_f (fun q => h2 q.2)]
          exact G_ret rfl ⟨rfl, hC, mEq.rf _⟩
  · refine G_if rfl (fun q => ?_) (fun q => ?_)
    · rw [gt_f (fun q => h1 q.1)]
      exact G_ret rfl ⟨rfl, hC, mEq.rf _⟩
    · exact absurd rfl q
theorem c_sum {S : SS} (hS : SI S) (x a b : Int32) : CSpec 59 [.inl x, .inl a, .inl b] S (.inl (fSum S x a b)) S := by
  intro σ hC
  unfold fSum
  refine G_call rfl (ev_isMap x σ) ?_
  rintro r1 σ1 ⟨rfl, ⟨h1, rfl⟩ | ⟨h1, rfl⟩⟩
  · refine G_if rfl (fun q => ?_) (fun q => ?_)
    · exact absurd q (by decide)
    · refine G_call rfl (ev_isKey a σ1) ?_
      rintro r1 σ2 ⟨rfl, ⟨h2, rfl⟩ | ⟨h2, rfl⟩⟩
      · refine G_if rfl (fun q => ?_) (fun q => ?_)
        · exact absurd q (by decide)
        · refine G_call rfl (ev_isKey b σ2) ?_
          rintro r1 σ3 ⟨rfl, ⟨h3, rfl⟩ | ⟨h3, rfl⟩⟩
          · refine G_if rfl (fun q => ?_) (fun q => ?_)
            · rw [gt_t ⟨h1, h2, h3⟩]
              refine G_if rfl (fun q2 => ?_) (fun q2 => ?_)
              · rw [gt_t q2]
                obtain ⟨m, hm, rfl⟩ := okM_nat h1
                obtain ⟨ka, hka, rfl⟩ := h2
                obtain ⟨kb, hkb, rfl⟩ := h3
                have hI := hC.1.at hm
                have hV := hS.1.at hm
                rw [nI_clamp (by omega), nI_clamp (by omega), nI_clamp (by omega)]
                refine G_call rfl (ev_of 0 hm σ3) ?_
                rintro r1 σ4 ⟨rfl, rfl⟩
                refine G_call rfl (ev_valuesWithin hI hV.1 hka hkb) ?_
                rintro r1 σ5 ⟨rfl, rfl⟩
                exact G_ret rfl ⟨rfl, hC, mEq.rf _⟩
              · rw [gt_f q2]
                exact G_ret rfl ⟨rfl, hC, mEq.rf _⟩
            · exact absurd (by decide) q
          · refine G_if rfl (fun q => ?_) (fun q => ?_)
            · exact absurd rfl q
            · rw [gt_f (fun q => h3 q.2.2)]
              exact G_ret rfl ⟨rfl, hC, mEq.rf _⟩
      · refine G_if rfl (fun q => ?_) (fun q => ?_)
        · rw [gt_f (fun q => h2 q.2.1)]
          exact G_ret rfl ⟨rfl, hC, mEq.rf _⟩
        · exact absurd rfl q
  · refine G_if rfl (fun q => ?_) (fun q => ?_)
    · rw [gt_f (fun q => h1 q.1)]
      exact G_ret rfl ⟨rfl, hC, mEq.rf _⟩
    · exact absurd rfl q
theorem m_rank {S : SS} (hS : SI S) (x k : Int32) : MSpec 124 [.inl x, .inl k] S (.inl (fRank S x k)) S := by
  intro σ hM
  unfold fRank
  have hM0 := hM.scr (frS.th σ)
  have hc0 := (frS.th σ).c
  refine G_call rfl (ev_noMap x _) ?_
  rintro r1 σ1 ⟨rfl, ⟨a1, a2, rfl⟩ | ⟨h1, rfl⟩⟩
  · have h1 : okM x := i01'.mp ⟨a1, a2⟩
    refine G_if rfl (fun q => ?_) (fun q => ?_)
    · exact absurd rfl q
    · refine G_call rfl (ev_noKey k _) ?_
      rintro r1 σ2 ⟨rfl, ⟨b1, b2, rfl⟩ | ⟨h2, rfl⟩⟩
      · have h2 : okK k := i100'.mp ⟨b1, b2⟩
        refine G_if rfl (fun q => ?_) (fun q => ?_)
        · rw [gt_t ⟨h1, h2⟩]
          obtain ⟨m, hm, rfl⟩ := okM_nat h1
          obtain ⟨key, hk, rfl⟩ := h2
          have hI := hM0.1.at hm
          have hV := hS.1.at hm
          rw [nI_clamp (by omega), nI_clamp (by omega)]
          refine G_callv rfl (by rw [mb121]) (ev_plesser_21 hI hV.1 (by omega) (by omega)) ?_
          rintro r1 σ4 ⟨rfl, rfl⟩
          exact G_ret rfl ⟨rfl, hM0, hc0⟩
        · exact absurd rfl q
      · refine G_if rfl (fun q => ?_) (fun q => ?_)
        · exact absurd q (by decide)
        · rw [gt_f (fun q => h2 (i100'.mpr q.2))]
          exact G_ret rfl ⟨rfl, hM0, hc0⟩
  · refine G_if rfl (fun q => ?_) (fun q => ?_)
    · rw [gt_f (fun q => h1 (i01'.mpr q.1))]
      exact G_ret rfl ⟨rfl, hM0, hc0⟩
    · exact absurd (by decide) q
end
section
/-! Public calls, second lot. Laid by wip/whole/mk41.py. -/
theorem m_get {S : SS} (hS : SI S) (x k : Int32) : MSpec 122 [.inl x, .inl k] S (.inl (fGet S x k)) S := by
  intro σ hM
  unfold fGet
  have hM0 := hM.scr (frS.th σ)
  have hc0 := (frS.th σ).c
  refine G_call rfl (ev_noMap x _) ?_
  rintro r1 σ1 ⟨rfl, ⟨a1, a2, rfl⟩ | ⟨h1, rfl⟩⟩
  · have h1 : okM x := i01'.mp ⟨a1, a2⟩
    refine G_if rfl (fun q => ?_) (fun q => ?_)
    · exact absurd rfl q
    · refine G_call rfl (ev_noKey k _) ?_
      rintro r1 σ2 ⟨rfl, ⟨a1, a2, rfl⟩ | ⟨h2, rfl⟩⟩
      · have h2 : okK k := i100'.mp ⟨a1, a2⟩
        refine G_if rfl (fun q => ?_) (fun q => ?_)
        · rw [gt_t ⟨h1, h2⟩]
          obtain ⟨m, hm, rfl⟩ := okM_nat h1
          obtain ⟨key, hk, rfl⟩ := h2
          have hI := hM0.1.at hm
          have hV := hS.1.at hm
          have hn := hV.1.1
          rw [nI_clamp (by omega), nI_clamp (by omega)]
          refine G_callv rfl (by rw [mb121]) (ev_find_21 hI hV.1 (by omega) (by omega)) ?_
          rintro r1 σ4 ⟨rfl, ⟨hh, rfl⟩ | ⟨hh, rfl⟩⟩
          · have hlt := hh.1
            rw [gt_t hh]
            refine G_if rfl (fun q2 => ?_) (fun q2 => ?_)
            · refine G_ald rfl (0 + 121 * m + 41 + les (mp S.1 m) key) (by rw [mb121]; exact ix41 _ _) (by omega) (by decide) ?_
              rw [(hI.2 _ hlt).2.1]
              exact G_ret rfl ⟨rfl, hM0, hc0⟩
            · exact absurd (Classical.not_not.mp q2) (fun e => by
                have h1 := congrArg Int32.toInt e
                rw [nI_toInt (by omega)] at h1
                have h2 : (-9 : Int32).toInt = -9 := rfl
                omega)
          · rw [gt_f hh]
            refine G_if rfl (fun q2 => ?_) (fun q2 => ?_)
            · exact absurd rfl q2
            · exact G_ret rfl ⟨rfl, hM0, hc0⟩
        · exact absurd rfl q
      · have h2 : ¬ okK k := fun q => h2 (i100'.mpr q)
        refine G_if rfl (fun q => ?_) (fun q => ?_)
        · exact absurd q (by decide)
        · rw [gt_f (fun q => h2 q.2)]
          exact G_ret rfl ⟨rfl, hM0, hc0⟩
  · have h1 : ¬ okM x := fun q => h1 (i01'.mpr q)
    refine G_if rfl (fun q => ?_) (fun q => ?_)
    · rw [gt_f (fun q => h1 q.1)]
      exact G_ret rfl ⟨rfl, hM0, hc0⟩
    · exact absurd (by decide) q
theorem m_looks {S : SS} (hS : SI S) (x k : Int32) : MSpec 126 [.inl x, .inl k] S (.inl (fLooks S x k)) S := by
  intro σ hM
  unfold fLooks
  have hM0 := hM.scr (frS.th σ)
  have hc0 := (frS.th σ).c
  refine G_call rfl (ev_noMap x _) ?_
  rintro r1 σ1 ⟨rfl, ⟨a1, a2, rfl⟩ | ⟨h1, rfl⟩⟩
  · have h1 : okM x := i01'.mp ⟨a1, a2⟩
    refine G_if rfl (fun q => ?_) (fun q => ?_)
    · exact absurd rfl q
    · refine G_call rfl (ev_noKey k _) ?_
      rintro r1 σ2 ⟨rfl, ⟨a1, a2, rfl⟩ | ⟨h2, rfl⟩⟩
      · have h2 : okK k := i100'.mp ⟨a1, a2⟩
        refine G_if rfl (fun q => ?_) (fun q => ?_)
        · rw [gt_t ⟨h1, h2⟩]
          obtain ⟨m, hm, rfl⟩ := okM_nat h1
          obtain ⟨key, hk, rfl⟩ := h2
          have hI := hM0.1.at hm
          have hV := hS.1.at hm
          rw [nI_clamp (by omega), nI_clamp (by omega)]
          refine G_callv rfl (by rw [mb121]) (ev_search_21 hI hV.1 (by omega) (by omega)) ?_
          rintro r1 σ4 ⟨rfl, hf, -⟩
          exact G_ret rfl ⟨rfl, hM0.scr hf, hc0.tr hf.c⟩
        · exact absurd rfl q
      · have h2 : ¬ okK k := fun q => h2 (i100'.mpr q)
        refine G_if rfl (fun q => ?_) (fun q => ?_)
        · exact absurd q (by decide)
        · rw [gt_f (fun q => h2 q.2)]
          exact G_ret rfl ⟨rfl, hM0, hc0⟩
  · have h1 : ¬ okM x := fun q => h1 (i01'.mpr q)
    refine G_if rfl (fun q => ?_) (fun q => ?_)
    · rw [gt_f (fun q => h1 q.1)]
      exact G_ret rfl ⟨rfl, hM0, hc0⟩
    · exact absurd (by decide) q
theorem m_sum {S : SS} (hS : SI S) (x a b : Int32) : MSpec 127 [.inl x, .inl a, .inl b] S (.inl (fSum S x a b)) S := by
  intro σ hM
  unfold fSum
  have hM0 := hM.scr (frS.th σ)
  have hc0 := (frS.th σ).c
  have loop : ∀ (m : Nat), m < 2 → ∀ (ka kb : Nat), ka < 100 → kb < 100 → ∀ (n i s : Nat) (x5 x6 : Int32), x5 = nI s → x6 = nI i → i + n = (mp S.1 m).1 → RR 127 48 [some rMo, some (.inl (nI m)), some (.inl (nI ka)), some (.inl (nI kb)), some (.inl (nI (0 + 121 * m))), some (.inl x5), some (.inl x6)] [] (hset σ.1 6 0 0 0, σ.2) (fun q σ' => q = some (.inl (nI (vwF (mp S.1 m).2.1 (mp S.1 m).2.2.1 ka kb n i s))) ∧ MS σ' S ∧ cEq σ σ') := by
    intro m hm ka kb hka hkb
    have hI := hM0.1.at hm
    have hV := hS.1.at hm
    have hn := hV.1.1
    intro n
    induction n with
    | zero =>
      intro i s x5 x6 hx5 hx6 hi
      refine G_ald rfl (0 + 121 * m) rfl (by omega) (by decide) ?_
      rw [hI.1]
      refine G_if rfl (fun h => ?_) (fun h => ?_)
      · exact G_ret rfl ⟨by rw [hx5]; rfl, hM0, hc0⟩
      · rw [hx6] at h
        exact absurd (nle h (by omega) (by omega)) (by omega)
    | succ n ih =>
      intro i s x5 x6 hx5 hx6 hi
      have hK := (hV.1.2.1 i (by omega)).1
      refine G_ald rfl (0 + 121 * m) rfl (by omega) (by decide) ?_
      rw [hI.1]
      refine G_if rfl (fun h => ?_) (fun h => ?_)
      · rw [hx6] at h
        exact absurd (ile h (by omega) (by omega)) (by omega)
      · refine G_ald rfl (0 + 121 * m + 1 + i) (by rw [hx6]; exact ix1 _ _) (by omega) (by decide) ?_
        rw [(hI.2 i (by omega)).1, vwF]
        refine G_call rfl (ev_in _ _ _ _) ?_
        rintro r1 σ1 ⟨rfl, ⟨a1, a2, rfl⟩ | ⟨a1, rfl⟩⟩
        · rw [i64_le] at a1 a2
          have a1 := ile a1 (by omega) (by omega)
          have a2 := ile a2 (by omega) (by omega)
          rw [if_pos ⟨a1, a2⟩]
          refine G_if rfl (fun q => ?_) (fun q => ?_)
          · exact absurd q (by decide)
          · refine G_ald rfl (0 + 121 * m + 41 + i) (by rw [hx6]; exact ix41 _ _) (by omega) (by decide) ?_
            rw [(hI.2 i (by omega)).2.1]
            refine G_to [48] rfl ?_
            exact ih (i + 1) _ _ _ (by rw [hx5, nI_add]) (by rw [hx6]; exact nI_1 i) (by omega)
        · rw [i64_le, i64_le, nI_leI (by omega) (by omega), nI_leI (by omega) (by omega)] at a1
          rw [if_neg a1]
          refine G_if rfl (fun q => ?_) (fun q => ?_)
          · refine G_to [48] rfl ?_
            exact ih (i + 1) s _ _ (by rw [hx5, show (0 : Int32) = nI 0 from rfl, nI_add, Nat.add_zero]) (by rw [hx6]; exact nI_1 i) (by omega)
          · exact absurd rfl q
  refine G_call rfl (ev_noMap x _) ?_
  rintro r1 σ1 ⟨rfl, ⟨a1, a2, rfl⟩ | ⟨h1, rfl⟩⟩
  · have h1 : okM x := i01'.mp ⟨a1, a2⟩
    refine G_if rfl (fun q => ?_) (fun q => ?_)
    · exact absurd rfl q
    · refine G_call rfl (ev_noKey a _) ?_
      rintro r1 σ2 ⟨rfl, ⟨a1, a2, rfl⟩ | ⟨h2, rfl⟩⟩
      · have h2 : okK a := i100'.mp ⟨a1, a2⟩
        refine G_if rfl (fun q => ?_) (fun q => ?_)
        · exact absurd rfl q
        · refine G_call rfl (ev_noKey b _) ?_
          rintro r1 σ3 ⟨rfl, ⟨a1, a2, rfl⟩ | ⟨h3, rfl⟩⟩
          · have h3 : okK b := i100'.mp ⟨a1, a2⟩
            refine G_if rfl (fun q => ?_) (fun q => ?_)
            · rw [gt_t ⟨h1, h2, h3⟩]
              refine G_if rfl (fun q2 => ?_) (fun q2 => ?_)
              · rw [gt_t q2]
                obtain ⟨m, hm, rfl⟩ := okM_nat h1
                obtain ⟨ka, hka, rfl⟩ := h2
                obtain ⟨kb, hkb, rfl⟩ := h3
                rw [nI_clamp (by omega), nI_clamp (by omega), nI_clamp (by omega)]
                refine G_to [48] rfl ?_
                rw [mb121]
                exact loop m hm ka kb hka hkb _ 0 0 _ _ nI_0.symm nI_0.symm (by omega)
              · rw [gt_f q2]
                exact G_ret rfl ⟨rfl, hM0, hc0⟩
            · exact absurd rfl q
          · have h3 : ¬ okK b := fun q => h3 (i100'.mpr q)
            refine G_if rfl (fun q => ?_) (fun q => ?_)
            · exact absurd q (by decide)
            · rw [gt_f (fun q => h3 q.2.2)]
              exact G_ret rfl ⟨rfl, hM0, hc0⟩
      · have h2 : ¬ okK a := fun q => h2 (i100'.mpr q)
        refine G_if rfl (fun q => ?_) (fun q => ?_)
        · rw [gt_f (fun q => h2 q.2.1)]
          exact G_ret rfl ⟨rfl, hM0, hc0⟩
        · exact absurd (by decide) q
  · have h1 : ¬ okM x := fun q => h1 (i01'.mpr q)
    refine G_if rfl (fun q => ?_) (fun q => ?_)
    · rw [gt_f (fun q => h1 q.1)]
      exact G_ret rfl ⟨rfl, hM0, hc0⟩
    · exact absurd (by decide) q
/-- the seed -/
theorem c_seed (S : SS) (v : Int64) : CSpec 82 [.inr (.inl v)] S (.inr (.inl S.2.2.2.2.2)) (S.1, S.2.1, S.2.2.1, S.2.2.2.1, S.2.2.2.2.1, v) := by
  intro σ hC
  refine G_ret rfl ⟨by rw [hC.2.2.2.2.2], ⟨hC.1, hC.2.1, hC.2.2.1, hC.2.2.2.1, hC.2.2.2.2.1, ?_⟩, ⟨fun _ _ => rfl, ?_, rfl⟩⟩
  · show lset σ.2.1 5 v 5 = v
    simp [lset]
  · show lset σ.2.1 5 v 6 = _
    simp [lset]
theorem m_seed (S : SS) (v : Int64) : MSpec 153 [.inr (.inl v)] S (.inr (.inl S.2.2.2.2.2)) (S.1, S.2.1, S.2.2.1, S.2.2.2.1, S.2.2.2.2.1, v) := by
  intro σ hM
  have hM0 := hM.scr (frS.th σ)
  have hc0 := (frS.th σ).c
  refine G_ret rfl ⟨?_, ⟨hM0.1, hM0.2.1, hM0.2.2.1, hM0.2.2.2.1, hM0.2.2.2.2.1, ?_⟩, ⟨hc0.1, ?_, hc0.2.2⟩⟩
  · show some (Sum.inr (Sum.inl (σ.2.1 6))) = _
    rw [hM.2.2.2.2.2]
  · show lset σ.2.1 6 v 6 = v
    simp [lset]
  · show lset σ.2.1 6 v 5 = _
    simp [lset]
/-- the text wiped -/
theorem c_wipe (S : SS) : CSpec 43 [] S (.inl (nI S.2.2.2.1.1)) (S.1, S.2.1, S.2.2.1, (0, S.2.2.2.1.2), S.2.2.2.2) := by
  intro σ hC
  obtain ⟨h1, h2, h3, h4, h5, h6⟩ := hC
  refine G_ret rfl ⟨?_, ⟨?_, ?_, ?_, ⟨?_, fun i hi => by cases hi⟩, ?_, h6⟩, (mEq.rf σ).st (by decide)⟩
  · rw [h4.1]
  · simpa [isB, isI, hset] using h1
  · obtain ⟨nx, a1, a2, a3, a4⟩ := h2
    refine ⟨nx, a1, by simpa [hset] using a2, by simpa [hset] using a3, fun h hh => ?_⟩
    have := a4 h hh
    simpa [isB, isI, hset] using this
  · intro k hk
    obtain ⟨b1, b2⟩ := h3 k hk
    refine ⟨by simpa [hset] using b1, fun B hB => ?_⟩
    have := b2 B hB
    simpa [isB, isI, hset] using this
  · show hset σ.1 4 0 2 0 4 0 2 = _
    simp [hset]
    rfl
  · simpa [cSgt, hset] using h5
end
section
/-! Public calls, third lot: the text's and the sought's sizes. -/
section RU
variable {y pc pc' nxt : Nat} {ls ls' : Lc} {stk stk' r : List PV} {σ σ' : Hp} {Q Q' : Option PV → Hp → Prop}
def swq (y pc : Nat) (stk : List PV) : Option (Int32 × ((Int × Int) × (List Nat × (Nat × List PV)))) := match fetch y pc with
  | some (_, .tableswitch _ lo hi _, _, a, _, sw, _) => match stk with
    | .inl x :: r => some (x, (lo, hi), sw, a, r)
    | _ => none
  | _ => none
theorem RR_sw {x : Int32} {lo hi : Int} {sw : List Nat} {a : Nat} (h : swq y pc stk = some (x, (lo, hi), sw, a, r)) (k : RR y (swT x lo hi sw a) ls r σ Q) : RR y pc ls stk σ Q := by
  unfold swq at h
  split at h
  · next he =>
    split at h
    · cases h
      exact RR_step he (by simp only [xexec]; rfl) k
    · cases h
  · cases h
def gsw (y pc : Nat) (ls : Lc) (stk : List PV) (σ : Hp) : Option ((Int32 × ((Int × Int) × (List Nat × (Nat × List PV)))) × (Lc × Hp)) := match go y [] 80 pc ls stk σ with
  | none => none
  | some (pc', ls', stk', σ') => match swq y pc' stk' with
    | none => none
    | some q => some (q, ls', σ')
theorem G_sw {x : Int32} {lo hi : Int} {sw : List Nat} {a : Nat} (h : gsw y pc ls stk σ = some ((x, (lo, hi), sw, a, r), ls', σ')) (k : RR y (swT x lo hi sw a) ls' r σ' Q) : RR y pc ls stk σ Q := by
  unfold gsw at h
  split at h
  · cases h
  · next h1 =>
    split at h
    · cases h
    · next h2 =>
      cases h
      exact RR_go0 80 h1 (RR_sw h2 k)
end RU
theorem swT_in {x : Int32} {lo hi : Int} {sw : List Nat} {a i : Nat} (hx : x.toInt = lo + i) (hhi : lo + i ≤ hi) : swT x lo hi sw a = sw.getD i a := by
  unfold swT
  rw [if_neg (by omega), hx, show (lo + (i : Int) - lo).toNat = i by omega]
theorem swT_out {x : Int32} {lo hi : Int} {sw : List Nat} {a : Nat} (hx : x.toInt < lo ∨ hi < x.toInt) : swT x lo hi sw a = a := by
  unfold swT
  exact if_pos hx
/-- of the class only the text has changed -/
theorem CS.txt {σ σ' : Hp} {S : SS} {t : TX} (h : CS σ S) (he : ∀ k, k ≠ 4 → k ≠ 13 → k ≠ 14 → σ'.1 k = σ.1 k) (h2 : σ'.2 = σ.2) (ht : cTxt σ' t) : CS σ' (S.1, S.2.1, S.2.2.1, t, S.2.2.2.2) := by
  unfold CS cAct cSlt cSgt isB isI at h ⊢
  rw [he 0 (by decide) (by decide) (by decide), he 2 (by decide) (by decide) (by decide), he 3 (by decide) (by decide) (by decide), he 7 (by decide) (by decide) (by decide), he 8 (by decide) (by decide) (by decide), he 9 (by decide) (by decide) (by decide), he 12 (by decide) (by decide) (by decide), he 15 (by decide) (by decide) (by decide), he 16 (by decide) (by decide) (by decide), he 17 (by decide) (by decide) (by decide), h2]
  exact ⟨h.1, h.2.1, h.2.2.1, ht, h.2.2.2.2.1, h.2.2.2.2.2⟩
theorem CS.sgt {σ σ' : Hp} {S : SS} {g : SG} (h : CS σ S) (he : ∀ k, k ≠ 3 → k ≠ 15 → k ≠ 16 → k ≠ 17 → σ'.1 k = σ.1 k) (h2 : σ'.2 = σ.2) (ht : cSgt σ' g) : CS σ' (S.1, S.2.1, S.2.2.1, S.2.2.2.1, g, S.2.2.2.2.2) := by
  unfold CS cAct cSlt cTxt isB isI at h ⊢
  rw [he 0 (by decide) (by decide) (by decide) (by decide), he 2 (by decide) (by decide) (by decide) (by decide), he 4 (by decide) (by decide) (by decide) (by decide), he 7 (by decide) (by decide) (by decide) (by decide), he 8 (by decide) (by decide) (by decide) (by decide), he 9 (by decide) (by decide) (by decide) (by decide), he 12 (by decide) (by decide) (by decide) (by decide), he 13 (by decide) (by decide) (by decide) (by decide), h2]
  exact ⟨h.1, h.2.1, h.2.2.1, h.2.2.2.1, ht, h.2.2.2.2.2⟩
/-- of the model only the text, or what is sought, has changed, and its own numbers -/
theorem MS.txt {σ σ' : Hp} {S : SS} {t : TX} (h : MS σ S) (he : ∀ k, k ≠ 6 → k ≠ 18 → k ≠ 19 → k ≠ 20 → σ'.1 k = σ.1 k) (h3 : ∀ s, s = 11 ∨ s = 14 → σ'.1 6 0 s = σ.1 6 0 s) (h2 : σ'.2 = σ.2) (ht : mTxt σ' t) : MS σ' (S.1, S.2.1, S.2.2.1, t, S.2.2.2.2) := by
  unfold MS mAct mSlt mSgt isPB isP at h ⊢
  rw [h3 11 (by decide), h3 14 (by decide), he 21 (by decide) (by decide) (by decide) (by decide), he 23 (by decide) (by decide) (by decide) (by decide), he 24 (by decide) (by decide) (by decide) (by decide), he 25 (by decide) (by decide) (by decide) (by decide), he 26 (by decide) (by decide) (by decide) (by decide), he 27 (by decide) (by decide) (by decide) (by decide), he 28 (by decide) (by decide) (by decide) (by decide), h2]
  exact ⟨h.1, h.2.1, h.2.2.1, ht, h.2.2.2.2.1, h.2.2.2.2.2⟩
theorem MS.sgt {σ σ' : Hp} {S : SS} {g : SG} (h : MS σ S) (he : ∀ k, k ≠ 6 → k ≠ 26 → k ≠ 27 → k ≠ 28 → σ'.1 k = σ.1 k) (h3 : ∀ s, s = 2 ∨ s = 11 → σ'.1 6 0 s = σ.1 6 0 s) (h2 : σ'.2 = σ.2) (ht : mSgt σ' g) : MS σ' (S.1, S.2.1, S.2.2.1, S.2.2.2.1, g, S.2.2.2.2.2) := by
  unfold MS mAct mSlt mTxt isPB isP at h ⊢
  rw [h3 2 (by decide), h3 11 (by decide), he 18 (by decide) (by decide) (by decide) (by decide), he 21 (by decide) (by decide) (by decide) (by decide), he 23 (by decide) (by decide) (by decide) (by decide), he 24 (by decide) (by decide) (by decide) (by decide), he 25 (by decide) (by decide) (by decide) (by decide), h2]
  exact ⟨h.1, h.2.1, h.2.2.1, h.2.2.2.1, ht, h.2.2.2.2.2⟩
theorem hk {f : Nat → Nat → Nat → Int32} {a b c a' : Nat} {v : Int32} (h : a' ≠ a) : hset f a b c v a' = f a' := by
  funext i
  exact hset_ne (by rintro e; cases e; exact h rfl)
theorem m_wipe (S : SS) : MSpec 90 [] S (.inl (nI S.2.2.2.1.1)) (S.1, S.2.1, S.2.2.1, (0, S.2.2.2.1.2), S.2.2.2.2) := by
  intro σ hM
  refine G_ret rfl ⟨?_, hM.txt (fun k q _ _ _ => ?_) (fun s q => ?_) rfl ⟨?_, fun i hi => by cases hi⟩, ((cEq.rf σ).st (by decide)).st (by decide)⟩
  · show some (Sum.inl (hset σ.1 6 0 0 0 6 0 2)) = _
    rw [show hset σ.1 6 0 0 0 6 0 2 = σ.1 6 0 2 from by simp [hset], hM.2.2.2.1.1]
  · show hset (hset σ.1 6 0 0 0) 6 0 2 0 k = _
    rw [hk q, hk q]
  · show hset (hset σ.1 6 0 0 0) 6 0 2 0 6 0 s = _
    rcases q with rfl | rfl <;> simp [hset]
  · show hset (hset σ.1 6 0 0 0) 6 0 2 0 6 0 2 = _
    simp [hset]
    rfl
theorem c_unseek (S : SS) : CSpec 75 [] S (.inl (nI S.2.2.2.2.1.1)) (S.1, S.2.1, S.2.2.1, S.2.2.2.1, (0, S.2.2.2.2.1.2), S.2.2.2.2.2) := by
  intro σ hC
  refine G_ret rfl ⟨by rw [hC.2.2.2.2.1.1], hC.sgt (fun k q _ _ _ => ?_) rfl ⟨?_, fun i hi => by cases hi⟩, (mEq.rf σ).st (by decide)⟩
  · show hset σ.1 3 0 3 0 k = _
    rw [hk q]
  · show hset σ.1 3 0 3 0 3 0 3 = _
    simp [hset]
    rfl
theorem m_unseek (S : SS) : MSpec 146 [] S (.inl (nI S.2.2.2.2.1.1)) (S.1, S.2.1, S.2.2.1, S.2.2.2.1, (0, S.2.2.2.2.1.2), S.2.2.2.2.2) := by
  intro σ hM
  refine G_ret rfl ⟨?_, hM.sgt (fun k q _ _ _ => ?_) (fun s q => ?_) rfl ⟨?_, fun i hi => by cases hi⟩, ((cEq.rf σ).st (by decide)).st (by decide)⟩
  · show some (Sum.inl (hset σ.1 6 0 0 0 6 0 14)) = _
    rw [show hset σ.1 6 0 0 0 6 0 14 = σ.1 6 0 14 from by simp [hset], hM.2.2.2.2.1.1]
  · show hset (hset σ.1 6 0 0 0) 6 0 14 0 k = _
    rw [hk q, hk q]
  · show hset (hset σ.1 6 0 0 0) 6 0 14 0 6 0 s = _
    rcases q with rfl | rfl <;> simp [hset]
  · show hset (hset σ.1 6 0 0 0) 6 0 14 0 6 0 14 = _
    simp [hset]
    rfl
noncomputable def fCount (S : SS) (x : Int32) : Int32 := gt (x = 0) (nI S.2.1.1) (gt (x = 1) (nI S.2.2.2.2.1.1) (gt (x = 2) (nI S.2.2.2.1.1) (-2)))
theorem c_count (S : SS) (x : Int32) : CSpec 87 [.inl x] S (.inl (fCount S x)) S := by
  intro σ hC
  obtain ⟨nx, a1, a2, a3, a4⟩ := id hC.2.1
  unfold fCount
  refine G_sw rfl ?_
  by_cases h0 : x = 0
  · rw [gt_t h0, swT_in (x := x) (lo := 0) (hi := 2) (i := 0) (by rw [h0]; rfl) (by decide)]
    exact G_ret rfl ⟨by rw [a3], hC, mEq.rf _⟩
  · rw [gt_f h0]
    by_cases h1 : x = 1
    · rw [gt_t h1, swT_in (x := x) (lo := 0) (hi := 2) (i := 1) (by rw [h1]; rfl) (by decide)]
      exact G_ret rfl ⟨by rw [hC.2.2.2.2.1.1], hC, mEq.rf _⟩
    · rw [gt_f h1]
      by_cases h2 : x = 2
      · rw [gt_t h2, swT_in (x := x) (lo := 0) (hi := 2) (i := 2) (by rw [h2]; rfl) (by decide)]
        exact G_ret rfl ⟨by rw [hC.2.2.2.1.1], hC, mEq.rf _⟩
      · rw [gt_f h2, swT_out (by
          have e0 : ¬ x.toInt = 0 := fun e => h0 (Int32.toInt_inj.mp (by rw [e]; rfl))
          have e1 : ¬ x.toInt = 1 := fun e => h1 (Int32.toInt_inj.mp (by rw [e]; rfl))
          have e2 : ¬ x.toInt = 2 := fun e => h2 (Int32.toInt_inj.mp (by rw [e]; rfl))
          omega)]
        exact G_ret rfl ⟨rfl, hC, mEq.rf _⟩
theorem m_count (S : SS) (x : Int32) : MSpec 157 [.inl x] S (.inl (fCount S x)) S := by
  intro σ hM
  have hM0 := hM.scr (frS.th σ)
  have hc0 := (frS.th σ).c
  unfold fCount
  refine G_if rfl (fun q => ?_) (fun q => ?_)
  · rw [gt_f q]
    refine G_if rfl (fun q2 => ?_) (fun q2 => ?_)
    · rw [gt_f q2]
      refine G_if rfl (fun q3 => ?_) (fun q3 => ?_)
      · rw [gt_f q3]
        exact G_ret rfl ⟨rfl, hM0, hc0⟩
      · rw [gt_t (Classical.not_not.mp q3)]
        exact G_ret rfl ⟨by rw [hM0.2.2.2.1.1], hM0, hc0⟩
    · rw [gt_t (Classical.not_not.mp q2)]
      exact G_ret rfl ⟨by rw [hM0.2.2.2.2.1.1], hM0, hc0⟩
  · rw [gt_t (Classical.not_not.mp q)]
    exact G_ret rfl ⟨by rw [hM0.2.1.1], hM0, hc0⟩
end
section
/-! Acts, both maps copied. -/
theorem jr {a d : Nat} (ha : a < 2147483648) (h0 : 0 < d) (hd : d < 2147483648) : jrem (nI a) (nI d) = nI (a % d) := pk_rem ha h0 hd
def frB (b : Nat) (σ σ' : Hp) : Prop := (∀ k i, ¬ ((i = 2 * b ∨ i = 2 * b + 1) ∧ (k = 2 ∨ k = 7 ∨ k = 8 ∨ k = 9)) → σ'.1 k i = σ.1 k i) ∧ σ'.2 = σ.2
theorem frB.m {b : Nat} {σ σ' : Hp} (h : frB b σ σ') : mEq σ σ' := ⟨fun k q => by
  funext i
  exact h.1 k i (fun q2 => by omega), by rw [h.2], by rw [h.2]⟩
theorem frB.b {b b' : Nat} {σ σ' : Hp} {B : BM} (h : frB b σ σ') (hb : b' ≠ b) (hB : isB σ b' B) : isB σ' b' B := by
  have e : ∀ k i, ¬ (i = 2 * b ∨ i = 2 * b + 1) → σ'.1 k i = σ.1 k i := fun k i q => h.1 k i (fun q2 => q q2.1)
  unfold isB isI at hB ⊢
  rw [e 2 (2 * b') (by omega), e 7 (2 * b') (by omega), e 8 (2 * b') (by omega), e 9 (2 * b') (by omega), e 2 (2 * b' + 1) (by omega), e 7 (2 * b' + 1) (by omega), e 8 (2 * b' + 1) (by omega), e 9 (2 * b' + 1) (by omega)]
  exact hB
def szB (B : BM) : Prop := B.1.1 ≤ 40 ∧ B.2.1 ≤ 40
theorem InvB.sz {B : BM} (h : InvB B) : szB B := ⟨h.1.1.1, h.2.1.1⟩
theorem ev_bcopy {σ : Hp} {b bf : Nat} {B : BM} (hB : isB σ bf B) (hn : szB B) (hb : bf ≠ b) : Ev 2 [rB b, rB bf] σ (fun r σ' => r = none ∧ isB σ' b B ∧ frB b σ σ') := by
  refine G_call rfl (ev_copyFrom (j := 2 * b) (jf := 2 * bf) hB.1 hn.1 (by omega)) ?_
  rintro r1 σ1 ⟨rfl, h1, f1⟩
  refine G_call rfl (ev_copyFrom (j := 2 * b + 1) (jf := 2 * bf + 1) (f1.is (by omega) hB.2) hn.2 (by omega)) ?_
  rintro r1 σ2 ⟨rfl, h2, f2⟩
  exact G_ret rfl ⟨rfl, ⟨f2.is (by omega) h1, h2⟩, ⟨fun k i q => (f2.1 k i (fun q2 => q ⟨Or.inr q2.1, q2.2⟩)).trans (f1.1 k i (fun q2 => q ⟨Or.inl q2.1, q2.2⟩)), f2.2.trans f1.2⟩⟩
theorem ev_bitems {σ : Hp} {b : Nat} {B : BM} (hB : isB σ b B) : Ev 4 [rB b] σ (fun r σ' => r = some (.inl (nI (B.1.1 + B.2.1))) ∧ σ' = σ) := by
  refine G_ret rfl ⟨?_, rfl⟩
  rw [hB.1.1, hB.2.1, nI_add]
def pushH (H : Nat × (Nat → BM)) (B : BM) : Nat × (Nat → BM) := (min (H.1 + 1) 14, fun h => match h with
  | 0 => B
  | h + 1 => H.2 h)
theorem ix_eq0 {f : Nat → Nat → Nat → Int32} {a b c : Nat} {v : Int32} : hset f a b c v a b c = v := by simp [hset]
theorem hs_ne {f : Nat → Nat → Nat → Int32} {a b c c' : Nat} {v : Int32} (h : c' ≠ c) : hset f a b c v a b c' = f a b c' := by simp [hset, h]
theorem hs21 {f : Nat → Nat → Nat → Int32} {v w : Int32} : hset (hset f 0 0 1 v) 0 0 2 w 0 0 1 = v := by simp [hset]
/-- only Acts' numbers and Both 2 .. 15 have changed -/
theorem ev_remember {σ : Hp} {S : SS} (hC : CS σ S) (hS : SI S) : Ev 0 [.inr (.inr (0, 0)), rB 0] σ (fun r σ' => r = none ∧ CS σ' (S.1, pushH S.2.1 S.1, S.2.2) ∧ mEq σ σ') := by
  obtain ⟨nx, a1, a2, a3, a4⟩ := id hC.2.1
  have hl := hS.2.1.1
  refine G_ald rfl nx (by rw [a2]) (by omega) (by decide) ?_
  refine G_call rfl (ev_bcopy (b := 2 + nx) hC.1 hS.1.sz (by omega)) ?_
  rintro r1 σ1 ⟨rfl, h1, f1⟩
  have e0 : σ1.1 0 = σ.1 0 := funext (fun i => f1.1 0 i (by omega))
  refine G_div rfl (by decide) ?_
  rw [show σ1.1 0 0 1 = nI nx by rw [e0, a2], nI_1, show (14 : Int32) = nI 14 from rfl, jr (by omega) (by decide) (by decide)]
  refine G_ret rfl ⟨rfl, ?_, ?_⟩
  · have ek : ∀ k, k ≠ 0 → ∀ v w, hset (hset σ1.1 0 0 1 v) 0 0 2 w k = σ1.1 k := fun k q v w => by rw [hk q, hk q]
    have eo : ∀ k, k ≠ 2 → k ≠ 7 → k ≠ 8 → k ≠ 9 → σ1.1 k = σ.1 k := fun k q1 q2 q3 q4 => funext (fun i => f1.1 k i (by omega))
    have eB : ∀ (v w : Int32) b B, isB σ1 b B → isB (hset (hset σ1.1 0 0 1 v) 0 0 2 w, σ1.2) b B := fun v w b B q => by
      unfold isB isI at q ⊢
      simp only [ek 2 (by decide), ek 7 (by decide), ek 8 (by decide), ek 9 (by decide)]
      exact q
    refine ⟨eB _ _ _ _ (f1.b (by omega) hC.1), ⟨(nx + 1) % 14, by omega, ?_, ?_, fun h hh => eB _ _ _ _ ?_⟩, fun k hk2 => ⟨?_, fun B hB => eB _ _ _ _ (f1.b (by omega) ((hC.2.2.1 k hk2).2 B hB))⟩, ?_, ?_, ?_⟩
    · rfl
    · show (if (14 : Int32) < σ1.1 0 0 2 + 1 then (14 : Int32) else σ1.1 0 0 2 + 1) = nI (min (S.2.1.1 + 1) 14)
      rw [e0, a3, nI_1]
      exact imin (b := 14) (by omega) (by decide)
    · cases h with
      | zero =>
        rw [show (2 + ((nx + 1) % 14 + 13 - 0) % 14) = 2 + nx by omega]
        exact h1
      | succ h =>
        have hh' : h + 1 < min (S.2.1.1 + 1) 14 := hh
        rw [show (2 + ((nx + 1) % 14 + 13 - (h + 1)) % 14) = 2 + (nx + 13 - h) % 14 by omega]
        exact f1.b (by omega) (a4 h (by omega))
    · show σ1.1 12 0 k = _
      rw [eo 12 (by decide) (by decide) (by decide) (by decide)]
      exact (hC.2.2.1 k hk2).1
    · unfold cTxt
      simp only [ek 4 (by decide), ek 13 (by decide), eo 4 (by decide) (by decide) (by decide) (by decide), eo 13 (by decide) (by decide) (by decide) (by decide)]
      exact hC.2.2.2.1
    · unfold cSgt
      simp only [ek 3 (by decide), ek 15 (by decide), ek 16 (by decide), ek 17 (by decide), eo 3 (by decide) (by decide) (by decide) (by decide), eo 15 (by decide) (by decide) (by decide) (by decide), eo 16 (by decide) (by decide) (by decide) (by decide), eo 17 (by decide) (by decide) (by decide) (by decide)]
      exact hC.2.2.2.2.1
    · show σ1.2.1 5 = _
      rw [f1.2]
      exact hC.2.2.2.2.2
  · exact (f1.m.st (by decide)).st (by decide)
theorem SI.push {S : SS} (hS : SI S) : SI (S.1, pushH S.2.1 S.1, S.2.2) := by
  obtain ⟨h1, ⟨h2, h3⟩, h4⟩ := hS
  refine ⟨h1, ⟨Nat.min_le_right _ _, fun h hh => ?_⟩, h4⟩
  cases h with
  | zero => exact h1
  | succ h =>
    have : h + 1 < min (S.2.1.1 + 1) 14 := hh
    exact h3 h (by omega)
theorem SI.now {S : SS} {B : BM} (hS : SI S) (hB : InvB B) : SI (B, S.2) := ⟨hB, hS.2⟩
def popH (H : Nat × (Nat → BM)) : Nat × (Nat → BM) := (H.1 - 1, fun h => H.2 (h + 1))
theorem SI.pop {S : SS} (hS : SI S) (h0 : 0 < S.2.1.1) : SI (S.2.1.2 0, popH S.2.1, S.2.2) := by
  obtain ⟨h1, ⟨h2, h3⟩, h4⟩ := hS
  refine ⟨h3 0 h0, ⟨?_, fun h hh => ?_⟩, h4⟩
  · show S.2.1.1 - 1 ≤ 14
    omega
  · have : h < S.2.1.1 - 1 := hh
    exact h3 (h + 1) (by omega)
noncomputable def fUndo (S : SS) : Int32 := gt (S.2.1.1 = 0) (-3) (nI (S.2.1.1 - 1))
noncomputable def nUndo (S : SS) : SS := gt (S.2.1.1 = 0) S (S.2.1.2 0, popH S.2.1, S.2.2)
theorem c_undo {S : SS} (hS : SI S) : CSpec 51 [] S (.inl (fUndo S)) (nUndo S) := by
  intro σ hC
  obtain ⟨nx, a1, a2, a3, a4⟩ := id hC.2.1
  have hl := hS.2.1.1
  have hb : Ev 1 [.inr (.inr (0, 0)), rB 0] σ (fun r σ' => (S.2.1.1 = 0 ∧ r = some (.inl 0) ∧ σ' = σ) ∨ (0 < S.2.1.1 ∧ r = some (.inl 1) ∧ CS σ' (S.2.1.2 0, popH S.2.1, S.2.2) ∧ mEq σ σ')) := by
    refine G_if rfl (fun q => ?_) (fun q => ?_)
    · have h0 : 0 < S.2.1.1 := Nat.pos_of_ne_zero (fun e => q (by rw [a3, e]; rfl))
      refine G_div rfl (by decide) ?_
      rw [show σ.1 0 0 1 = nI nx from a2, show (14 : Int32) = nI 14 from rfl, nI_add, show nI (nx + 14) - 1 = nI (nx + 13) from nI_pred _, jr (by omega) (by decide) (by decide)]
      refine G_ald rfl ((nx + 13) % 14) rfl (by omega) (by decide) ?_
      have ek : ∀ k, k ≠ 0 → ∀ v w, hset (hset σ.1 0 0 1 v) 0 0 2 w k = σ.1 k := fun k q v w => by rw [hk q, hk q]
      have eB : ∀ (v w : Int32) b B, isB σ b B → isB (hset (hset σ.1 0 0 1 v) 0 0 2 w, σ.2) b B := fun v w b B q => by
        unfold isB isI at q ⊢
        simp only [ek 2 (by decide), ek 7 (by decide), ek 8 (by decide), ek 9 (by decide)]
        exact q
      have h00 := a4 0 h0
      rw [show (2 + (nx + 13 - 0) % 14) = 2 + (nx + 13) % 14 by omega] at h00
      refine G_call rfl (ev_bcopy (b := 0) (bf := 2 + (nx + 13) % 14) (eB _ _ _ _ h00) (hS.2.1.2 0 h0).sz (by omega)) ?_
      rintro r1 σ1 ⟨rfl, h1, f1⟩
      have eo : ∀ k, k ≠ 2 → k ≠ 7 → k ≠ 8 → k ≠ 9 → σ1.1 k = _ := fun k q1 q2 q3 q4 => funext (fun i => f1.1 k i (by omega))
      refine G_retZ rfl (Or.inr rfl) (Or.inr ⟨h0, rfl, ⟨h1, ⟨(nx + 13) % 14, by omega, ?_, ?_, fun h hh => f1.b (by omega) ?_⟩, fun k hk2 => ⟨?_, fun B hB => f1.b (by omega) (eB _ _ _ _ ((hC.2.2.1 k hk2).2 B hB))⟩, ?_, ?_, ?_⟩, ?_⟩)
      · rw [eo 0 (by decide) (by decide) (by decide) (by decide)]
        rfl
      · rw [eo 0 (by decide) (by decide) (by decide) (by decide)]
        show σ.1 0 0 2 - 1 = nI (S.2.1.1 - 1)
        rw [a3, lm1 h0]
      · have hh' : h < S.2.1.1 - 1 := hh
        have := a4 (h + 1) (by omega)
        rw [show (2 + ((nx + 13) % 14 + 13 - h) % 14) = 2 + (nx + 13 - (h + 1)) % 14 by omega]
        exact eB _ _ _ _ this
      · rw [eo 12 (by decide) (by decide) (by decide) (by decide)]
        exact (hC.2.2.1 k hk2).1
      · unfold cTxt
        rw [eo 4 (by decide) (by decide) (by decide) (by decide), eo 13 (by decide) (by decide) (by decide) (by decide)]
        exact hC.2.2.2.1
      · unfold cSgt
        rw [eo 3 (by decide) (by decide) (by decide) (by decide), eo 15 (by decide) (by decide) (by decide) (by decide), eo 16 (by decide) (by decide) (by decide) (by decide), eo 17 (by decide) (by decide) (by decide) (by decide)]
        simp only [ek 3 (by decide), ek 15 (by decide), ek 16 (by decide), ek 17 (by decide)]
        exact hC.2.2.2.2.1
      · rw [f1.2]
        exact hC.2.2.2.2.2
      · exact (((mEq.rf σ).st (by decide)).st (by decide)).tr f1.m
    · exact G_retZ rfl (Or.inl rfl) (Or.inl ⟨by
        have q := Classical.not_not.mp q
        rw [a3] at q
        exact ieq (b := 0) q (by omega) (by decide), rfl, rfl⟩)
  unfold fUndo nUndo
  refine G_call rfl hb ?_
  rintro r1 σ1 (⟨h0, rfl, rfl⟩ | ⟨h0, rfl, h1, h2⟩)
  · rw [gt_t h0, gt_t h0]
    refine G_if rfl (fun q => ?_) (fun q => ?_)
    · exact G_ret rfl ⟨rfl, hC, mEq.rf _⟩
    · exact absurd rfl q
  · have h0' : ¬ S.2.1.1 = 0 := by omega
    rw [gt_f h0', gt_f h0']
    refine G_if rfl (fun q => ?_) (fun q => ?_)
    · exact absurd q (by decide)
    · refine G_ret rfl ⟨?_, h1, h2⟩
      obtain ⟨nx', -, -, b3, -⟩ := h1.2.1
      rw [b3]
      rfl
end
section
/-! The model's pages copied. -/
def cpI (σ0 σc : Hp) (P Q a b i : Nat) : Prop := (∀ k, k ≠ P → σc.1 k = σ0.1 k) ∧ σc.2 = σ0.2 ∧ ∀ x, σc.1 P 0 x = if a ≤ x ∧ x < a + i then σ0.1 Q 0 (x - a + b) else σ0.1 P 0 x
theorem cpI.z (σ : Hp) (P Q a b : Nat) : cpI σ σ P Q a b 0 := ⟨fun _ _ => rfl, rfl, fun x => by rw [if_neg (by omega)]⟩
theorem cpI.s {σ0 σc : Hp} {P Q a b i : Nat} (h : cpI σ0 σc P Q a b i) (hPQ : P ≠ Q ∨ a ≤ b) : cpI σ0 (hset σc.1 P 0 (a + i) (σc.1 Q 0 (b + i)), σc.2) P Q a b (i + 1) := by
  obtain ⟨h1, h2, h3⟩ := h
  refine ⟨fun k q => ?_, h2, fun x => ?_⟩
  · show hset σc.1 P 0 (a + i) _ k = _
    rw [hk q, h1 k q]
  · show hset σc.1 P 0 (a + i) _ P 0 x = _
    by_cases hx : x = a + i
    · rw [hx, ix_eq0, if_pos (by omega), show a + i - a + b = b + i by omega]
      rcases hPQ with q | q
      · rw [h1 Q (fun e => q e.symm)]
      · by_cases e : Q = P
        · rw [e, h3, if_neg (by omega)]
        · rw [h1 Q e]
    · rw [hs_ne hx, h3]
      by_cases hy : a ≤ x ∧ x < a + i
      · rw [if_pos hy, if_pos (by omega)]
      · rw [if_neg hy, if_neg (by omega)]
theorem isPB.cp {σ σ' : Hp} {P Q a b : Nat} {B : BM} (h : isPB σ Q b B) (hs : szB B) (hc : ∀ x, x < 242 → σ'.1 P 0 (a + x) = σ.1 Q 0 (b + x)) : isPB σ' P a B := by
  obtain ⟨⟨h1, h2⟩, h3, h4⟩ := h
  obtain ⟨s1, s2⟩ := hs
  refine ⟨⟨?_, fun i hi => ?_⟩, ?_, fun i hi => ?_⟩
  · have := hc 0 (by decide)
    rw [Nat.add_zero, Nat.add_zero] at this
    rw [this, h1]
  · obtain ⟨q1, q2, q3⟩ := h2 i hi
    refine ⟨?_, ?_, ?_⟩
    · rw [Nat.add_assoc, hc _ (by omega), ← Nat.add_assoc, q1]
    · rw [Nat.add_assoc, hc _ (by omega), ← Nat.add_assoc, q2]
    · rw [Nat.add_assoc, hc _ (by omega), ← Nat.add_assoc, q3]
  · rw [hc _ (by decide), h3]
  · obtain ⟨q1, q2, q3⟩ := h4 i hi
    refine ⟨?_, ?_, ?_⟩
    · rw [Nat.add_assoc, Nat.add_assoc, hc _ (by omega), ← Nat.add_assoc, ← Nat.add_assoc, q1]
    · rw [Nat.add_assoc, Nat.add_assoc, hc _ (by omega), ← Nat.add_assoc, ← Nat.add_assoc, q2]
    · rw [Nat.add_assoc, Nat.add_assoc, hc _ (by omega), ← Nat.add_assoc, ← Nat.add_assoc, q3]
theorem cpI.at {σ σ' : Hp} {P Q a b n : Nat} (h : cpI σ σ' P Q a b n) : ∀ x, x < n → σ'.1 P 0 (a + x) = σ.1 Q 0 (b + x) := fun x hx => by
  rw [h.2.2, if_pos (by omega), show a + x - a + b = b + x by omega]
theorem cpI.out {σ σ' : Hp} {P Q a b n : Nat} (h : cpI σ σ' P Q a b n) : ∀ x, x < a ∨ a + n ≤ x → σ'.1 P 0 x = σ.1 P 0 x := fun x hx => by
  rw [h.2.2, if_neg (by omega)]
/-- the model's own scratch alone has changed -/
def frT (σ σ' : Hp) : Prop := (∀ k i, k ≠ 6 → k ≠ 19 → k ≠ 20 → k ≠ 22 → k ≠ 29 → k ≠ 30 → σ'.1 k i = σ.1 k i) ∧ (∀ s, s = 2 ∨ s = 11 ∨ s = 14 → σ'.1 6 0 s = σ.1 6 0 s) ∧ σ'.2 = σ.2
theorem frT.rf (σ : Hp) : frT σ σ := ⟨fun _ _ _ _ _ _ _ _ => rfl, fun _ _ => rfl, rfl⟩
theorem frT.tr {σ σ1 σ2 : Hp} (h : frT σ σ1) (h2 : frT σ1 σ2) : frT σ σ2 := ⟨fun k i q1 q2 q3 q4 q5 q6 => (h2.1 k i q1 q2 q3 q4 q5 q6).trans (h.1 k i q1 q2 q3 q4 q5 q6), fun s q => (h2.2.1 s q).trans (h.2.1 s q), h2.2.2.trans h.2.2⟩
theorem frS.t {σ σ' : Hp} (h : frS σ σ') : frT σ σ' := ⟨fun k i q _ _ _ _ _ => h.1 k i q, h.2.1, h.2.2⟩
theorem frP.t {mb : Nat} {σ σ' : Hp} (h : frP 22 mb σ σ') : frT σ σ' := ⟨fun k i q _ _ q2 _ _ => h.1 k i q (fun e => q2 e.1), h.2.1, h.2.2.1⟩
theorem cpI.t {σ σ' : Hp} {Q a b n : Nat} (h : cpI σ σ' 22 Q a b n) : frT σ σ' := ⟨fun k i q _ _ q2 _ _ => by rw [h.1 k q2], fun s _ => by rw [h.1 6 (by decide)], h.2.1⟩
theorem frT.c {σ σ' : Hp} (h : frT σ σ') : cEq σ σ' := ⟨fun k q => funext (fun i => h.1 k i (by omega) (by omega) (by omega) (by omega) (by omega) (by omega)), by rw [h.2.2], by rw [h.2.2]⟩
theorem MS.t {σ σ' : Hp} {S : SS} (h : MS σ S) (hf : frT σ σ') : MS σ' S := by
  have e : ∀ k, k ≠ 6 → k ≠ 19 → k ≠ 20 → k ≠ 22 → k ≠ 29 → k ≠ 30 → σ'.1 k = σ.1 k := fun k q1 q2 q3 q4 q5 q6 => funext (fun i => hf.1 k i q1 q2 q3 q4 q5 q6)
  unfold MS mAct mSlt mTxt mSgt isPB isP at h ⊢
  rw [hf.2.1 11 (by decide), hf.2.1 2 (by decide), hf.2.1 14 (by decide), e 18 (by decide) (by decide) (by decide) (by decide) (by decide) (by decide), e 21 (by decide) (by decide) (by decide) (by decide) (by decide) (by decide), e 23 (by decide) (by decide) (by decide) (by decide) (by decide) (by decide), e 24 (by decide) (by decide) (by decide) (by decide) (by decide) (by decide), e 25 (by decide) (by decide) (by decide) (by decide) (by decide) (by decide), e 26 (by decide) (by decide) (by decide) (by decide) (by decide) (by decide), e 27 (by decide) (by decide) (by decide) (by decide) (by decide) (by decide), e 28 (by decide) (by decide) (by decide) (by decide) (by decide) (by decide), hf.2.2]
  exact h
theorem ev_begin {σ : Hp} {B : BM} (hB : isPB σ 21 0 B) (hs : szB B) : Ev 129 [rMo] σ (fun r σ' => r = none ∧ isPB σ' 22 0 B ∧ frT σ σ') := by
  have loop : ∀ (n i : Nat) (xi : Int32) (σc : Hp), xi = nI i → i + n = 242 → cpI σ σc 22 21 0 0 i → RR 129 2 [some rMo, some (.inl xi)] [] σc (fun r σ' => r = none ∧ isPB σ' 22 0 B ∧ frT σ σ') := by
    intro n
    induction n with
    | zero =>
      intro i xi σc hx hi hc
      have hi : i = 242 := hi
      subst hi
      refine G_if rfl (fun q => ?_) (fun q => ?_)
      · exact G_ret rfl ⟨rfl, hB.cp hs hc.at, hc.t⟩
      · rw [hx] at q
        exact absurd (by decide) q
    | succ n ih =>
      intro i xi σc hx hi hc
      refine G_if rfl (fun q => ?_) (fun q => ?_)
      · rw [hx] at q
        exact absurd (ile (a := 242) q (by decide) (by omega)) (by omega)
      · refine G_ald rfl (0 + i) (by rw [hx, Nat.zero_add]) (by omega) (by decide) ?_
        refine G_ast rfl (0 + i) (by rw [hx, Nat.zero_add]) (by omega) (by decide) ?_
        refine G_to [2] rfl ?_
        exact ih (i + 1) _ _ (by rw [hx, nI_1]) (by omega) (hc.s (Or.inl (by decide)))
  refine G_to [2] rfl ?_
  exact loop 242 0 _ σ nI_0.symm rfl (cpI.z _ _ _ _ _)
theorem m242 (m : Nat) : (242 : Int32) * nI m = nI (242 * m) := by
  rw [show (242 : Int32) = nI 242 from rfl, pk_mul]
theorem ev_note {σ : Hp} {S : SS} (hM : MS σ S) (hS : SI S) : Ev 98 [rMo] σ (fun r σ' => r = none ∧ MS σ' (S.1, pushH S.2.1 S.1, S.2.2) ∧ cEq σ σ') := by
  have hl := hS.2.1.1
  have l2 : ∀ (σ1 : Hp) (a : Nat), a < 14 → σ1.1 6 0 11 = nI a → ∀ (Q : Option PV → Hp → Prop), (∀ σe, cpI σ1 σe 23 21 (242 * a) 0 242 → RR 98 86 [some rMo, some (.inl (nI 242))] [] σe Q) → ∀ (n i : Nat) (xi : Int32) (σc : Hp), xi = nI i → i + n = 242 → cpI σ1 σc 23 21 (242 * a) 0 i → RR 98 52 [some rMo, some (.inl xi)] [] σc Q := by
    intro σ1 a ha h11 Q hQ n
    induction n with
    | zero =>
      intro i xi σc hx hi hc
      have hi : i = 242 := hi
      subst hi
      refine G_if rfl (fun q => ?_) (fun q => ?_)
      · rw [hx]
        exact hQ _ hc
      · rw [hx] at q
        exact absurd (by decide) q
    | succ n ih =>
      intro i xi σc hx hi hc
      have h11c : σc.1 6 0 11 = nI a := by rw [hc.1 6 (by decide), h11]
      refine G_if rfl (fun q => ?_) (fun q => ?_)
      · rw [hx] at q
        exact absurd (ile (a := 242) q (by decide) (by omega)) (by omega)
      · refine G_ald rfl (0 + i) (by rw [hx, Nat.zero_add]) (by omega) (by decide) ?_
        refine G_ast rfl (242 * a + i) (by rw [h11c, hx, m242, nI_add]) (by omega) (by decide) ?_
        refine G_to [52] rfl ?_
        exact ih (i + 1) _ _ (by rw [hx, nI_1]) (by omega) (hc.s (Or.inl (by decide)))
  have fin : ∀ (σ1 σe : Hp) (a : Nat), a < 14 → σ1.1 6 0 11 = nI a → isPB σ1 21 0 S.1 → a + 1 = min (S.2.1.1 + 1) 14 → (∀ k, k ≠ 6 → k ≠ 23 → σ1.1 k = σ.1 k) → (∀ s, s ≠ 11 → σ1.1 6 0 s = σ.1 6 0 s) → σ1.2 = σ.2 → (∀ h, h < a → isPB σ1 23 (242 * (a - 1 - h)) (S.2.1.2 h)) → cpI σ1 σe 23 21 (242 * a) 0 242 → RR 98 86 [some rMo, some (.inl (nI 242))] [] σe (fun r σ' => r = none ∧ MS σ' (S.1, pushH S.2.1 S.1, S.2.2) ∧ cEq σ σ') := by
    intro σ1 σe a ha h11 hB hmin e1 e6 e2 hH hc
    have h11e : σe.1 6 0 11 = nI a := by rw [hc.1 6 (by decide), h11]
    have ee : ∀ k v, k ≠ 6 → k ≠ 23 → hset σe.1 6 0 11 v k = σ.1 k := fun k v q1 q2 => by rw [hk q1, hc.1 k q2, e1 k q1 q2]
    have e6e : ∀ v s, s ≠ 11 → hset σe.1 6 0 11 v 6 0 s = σ.1 6 0 s := fun v s q => by rw [hs_ne q, hc.1 6 (by decide), e6 s q]
    have hce : ∀ v, cEq σ (hset σe.1 6 0 11 v, σe.2) := fun v => ⟨fun k q => ee k v (by omega) (by omega), by show σe.2.1 5 = _; rw [hc.2.1, e2], by show σe.2.2 = _; rw [hc.2.1, e2]⟩
    refine G_ret rfl ⟨rfl, ?_, hce _⟩
    have hR : ∀ v h, h < a + 1 → isPB (hset σe.1 6 0 11 v, σe.2) 23 (242 * (a + 1 - 1 - h)) ((pushH S.2.1 S.1).2 h) := by
      intro v h hh
      cases h with
      | zero =>
        refine isPB.cp (σ := σ1) (Q := 21) (b := 0) hB hS.1.sz (fun x hx => ?_)
        show σe.1 23 0 _ = _
        rw [show a + 1 - 1 - 0 = a by omega]
        exact hc.at x hx
      | succ h =>
        refine isPB.cp (hH h (by omega)) (hS.2.1.2 h (by omega)).sz (fun x hx => ?_)
        show σe.1 23 0 _ = _
        rw [show a + 1 - 1 - (h + 1) = a - 1 - h by omega]
        exact hc.out _ (Or.inl (by omega))
    refine ⟨?_, ⟨?_, ?_⟩, fun k hk2 => ⟨?_, fun B hb => ?_⟩, ?_, ?_, ?_⟩
    · have := hM.1
      unfold isPB isP at this ⊢
      simp only [ee 21 _ (by decide) (by decide)]
      exact this
    · show σe.1 6 0 11 + 1 = nI (min (S.2.1.1 + 1) 14)
      rw [h11e, nI_1, hmin]
    · intro h hh
      have hh : h < min (S.2.1.1 + 1) 14 := hh
      have := hR (σe.1 6 0 11 + 1) h (by omega)
      rw [hmin] at this
      exact this
    · show σe.1 25 0 k = _
      rw [hc.1 25 (by decide), e1 25 (by decide) (by decide)]
      exact (hM.2.2.1 k hk2).1
    · have := (hM.2.2.1 k hk2).2 B hb
      unfold isPB isP at this ⊢
      simp only [ee 24 _ (by decide) (by decide)]
      exact this
    · have := hM.2.2.2.1
      unfold mTxt at this ⊢
      simp only [ee 18 _ (by decide) (by decide), e6e _ 2 (by decide)]
      exact this
    · have := hM.2.2.2.2.1
      unfold mSgt at this ⊢
      simp only [ee 26 _ (by decide) (by decide), ee 27 _ (by decide) (by decide), ee 28 _ (by decide) (by decide), e6e _ 14 (by decide)]
      exact this
    · show σe.2.1 6 = _
      rw [hc.2.1, e2]
      exact hM.2.2.2.2.2
  refine G_if rfl (fun q => ?_) (fun q => ?_)
  · have hlt : S.2.1.1 < 14 := by
      rw [hM.2.1.1] at q
      rcases Nat.lt_or_ge S.2.1.1 14 with h | h
      · exact h
      · exact absurd (by rw [show S.2.1.1 = 14 by omega]; rfl) q
    refine G_to [52] rfl ?_
    exact l2 σ S.2.1.1 hlt hM.2.1.1 _ (fun σe hc => fin σ σe S.2.1.1 hlt hM.2.1.1 hM.1 (by omega) (fun _ _ _ => rfl) (fun _ _ => rfl) rfl hM.2.1.2 hc) 242 0 _ σ nI_0.symm rfl (cpI.z _ _ _ _ _)
  · have heq : S.2.1.1 = 14 := by
      have q := Classical.not_not.mp q
      rw [hM.2.1.1] at q
      exact ieq (b := 14) q (by omega) (by decide)
    have l1 : ∀ (n i : Nat) (xi : Int32) (σc : Hp), xi = nI i → i + n = 3146 → cpI σ σc 23 23 0 242 i → RR 98 11 [some rMo, some (.inl xi)] [] σc (fun r σ' => r = none ∧ MS σ' (S.1, pushH S.2.1 S.1, S.2.2) ∧ cEq σ σ') := by
      intro n
      induction n with
      | zero =>
        intro i xi σc hx hi hc
        have hi : i = 3146 := hi
        subst hi
        refine G_if rfl (fun q => ?_) (fun q => ?_)
        · refine G_to [52] rfl ?_
          have h11 : σc.1 6 0 11 - 1 = nI 13 := by rw [hc.1 6 (by decide), hM.2.1.1, heq]; rfl
          rw [h11]
          have hcf : ∀ x, x < 3146 → σc.1 23 0 (0 + x) = σ.1 23 0 (242 + x) := hc.at
          refine l2 (hset σc.1 6 0 11 (nI 13), σc.2) 13 (by decide) rfl _ (fun σe hc2 => fin _ σe 13 (by decide) rfl ?_ (by omega) ?_ ?_ ?_ ?_ hc2) 242 0 _ _ nI_0.symm rfl (cpI.z _ _ _ _ _)
          · refine isPB.cp hM.1 hS.1.sz (fun x hx => ?_)
            show σc.1 21 0 _ = _
            rw [hc.1 21 (by decide)]
          · intro k q1 q2
            show hset σc.1 6 0 11 (nI 13) k = _
            rw [hk q1, hc.1 k q2]
          · intro s q1
            show hset σc.1 6 0 11 (nI 13) 6 0 s = _
            rw [hs_ne q1, hc.1 6 (by decide)]
          · exact hc.2.1
          · intro h hh
            refine isPB.cp (hM.2.1.2 h (by omega)) (hS.2.1.2 h (by omega)).sz (fun x hx => ?_)
            show σc.1 23 0 _ = _
            have := hcf (242 * (13 - 1 - h) + x) (by omega)
            rw [Nat.zero_add] at this
            rw [this, heq, show 242 + (242 * (13 - 1 - h) + x) = 242 * (14 - 1 - h) + x by omega]
        · rw [hx] at q
          exact absurd (by decide) q
      | succ n ih =>
        intro i xi σc hx hi hc
        refine G_if rfl (fun q => ?_) (fun q => ?_)
        · rw [hx] at q
          exact absurd (ile (a := 3146) q (by decide) (by omega)) (by omega)
        · refine G_ald rfl (242 + i) (by rw [hx, show (242 : Int32) = nI 242 from rfl, nI_add, Nat.add_comm]) (by omega) (by decide) ?_
          refine G_ast rfl (0 + i) (by rw [hx, Nat.zero_add]) (by omega) (by decide) ?_
          refine G_to [11] rfl ?_
          exact ih (i + 1) _ _ (by rw [hx, nI_1]) (by omega) (hc.s (Or.inr (by decide)))
    refine G_to [11] rfl ?_
    exact l1 3146 0 _ σ nI_0.symm rfl (cpI.z _ _ _ _ _)
end
section
/-! undo, keep, again. -/
theorem m_undo {S : SS} (hS : SI S) : MSpec 115 [] S (.inl (fUndo S)) (nUndo S) := by
  intro σ hM
  have hl := hS.2.1.1
  have hM0 := hM.scr (frS.th σ)
  have hc0 := (frS.th σ).c
  unfold fUndo nUndo
  refine G_if rfl (fun q => ?_) (fun q => ?_)
  · have h0 : ¬ S.2.1.1 = 0 := fun e => q (by rw [show (hset σ.1 6 0 0 0, σ.2).1 6 0 11 = _ from hM0.2.1.1, e]; rfl)
    rw [gt_f h0, gt_f h0]
    have hlast : ∀ σ1 σe : Hp, σ1 = (hset (hset σ.1 6 0 0 0) 6 0 11 (nI (S.2.1.1 - 1)), σ.2) → cpI σ1 σe 21 23 0 (242 * (S.2.1.1 - 1)) 242 → MS σe (S.2.1.2 0, popH S.2.1, S.2.2) ∧ cEq σ σe ∧ σe.1 6 0 11 = nI (S.2.1.1 - 1) := by
      intro σ1 σe h1 hc
      have ee : ∀ k, k ≠ 6 → k ≠ 21 → σe.1 k = σ.1 k := fun k q1 q2 => by rw [hc.1 k q2, h1]; show hset (hset σ.1 6 0 0 0) 6 0 11 _ k = _; rw [hk q1, hk q1]
      have e6 : σe.1 6 = hset (hset σ.1 6 0 0 0) 6 0 11 (nI (S.2.1.1 - 1)) 6 := by rw [hc.1 6 (by decide), h1]
      have e61 : σe.1 6 0 11 = nI (S.2.1.1 - 1) := by rw [e6]; rfl
      refine ⟨⟨?_, ⟨e61, fun h hh => ?_⟩, fun k hk2 => ⟨?_, fun B hb => ?_⟩, ?_, ?_, ?_⟩, ⟨fun k q => ee k (by omega) (by omega), by rw [hc.2.1, h1], by rw [hc.2.1, h1]⟩, e61⟩
      · refine isPB.cp (hM.2.1.2 0 (by omega)) (hS.2.1.2 0 (by omega)).sz (fun x hx => ?_)
        rw [hc.at x hx, h1, show S.2.1.1 - 1 - 0 = S.2.1.1 - 1 by omega]
        rfl
      · have hh : h < S.2.1.1 - 1 := hh
        have := hM.2.1.2 (h + 1) (by omega)
        show isPB σe 23 (242 * (S.2.1.1 - 1 - 1 - h)) (S.2.1.2 (h + 1))
        rw [show S.2.1.1 - 1 - 1 - h = S.2.1.1 - 1 - (h + 1) by omega]
        unfold isPB isP at this ⊢
        rw [ee 23 (by decide) (by decide)]
        exact this
      · rw [ee 25 (by decide) (by decide)]
        exact (hM.2.2.1 k hk2).1
      · have := (hM.2.2.1 k hk2).2 B hb
        unfold isPB isP at this ⊢
        rw [ee 24 (by decide) (by decide)]
        exact this
      · have := hM.2.2.2.1
        unfold mTxt at this ⊢
        rw [ee 18 (by decide) (by decide), e6]
        exact this
      · have := hM.2.2.2.2.1
        unfold mSgt at this ⊢
        rw [ee 26 (by decide) (by decide), ee 27 (by decide) (by decide), ee 28 (by decide) (by decide), e6]
        exact this
      · rw [hc.2.1, h1]
        exact hM.2.2.2.2.2
    have loop : ∀ (σ1 : Hp), σ1 = (hset (hset σ.1 6 0 0 0) 6 0 11 (nI (S.2.1.1 - 1)), σ.2) → ∀ (n i : Nat) (xi : Int32) (σc : Hp), xi = nI i → i + n = 242 → cpI σ1 σc 21 23 0 (242 * (S.2.1.1 - 1)) i → RR 115 27 [some rMo, some (.inl xi)] [] σc (fun r σ' => r = some (.inl (nI (S.2.1.1 - 1))) ∧ MS σ' (S.2.1.2 0, popH S.2.1, S.2.2) ∧ cEq σ σ') := by
      intro σ1 h1 n
      induction n with
      | zero =>
        intro i xi σc hx hi hc
        have hi : i = 242 := hi
        subst hi
        obtain ⟨q1, q2, q3⟩ := hlast σ1 σc h1 hc
        refine G_if rfl (fun q => ?_) (fun q => ?_)
        · exact G_ret rfl ⟨by rw [q3], q1, q2⟩
        · rw [hx] at q
          exact absurd (by decide) q
      | succ n ih =>
        intro i xi σc hx hi hc
        have h11c : σc.1 6 0 11 = nI (S.2.1.1 - 1) := by rw [hc.1 6 (by decide), h1]; rfl
        refine G_if rfl (fun q => ?_) (fun q => ?_)
        · rw [hx] at q
          exact absurd (ile (a := 242) q (by decide) (by omega)) (by omega)
        · refine G_ald rfl (242 * (S.2.1.1 - 1) + i) (by rw [h11c, hx, m242, nI_add]) (by omega) (by decide) ?_
          refine G_ast rfl (0 + i) (by rw [hx, Nat.zero_add]) (by omega) (by decide) ?_
          refine G_to [27] rfl ?_
          exact ih (i + 1) _ _ (by rw [hx, nI_1]) (by omega) (hc.s (Or.inl (by decide)))
    refine G_to [27] rfl ?_
    have e11 : (hset σ.1 6 0 0 0) 6 0 11 - 1 = nI (S.2.1.1 - 1) := by
      rw [show hset σ.1 6 0 0 0 6 0 11 = nI S.2.1.1 from hM0.2.1.1, lm1 (by omega)]
    refine loop _ ?_ 242 0 _ _ nI_0.symm rfl (cpI.z _ _ _ _ _)
    show (hset (hset σ.1 6 0 0 0) 6 0 11 ((hset σ.1 6 0 0 0) 6 0 11 - 1), σ.2) = _
    rw [e11]
  · have h0 : S.2.1.1 = 0 := by
      have q := Classical.not_not.mp q
      rw [show (hset σ.1 6 0 0 0, σ.2).1 6 0 11 = _ from hM0.2.1.1] at q
      exact ieq (b := 0) q (by omega) (by decide)
    rw [gt_t h0, gt_t h0]
    exact G_ret rfl ⟨rfl, hM0, hc0⟩
def upO (f : Nat → Option BM) (k : Nat) (B : BM) : Nat → Option BM := fun j => if j = k then some B else f j
noncomputable def fKeep (S : SS) (x : Int32) : Int32 := gt (okM x) (nI (S.1.1.1 + S.1.2.1)) (-1)
noncomputable def nKeep (S : SS) (x : Int32) : SS := gt (okM x) (S.1, S.2.1, upO S.2.2.1 x.toNatClampNeg S.1, S.2.2.2) S
theorem SI.keep {S : SS} (hS : SI S) (x : Int32) : SI (nKeep S x) := by
  unfold nKeep
  by_cases h : okM x
  · rw [gt_t h]
    refine ⟨hS.1, hS.2.1, fun k B hk hB => ?_, hS.2.2.2⟩
    have hB : (if k = x.toNatClampNeg then some S.1 else S.2.2.1 k) = some B := hB
    by_cases e : k = x.toNatClampNeg
    · rw [if_pos e] at hB
      cases hB
      exact hS.1
    · rw [if_neg e] at hB
      exact hS.2.2.1 k B hk hB
  · rw [gt_f h]
    exact hS
theorem c_keep {S : SS} (hS : SI S) (x : Int32) : CSpec 84 [.inl x] S (.inl (fKeep S x)) (nKeep S x) := by
  intro σ hC
  unfold fKeep nKeep
  refine G_call rfl (ev_isSlot x σ) ?_
  rintro r1 σ1 ⟨rfl, ⟨h1, rfl⟩ | ⟨h1, rfl⟩⟩
  · refine G_if rfl (fun q => ?_) (fun q => ?_)
    · have h1 : okM x := h1
      rw [gt_t h1, gt_t h1]
      obtain ⟨m, hm, rfl⟩ := okM_nat h1
      rw [nI_clamp (by omega)]
      refine G_ald rfl m rfl (by omega) (by decide) ?_
      refine G_call rfl (ev_bcopy (b := 16 + m) hC.1 hS.1.sz (by omega)) ?_
      rintro r1 σ2 ⟨rfl, h2, f2⟩
      refine G_zst rfl m rfl (by omega) (by decide) (Or.inr rfl) ?_
      have eB : ∀ b B, isB σ2 b B → isB (hset σ2.1 12 0 m 1, σ2.2) b B := fun b B q => q
      refine G_call rfl (ev_bitems (eB _ _ (f2.b (by omega) hC.1))) ?_
      rintro r1 σ3 ⟨rfl, rfl⟩
      have eo : ∀ k, k ≠ 2 → k ≠ 7 → k ≠ 8 → k ≠ 9 → σ2.1 k = _ := fun k q1 q2 q3 q4 => funext (fun i => f2.1 k i (by omega))
      obtain ⟨nx, a1, a2, a3, a4⟩ := id hC.2.1
      refine G_ret rfl ⟨rfl, ⟨eB _ _ (f2.b (by omega) hC.1), ⟨nx, a1, ?_, ?_, fun h hh => eB _ _ (f2.b (by omega) (a4 h hh))⟩, fun k hk2 => ?_, ?_, ?_, ?_⟩, f2.m.st (by decide)⟩
      · show σ2.1 0 0 1 = _
        rw [eo 0 (by decide) (by decide) (by decide) (by decide)]
        exact a2
      · show σ2.1 0 0 2 = _
        rw [eo 0 (by decide) (by decide) (by decide) (by decide)]
        exact a3
      · show hset σ2.1 12 0 m 1 12 0 k = kp (if k = m then some S.1 else S.2.2.1 k) ∧ ∀ B, (if k = m then some S.1 else S.2.2.1 k) = some B → _
        by_cases e : k = m
        · subst e
          rw [if_pos rfl, ix_eq0]
          refine ⟨rfl, fun B hB => ?_⟩
          cases hB
          exact eB _ _ h2
        · rw [if_neg e, hs_ne e, eo 12 (by decide) (by decide) (by decide) (by decide)]
          exact ⟨(hC.2.2.1 k hk2).1, fun B hB => eB _ _ (f2.b (by omega) ((hC.2.2.1 k hk2).2 B hB))⟩
      · have := hC.2.2.2.1
        unfold cTxt at this ⊢
        show σ2.1 4 0 2 = _ ∧ ∀ i, _ → σ2.1 13 0 i = _
        rw [eo 4 (by decide) (by decide) (by decide) (by decide), eo 13 (by decide) (by decide) (by decide) (by decide)]
        exact this
      · have := hC.2.2.2.2.1
        unfold cSgt at this ⊢
        show σ2.1 3 0 3 = _ ∧ ∀ i, _ → σ2.1 15 0 i = _ ∧ σ2.1 16 0 i = _ ∧ σ2.1 17 0 i = _
        rw [eo 3 (by decide) (by decide) (by decide) (by decide), eo 15 (by decide) (by decide) (by decide) (by decide), eo 16 (by decide) (by decide) (by decide) (by decide), eo 17 (by decide) (by decide) (by decide) (by decide)]
        exact this
      · show σ2.2.1 5 = _
        rw [f2.2]
        exact hC.2.2.2.2.2
    · exact absurd (by decide) q
  · refine G_if rfl (fun q => ?_) (fun q => ?_)
    · exact absurd rfl q
    · have h1 : ¬ okM x := h1
      rw [gt_f h1, gt_f h1]
      exact G_ret rfl ⟨rfl, hC, mEq.rf _⟩
theorem m_keep {S : SS} (hS : SI S) (x : Int32) : MSpec 155 [.inl x] S (.inl (fKeep S x)) (nKeep S x) := by
  intro σ hM
  have hM0 := hM.scr (frS.th σ)
  have hc0 := (frS.th σ).c
  have z1 := hS.1.sz
  unfold fKeep nKeep
  refine G_call rfl (ev_in _ _ _ _) ?_
  rintro r1 σ1 ⟨rfl, ⟨a1, a2, rfl⟩ | ⟨h1, rfl⟩⟩
  · have h1 : okM x := i01'.mp ⟨(i64_le (x := 0)).mp a1, (i64_le (y := 1)).mp a2⟩
    refine G_if rfl (fun q => ?_) (fun q => ?_)
    · rw [gt_t h1, gt_t h1]
      obtain ⟨m, hm, rfl⟩ := okM_nat h1
      rw [nI_clamp (by omega)]
      refine G_zst rfl m rfl (by omega) (by decide) (Or.inr rfl) ?_
      have loop : ∀ (σ1 : Hp), σ1 = (hset (hset σ.1 6 0 0 0) 25 0 m 1, σ.2) → ∀ (n i : Nat) (xi : Int32) (σc : Hp), xi = nI i → i + n = 242 → cpI σ1 σc 24 21 (242 * m) 0 i → RR 155 26 [some rMo, some (.inl (nI m)), some (.inl xi)] [] σc (fun r σ' => r = some (.inl (nI (S.1.1.1 + S.1.2.1))) ∧ MS σ' (S.1, S.2.1, upO S.2.2.1 m S.1, S.2.2.2) ∧ cEq σ σ') := by
        intro σ1 h1 n
        induction n with
        | zero =>
          intro i xi σc hx hi hc
          have hi : i = 242 := hi
          subst hi
          have ee : ∀ k, k ≠ 6 → k ≠ 24 → k ≠ 25 → σc.1 k = σ.1 k := fun k q1 q2 q3 => by rw [hc.1 k q2, h1]; show hset (hset σ.1 6 0 0 0) 25 0 m 1 k = _; rw [hk q3, hk q1]
          have e6 : ∀ s, s ≠ 0 → σc.1 6 0 s = σ.1 6 0 s := fun s q => by rw [hc.1 6 (by decide), h1]; show hset (hset σ.1 6 0 0 0) 25 0 m 1 6 0 s = _; rw [hk (by decide), hs_ne q]
          have hB : isPB σc 21 0 S.1 := by
            have := hM.1
            unfold isPB isP at this ⊢
            rw [ee 21 (by decide) (by decide) (by decide)]
            exact this
          refine G_if rfl (fun q => ?_) (fun q => ?_)
          · refine G_ald rfl 0 rfl (by omega) (by decide) ?_
            refine G_ald rfl 121 rfl (by omega) (by decide) ?_
            refine G_ret rfl ⟨?_, ⟨hB, ⟨?_, fun h hh => ?_⟩, fun k hk2 => ?_, ?_, ?_, ?_⟩, ⟨fun k q => ee k (by omega) (by omega) (by omega), by rw [hc.2.1, h1], by rw [hc.2.1, h1]⟩⟩
            · have b1 := hB.1.1
              have b2 := hB.2.1
              rw [b1, b2, nI_add]
            · rw [e6 11 (by decide)]
              exact hM.2.1.1
            · have := hM.2.1.2 h hh
              unfold isPB isP at this ⊢
              rw [ee 23 (by decide) (by decide) (by decide)]
              exact this
            · show σc.1 25 0 k = kp (if k = m then some S.1 else S.2.2.1 k) ∧ ∀ B, (if k = m then some S.1 else S.2.2.1 k) = some B → _
              have e25 : σc.1 25 = hset (hset σ.1 6 0 0 0) 25 0 m 1 25 := by rw [hc.1 25 (by decide), h1]
              rw [e25]
              by_cases e : k = m
              · subst e
                rw [if_pos rfl, ix_eq0]
                refine ⟨rfl, fun B hb => ?_⟩
                cases hb
                refine isPB.cp hM.1 z1 (fun x hx => ?_)
                rw [hc.at x hx, h1]
                rfl
              · rw [if_neg e, hs_ne e]
                refine ⟨(hM.2.2.1 k hk2).1, fun B hb => ?_⟩
                refine isPB.cp ((hM.2.2.1 k hk2).2 B hb) (hS.2.2.1 k B hk2 hb).sz (fun x hx => ?_)
                rw [hc.out _ (by omega), h1]
                rfl
            · have := hM.2.2.2.1
              unfold mTxt at this ⊢
              rw [ee 18 (by decide) (by decide) (by decide), e6 2 (by decide)]
              exact this
            · have := hM.2.2.2.2.1
              unfold mSgt at this ⊢
              rw [ee 26 (by decide) (by decide) (by decide), ee 27 (by decide) (by decide) (by decide), ee 28 (by decide) (by decide) (by decide), e6 14 (by decide)]
              exact this
            · rw [hc.2.1, h1]
              exact hM.2.2.2.2.2
          · rw [hx] at q
            exact absurd (by decide) q
        | succ n ih =>
          intro i xi σc hx hi hc
          refine G_if rfl (fun q => ?_) (fun q => ?_)
          · rw [hx] at q
            exact absurd (ile (a := 242) q (by decide) (by omega)) (by omega)
          · refine G_ald rfl (0 + i) (by rw [hx, Nat.zero_add]) (by omega) (by decide) ?_
            refine G_ast rfl (242 * m + i) (by rw [hx, m242, nI_add]) (by omega) (by decide) ?_
            refine G_to [26] rfl ?_
            exact ih (i + 1) _ _ (by rw [hx, nI_1]) (by omega) (hc.s (Or.inl (by decide)))
      refine G_to [26] rfl ?_
      exact loop _ rfl 242 0 _ _ nI_0.symm rfl (cpI.z _ _ _ _ _)
    · exact absurd (by decide) q
  · have h1 : ¬ okM x := fun q => h1 (by
      have := i01'.mpr q
      exact ⟨(i64_le (x := 0)).mpr this.1, (i64_le (y := 1)).mpr this.2⟩)
    refine G_if rfl (fun q => ?_) (fun q => ?_)
    · exact absurd rfl q
    · rw [gt_f h1, gt_f h1]
      exact G_ret rfl ⟨rfl, hM0, hc0⟩
end
section
/-! again, write, seek. -/
theorem ev_inI (x lo hi : Int32) (σ : Hp) : Ev 89 [.inr (.inl x.toInt64), .inr (.inl lo.toInt64), .inr (.inl hi.toInt64)] σ (fun r σ' => σ' = σ ∧ (((lo ≤ x ∧ x ≤ hi) ∧ r = some (.inl 1)) ∨ (¬ (lo ≤ x ∧ x ≤ hi) ∧ r = some (.inl 0)))) := by
  refine (ev_in _ _ _ _).mono ?_
  rintro r σ' ⟨h1, ⟨h2, h3, h4⟩ | ⟨h2, h3⟩⟩
  · exact ⟨h1, Or.inl ⟨⟨i64_le.mp h2, i64_le.mp h3⟩, h4⟩⟩
  · exact ⟨h1, Or.inr ⟨fun q => h2 ⟨i64_le.mpr q.1, i64_le.mpr q.2⟩, h3⟩⟩
theorem irng {x : Int32} {n : Nat} (hn : n < 2147483648) : (0 ≤ x ∧ x ≤ nI n) ↔ ∃ k, k ≤ n ∧ x = nI k := by
  constructor
  · rintro ⟨h1, h2⟩
    obtain ⟨k, hk, rfl⟩ := nI_of (Int32.not_lt.mpr h1)
    exact ⟨k, ile h2 hk hn, rfl⟩
  · rintro ⟨k, hk, rfl⟩
    exact ⟨nI_pos' (by omega), nI_le hk hn⟩
noncomputable def fAgain (S : SS) (x : Int32) : Int32 := gt (okM x) (match S.2.2.1 x.toNatClampNeg with
  | none => -3
  | some B => nI (B.1.1 + B.2.1)) (-1)
noncomputable def nAgain (S : SS) (x : Int32) : SS := gt (okM x) (match S.2.2.1 x.toNatClampNeg with
  | none => S
  | some B => (B, (0, S.2.1.2), S.2.2)) S
theorem SI.again {S : SS} (hS : SI S) (x : Int32) : SI (nAgain S x) := by
  unfold nAgain
  by_cases h : okM x
  · rw [gt_t h]
    obtain ⟨m, hm, rfl⟩ := okM_nat h
    rw [nI_clamp (by omega)]
    cases hb : S.2.2.1 m with
    | none => exact hS
    | some B => exact ⟨hS.2.2.1 m B hm hb, ⟨Nat.zero_le _, fun h hh => by cases hh⟩, hS.2.2⟩
  · rw [gt_f h]
    exact hS
theorem c_again {S : SS} (hS : SI S) (x : Int32) : CSpec 86 [.inl x] S (.inl (fAgain S x)) (nAgain S x) := by
  intro σ hC
  unfold fAgain nAgain
  refine G_call rfl (ev_isSlot x σ) ?_
  rintro r1 σ1 ⟨rfl, ⟨h1, rfl⟩ | ⟨h1, rfl⟩⟩
  · refine G_if rfl (fun q => ?_) (fun q => ?_)
    · have h1 : okM x := h1
      rw [gt_t h1, gt_t h1]
      obtain ⟨m, hm, rfl⟩ := okM_nat h1
      rw [nI_clamp (by omega)]
      obtain ⟨k1, k2⟩ := hC.2.2.1 m hm
      refine G_ald rfl m rfl (by omega) (by decide) ?_
      rw [k1]
      cases hb : S.2.2.1 m with
      | none =>
        refine G_if rfl (fun q2 => ?_) (fun q2 => ?_)
        · exact absurd rfl q2
        · exact G_ret rfl ⟨rfl, hC, mEq.rf _⟩
      | some B =>
        refine G_if rfl (fun q2 => ?_) (fun q2 => ?_)
        · refine G_ald rfl m rfl (by omega) (by decide) ?_
          refine G_call rfl (ev_bcopy (b := 0) (bf := 16 + m) (k2 B hb) (hS.2.2.1 m B hm hb).sz (by omega)) ?_
          rintro r1 σ2 ⟨rfl, h2, f2⟩
          have eB : ∀ b B, isB σ2 b B → isB (hset σ2.1 0 0 2 0, σ2.2) b B := fun b B q => q
          refine G_call rfl (ev_bitems (eB _ _ h2)) ?_
          rintro r1 σ3 ⟨rfl, rfl⟩
          have eo : ∀ k, k ≠ 2 → k ≠ 7 → k ≠ 8 → k ≠ 9 → σ2.1 k = _ := fun k q1 q2 q3 q4 => funext (fun i => f2.1 k i (by omega))
          obtain ⟨nx, a1, a2, a3, a4⟩ := id hC.2.1
          refine G_ret rfl ⟨rfl, ⟨eB _ _ h2, ⟨nx, a1, ?_, rfl, fun h hh => by cases hh⟩, fun k hk2 => ⟨?_, fun B' hB' => eB _ _ (f2.b (by omega) ((hC.2.2.1 k hk2).2 B' hB'))⟩, ?_, ?_, ?_⟩, f2.m.st (by decide)⟩
          · show σ2.1 0 0 1 = _
            rw [eo 0 (by decide) (by decide) (by decide) (by decide)]
            exact a2
          · show σ2.1 12 0 k = _
            rw [eo 12 (by decide) (by decide) (by decide) (by decide)]
            exact (hC.2.2.1 k hk2).1
          · have := hC.2.2.2.1
            unfold cTxt at this ⊢
            show σ2.1 4 0 2 = _ ∧ ∀ i, _ → σ2.1 13 0 i = _
            rw [eo 4 (by decide) (by decide) (by decide) (by decide), eo 13 (by decide) (by decide) (by decide) (by decide)]
            exact this
          · have := hC.2.2.2.2.1
            unfold cSgt at this ⊢
            show σ2.1 3 0 3 = _ ∧ ∀ i, _ → σ2.1 15 0 i = _ ∧ σ2.1 16 0 i = _ ∧ σ2.1 17 0 i = _
            rw [eo 3 (by decide) (by decide) (by decide) (by decide), eo 15 (by decide) (by decide) (by decide) (by decide), eo 16 (by decide) (by decide) (by decide) (by decide), eo 17 (by decide) (by decide) (by decide) (by decide)]
            exact this
          · show σ2.2.1 5 = _
            rw [f2.2]
            exact hC.2.2.2.2.2
        · exact absurd (by show ¬ (1 : Int32) = 0; decide) q2
    · exact absurd (by decide) q
  · refine G_if rfl (fun q => ?_) (fun q => ?_)
    · exact absurd rfl q
    · have h1 : ¬ okM x := h1
      rw [gt_f h1, gt_f h1]
      exact G_ret rfl ⟨rfl, hC, mEq.rf _⟩
theorem m_again {S : SS} (hS : SI S) (x : Int32) : MSpec 156 [.inl x] S (.inl (fAgain S x)) (nAgain S x) := by
  intro σ hM
  have hM0 := hM.scr (frS.th σ)
  have hc0 := (frS.th σ).c
  unfold fAgain nAgain
  refine G_call rfl (ev_inI x 0 1 _) ?_
  rintro r1 σ1 ⟨rfl, ⟨h1, rfl⟩ | ⟨h1, rfl⟩⟩
  · have h1 : okM x := i01'.mp h1
    refine G_if rfl (fun q => ?_) (fun q => ?_)
    · rw [gt_t h1, gt_t h1]
      obtain ⟨m, hm, rfl⟩ := okM_nat h1
      rw [nI_clamp (by omega)]
      obtain ⟨k1, k2⟩ := hM0.2.2.1 m hm
      refine G_ald rfl m rfl (by omega) (by decide) ?_
      rw [k1]
      cases hb : S.2.2.1 m with
      | none =>
        refine G_if rfl (fun q2 => ?_) (fun q2 => ?_)
        · exact absurd rfl q2
        · exact G_ret rfl ⟨rfl, hM0, hc0⟩
      | some B =>
        have hsz := (hS.2.2.1 m B hm hb).sz
        have loop : ∀ (σ1 : Hp), σ1 = (hset σ.1 6 0 0 0, σ.2) → ∀ (n i : Nat) (xi : Int32) (σc : Hp), xi = nI i → i + n = 242 → cpI σ1 σc 21 24 0 (242 * m) i → RR 156 31 [some rMo, some (.inl (nI m)), some (.inl xi)] [] σc (fun r σ' => r = some (.inl (nI (B.1.1 + B.2.1))) ∧ MS σ' (B, (0, S.2.1.2), S.2.2) ∧ cEq σ σ') := by
          intro σ1 h1 n
          induction n with
          | zero =>
            intro i xi σc hx hi hc
            have hi : i = 242 := hi
            subst hi
            have ee : ∀ k, k ≠ 6 → k ≠ 21 → σc.1 k = σ.1 k := fun k q1 q2 => by rw [hc.1 k q2, h1]; show hset σ.1 6 0 0 0 k = _; rw [hk q1]
            have e6 : ∀ s, s ≠ 0 → σc.1 6 0 s = σ.1 6 0 s := fun s q => by rw [hc.1 6 (by decide), h1]; show hset σ.1 6 0 0 0 6 0 s = _; rw [hs_ne q]
            have hB : isPB σc 21 0 B := by
              refine isPB.cp (k2 B hb) hsz (fun x hx => ?_)
              rw [hc.at x hx, h1]
            refine G_if rfl (fun q => ?_) (fun q => ?_)
            · refine G_ald rfl 0 rfl (by omega) (by decide) ?_
              refine G_ald rfl 121 rfl (by omega) (by decide) ?_
              refine G_ret rfl ⟨?_, ⟨hB, ⟨rfl, fun h hh => by cases hh⟩, fun k hk2 => ⟨?_, fun B' hb' => ?_⟩, ?_, ?_, ?_⟩, ⟨fun k q => ?_, ?_, ?_⟩⟩
              · have b1 : σc.1 21 0 0 = _ := hB.1.1
                have b2 : σc.1 21 0 121 = _ := hB.2.1
                show some (Sum.inl (σc.1 21 0 0 + σc.1 21 0 121)) = _
                rw [b1, b2, nI_add]
              · show σc.1 25 0 k = _
                rw [ee 25 (by decide) (by decide)]
                exact (hM.2.2.1 k hk2).1
              · refine isPB.cp ((hM.2.2.1 k hk2).2 B' hb') (hS.2.2.1 k B' hk2 hb').sz (fun x hx => ?_)
                show σc.1 24 0 _ = _
                rw [ee 24 (by decide) (by decide)]
              · have := hM.2.2.2.1
                unfold mTxt at this ⊢
                show σc.1 6 0 2 = _ ∧ ∀ i, _ → σc.1 18 0 i = _
                rw [ee 18 (by decide) (by decide), e6 2 (by decide)]
                exact this
              · have := hM.2.2.2.2.1
                unfold mSgt at this ⊢
                show σc.1 6 0 14 = _ ∧ ∀ i, _ → σc.1 26 0 i = _ ∧ σc.1 27 0 i = _ ∧ σc.1 28 0 i = _
                rw [ee 26 (by decide) (by decide), ee 27 (by decide) (by decide), ee 28 (by decide) (by decide), e6 14 (by decide)]
                exact this
              · show σc.2.1 6 = _
                rw [hc.2.1, h1]
                exact hM.2.2.2.2.2
              · show hset σc.1 6 0 11 0 k = _
                rw [hk (by omega)]
                exact ee k (by omega) (by omega)
              · show σc.2.1 5 = _
                rw [hc.2.1, h1]
              · show σc.2.2 = _
                rw [hc.2.1, h1]
            · rw [hx] at q
              exact absurd (by decide) q
          | succ n ih =>
            intro i xi σc hx hi hc
            refine G_if rfl (fun q => ?_) (fun q => ?_)
            · rw [hx] at q
              exact absurd (ile (a := 242) q (by decide) (by omega)) (by omega)
            · refine G_ald rfl (242 * m + i) (by rw [hx, m242, nI_add]) (by omega) (by decide) ?_
              refine G_ast rfl (0 + i) (by rw [hx, Nat.zero_add]) (by omega) (by decide) ?_
              refine G_to [31] rfl ?_
              exact ih (i + 1) _ _ (by rw [hx, nI_1]) (by omega) (hc.s (Or.inl (by decide)))
        refine G_if rfl (fun q2 => ?_) (fun q2 => ?_)
        · refine G_to [31] rfl ?_
          exact loop _ rfl 242 0 _ _ nI_0.symm rfl (cpI.z _ _ _ _ _)
        · exact absurd (by show ¬ (1 : Int32) = 0; decide) q2
    · exact absurd (by decide) q
  · have h1 : ¬ okM x := fun q => h1 (i01'.mpr q)
    refine G_if rfl (fun q => ?_) (fun q => ?_)
    · exact absurd rfl q
    · rw [gt_f h1, gt_f h1]
      exact G_ret rfl ⟨rfl, hM0, hc0⟩
/-- write -/
def okLt (x : Int32) : Prop := ∃ k, k ≤ 255 ∧ x = nI k
noncomputable def fWrite (S : SS) (x : Int32) : Int32 := gt (okLt x) (gt (S.2.2.2.1.1 < 64) (nI (S.2.2.2.1.1 + 1)) (-4)) (-2)
noncomputable def nWrite (S : SS) (x : Int32) : SS := gt (okLt x) (gt (S.2.2.2.1.1 < 64) (S.1, S.2.1, S.2.2.1, (S.2.2.2.1.1 + 1, upN S.2.2.2.1.2 S.2.2.2.1.1 x.toNatClampNeg), S.2.2.2.2) S) S
theorem SI.write {S : SS} (hS : SI S) (x : Int32) : SI (nWrite S x) := by
  unfold nWrite
  by_cases h : okLt x
  · rw [gt_t h]
    by_cases h2 : S.2.2.2.1.1 < 64
    · rw [gt_t h2]
      obtain ⟨k, hk, rfl⟩ := h
      rw [nI_clamp (by omega)]
      refine ⟨hS.1, hS.2.1, hS.2.2.1, ⟨h2, fun i hi => ?_⟩, hS.2.2.2.2⟩
      show (if i = S.2.2.2.1.1 then k else S.2.2.2.1.2 i) < 256
      have hi : i < S.2.2.2.1.1 + 1 := hi
      by_cases e : i = S.2.2.2.1.1
      · rw [if_pos e]; omega
      · rw [if_neg e]
        exact hS.2.2.2.1.2 i (by omega)
    · rw [gt_f h2]; exact hS
  · rw [gt_f h]; exact hS
theorem c_write {S : SS} (hS : SI S) (x : Int32) : CSpec 42 [.inl x] S (.inl (fWrite S x)) (nWrite S x) := by
  intro σ hC
  have hl := hS.2.2.2.1.1
  have ht := hC.2.2.2.1
  unfold fWrite nWrite
  have bad : ¬ okLt x → RR 42 11 [some rT, some (.inl x)] [] σ (fun q σ' => q = some (.inl (gt (okLt x) (gt (S.2.2.2.1.1 < 64) (nI (S.2.2.2.1.1 + 1)) (-4)) (-2))) ∧ CS σ' (gt (okLt x) (gt (S.2.2.2.1.1 < 64) (S.1, S.2.1, S.2.2.1, (S.2.2.2.1.1 + 1, upN S.2.2.2.1.2 S.2.2.2.1.1 x.toNatClampNeg), S.2.2.2.2) S) S) ∧ mEq σ σ') := by
    intro h
    rw [gt_f h, gt_f h]
    exact G_ret rfl ⟨rfl, hC, mEq.rf _⟩
  refine G_if rfl (fun q => ?_) (fun q => ?_)
  · exact bad (fun e => absurd q (Int32.not_lt.mpr ((irng (n := 255) (by decide)).mpr e).1))
  · refine G_if rfl (fun q2 => ?_) (fun q2 => ?_)
    · have h : okLt x := (irng (n := 255) (by decide)).mp ⟨Int32.not_lt.mp q, q2⟩
      rw [gt_t h, gt_t h]
      obtain ⟨k, hk0, rfl⟩ := h
      rw [nI_clamp (by omega)]
      have ha : Ev 35 [.inr (.inr (4, 0)), .inl (nI k)] σ (fun r σ' => (S.2.2.2.1.1 < 64 ∧ r = some (.inl 1) ∧ σ' = (hset (hset σ.1 13 0 S.2.2.2.1.1 (nI k)) 4 0 2 (nI (S.2.2.2.1.1 + 1)), σ.2)) ∨ (¬ S.2.2.2.1.1 < 64 ∧ r = some (.inl 0) ∧ σ' = σ)) := by
        refine G_if rfl (fun q3 => ?_) (fun q3 => ?_)
        · have q3 : S.2.2.2.1.1 < 64 := by
            rw [ht.1] at q3
            exact ilt (b := 64) q3 (by omega) (by decide)
          refine G_ast rfl S.2.2.2.1.1 (by rw [ht.1]) (by omega) (by decide) ?_
          refine G_retZ rfl (Or.inr rfl) (Or.inl ⟨q3, rfl, ?_⟩)
          show (hset (hset σ.1 13 0 S.2.2.2.1.1 (nI k)) 4 0 2 (σ.1 4 0 2 + 1), σ.2) = _
          rw [ht.1, nI_1]
        · refine G_retZ rfl (Or.inl rfl) (Or.inr ⟨fun e => q3 ?_, rfl, rfl⟩)
          rw [ht.1]
          exact nI_lt (b := 64) e (by decide)
      refine G_call rfl ha ?_
      rintro r1 σ1 (⟨h2, rfl, rfl⟩ | ⟨h2, rfl, rfl⟩)
      · rw [gt_t h2, gt_t h2]
        refine G_if rfl (fun q3 => ?_) (fun q3 => ?_)
        · exact absurd q3 (by decide)
        · refine G_ret rfl ⟨rfl, hC.txt (fun k' q1 q2 _ => ?_) rfl ⟨rfl, fun i hi => ?_⟩, ((mEq.rf σ).st (by decide)).st (by decide)⟩
          · show hset (hset σ.1 13 0 S.2.2.2.1.1 (nI k)) 4 0 2 (nI (S.2.2.2.1.1 + 1)) k' = _
            rw [hk q1, hk q2]
          · have hi : i < S.2.2.2.1.1 + 1 := hi
            show hset σ.1 13 0 S.2.2.2.1.1 (nI k) 13 0 i = nI (if i = S.2.2.2.1.1 then k else S.2.2.2.1.2 i)
            by_cases e : i = S.2.2.2.1.1
            · rw [if_pos e, e, ix_eq0]
            · rw [if_neg e, hs_ne e]
              exact ht.2 i (by omega)
      · rw [gt_f h2, gt_f h2]
        refine G_if rfl (fun q3 => ?_) (fun q3 => ?_)
        · exact G_ret rfl ⟨rfl, hC, mEq.rf _⟩
        · exact absurd rfl q3
    · exact bad (fun e => absurd ((irng (n := 255) (by decide)).mpr e).2 q2)
theorem m_write {S : SS} (hS : SI S) (x : Int32) : MSpec 88 [.inl x] S (.inl (fWrite S x)) (nWrite S x) := by
  intro σ hM
  have hM0 := hM.scr (frS.th σ)
  have hc0 := (frS.th σ).c
  have hl := hS.2.2.2.1.1
  have ht := hM0.2.2.2.1
  have ht1 : hset σ.1 6 0 0 0 6 0 2 = nI S.2.2.2.1.1 := ht.1
  unfold fWrite nWrite
  refine G_call rfl (ev_inI x 0 255 _) ?_
  rintro r1 σ1 ⟨rfl, ⟨h1, rfl⟩ | ⟨h1, rfl⟩⟩
  · have h : okLt x := (irng (n := 255) (by decide)).mp h1
    refine G_if rfl (fun q => ?_) (fun q => ?_)
    · rw [gt_t h, gt_t h]
      obtain ⟨k, hk0, rfl⟩ := h
      rw [nI_clamp (by omega)]
      refine G_if rfl (fun q2 => ?_) (fun q2 => ?_)
      · have h2 : S.2.2.2.1.1 < 64 := by
          rcases Nat.lt_or_ge S.2.2.2.1.1 64 with h | h
          · exact h
          · exact absurd (by show hset σ.1 6 0 0 0 6 0 2 = 64; rw [ht1, show S.2.2.2.1.1 = 64 by omega]; rfl) q2
        rw [gt_t h2, gt_t h2]
        refine G_ast rfl S.2.2.2.1.1 (by show hset σ.1 6 0 0 0 6 0 2 = _; rw [ht1]) (by omega) (by decide) ?_
        refine G_ret rfl ⟨?_, hM.txt (fun k' q1 q2 _ _ => ?_) (fun s q => ?_) rfl ⟨?_, fun i hi => ?_⟩, ((hc0.st (by decide)).st (by decide))⟩
        · show some (Sum.inl (hset σ.1 6 0 0 0 6 0 2 + 1)) = _
          rw [ht1, nI_1]
        · show hset (hset (hset σ.1 6 0 0 0) 18 0 S.2.2.2.1.1 (nI k)) 6 0 2 (hset σ.1 6 0 0 0 6 0 2 + 1) k' = _
          rw [hk q1, hk q2, hk q1]
        · rcases q with rfl | rfl <;> rfl
        · show hset σ.1 6 0 0 0 6 0 2 + 1 = _
          rw [ht1, nI_1]
        · have hi : i < S.2.2.2.1.1 + 1 := hi
          show hset (hset σ.1 6 0 0 0) 18 0 S.2.2.2.1.1 (nI k) 18 0 i = nI (if i = S.2.2.2.1.1 then k else S.2.2.2.1.2 i)
          by_cases e : i = S.2.2.2.1.1
          · rw [if_pos e, e, ix_eq0]
          · rw [if_neg e, hs_ne e]
            exact ht.2 i (by omega)
      · have h2 : ¬ S.2.2.2.1.1 < 64 := by
          have q2 := Classical.not_not.mp q2
          rw [show (hset σ.1 6 0 0 0, σ.2).1 6 0 2 = _ from ht1] at q2
          have := ieq (b := 64) q2 (by omega) (by decide)
          omega
        rw [gt_f h2, gt_f h2]
        exact G_ret rfl ⟨rfl, hM0, hc0⟩
    · exact absurd (by decide) q
  · have h : ¬ okLt x := fun q => h1 ((irng (n := 255) (by decide)).mpr q)
    refine G_if rfl (fun q => ?_) (fun q => ?_)
    · exact absurd rfl q
    · rw [gt_f h, gt_f h]
      exact G_ret rfl ⟨rfl, hM0, hc0⟩
end
section
/-! seek. -/
def okSk (l f : Int32) : Prop := (∃ k, k ≤ 20 ∧ l = nI k) ∧ ∃ k, k ≤ 1 ∧ f = nI k
def sgAdd (g : SG) (m l f : Nat) : SG := (g.1 + 1, upN g.2.1 g.1 m, upN g.2.2.1 g.1 l, upN g.2.2.2 g.1 f)
noncomputable def fSeek (S : SS) (x l f : Int32) : Int32 := gt (okM x) (gt (okSk l f) (gt (S.2.2.2.2.1.1 < 6) (nI (S.2.2.2.2.1.1 + 1)) (-4)) (-2)) (-1)
noncomputable def nSeek (S : SS) (x l f : Int32) : SS := gt (okM x) (gt (okSk l f) (gt (S.2.2.2.2.1.1 < 6) (S.1, S.2.1, S.2.2.1, S.2.2.2.1, sgAdd S.2.2.2.2.1 x.toNatClampNeg l.toNatClampNeg f.toNatClampNeg, S.2.2.2.2.2) S) S) S
theorem SI.seek {S : SS} (hS : SI S) (x l f : Int32) : SI (nSeek S x l f) := by
  unfold nSeek
  by_cases h : okM x
  · rw [gt_t h]
    by_cases h1 : okSk l f
    · rw [gt_t h1]
      by_cases h2 : S.2.2.2.2.1.1 < 6
      · rw [gt_t h2]
        obtain ⟨m, hm, rfl⟩ := okM_nat h
        obtain ⟨⟨a, ha, rfl⟩, b, hb, rfl⟩ := h1
        rw [nI_clamp (by omega), nI_clamp (by omega), nI_clamp (by omega)]
        refine ⟨hS.1, hS.2.1, hS.2.2.1, hS.2.2.2.1, h2, fun i hi => ?_⟩
        show (if i = S.2.2.2.2.1.1 then m else S.2.2.2.2.1.2.1 i) < 2 ∧ (if i = S.2.2.2.2.1.1 then a else S.2.2.2.2.1.2.2.1 i) ≤ 20 ∧ (if i = S.2.2.2.2.1.1 then b else S.2.2.2.2.1.2.2.2 i) < 2
        have hi : i < S.2.2.2.2.1.1 + 1 := hi
        by_cases e : i = S.2.2.2.2.1.1
        · rw [if_pos e, if_pos e, if_pos e]; omega
        · rw [if_neg e, if_neg e, if_neg e]
          exact hS.2.2.2.2.2 i (by omega)
      · rw [gt_f h2]; exact hS
    · rw [gt_f h1]; exact hS
  · rw [gt_f h]; exact hS
theorem c_seek {S : SS} (hS : SI S) (x l f : Int32) : CSpec 74 [.inl x, .inl l, .inl f] S (.inl (fSeek S x l f)) (nSeek S x l f) := by
  intro σ hC
  have hl := hS.2.2.2.2.1
  have ht := hC.2.2.2.2.1
  unfold fSeek nSeek
  refine G_call rfl (ev_isMap x σ) ?_
  rintro r1 σ1 ⟨rfl, ⟨h1, rfl⟩ | ⟨h1, rfl⟩⟩
  · have h1 : okM x := h1
    refine G_if rfl (fun q => ?_) (fun q => ?_)
    · rw [gt_t h1, gt_t h1]
      have bad : ¬ okSk l f → RR 74 28 [some rT, some (.inl x), some (.inl l), some (.inl f)] [] σ1 (fun q σ' => q = some (.inl (gt (okSk l f) (gt (S.2.2.2.2.1.1 < 6) (nI (S.2.2.2.2.1.1 + 1)) (-4)) (-2))) ∧ CS σ' (gt (okSk l f) (gt (S.2.2.2.2.1.1 < 6) (S.1, S.2.1, S.2.2.1, S.2.2.2.1, sgAdd S.2.2.2.2.1 x.toNatClampNeg l.toNatClampNeg f.toNatClampNeg, S.2.2.2.2.2) S) S) ∧ mEq σ1 σ') := by
        intro h
        rw [gt_f h, gt_f h]
        exact G_ret rfl ⟨rfl, hC, mEq.rf _⟩
      refine G_if rfl (fun q1 => ?_) (fun q1 => ?_)
      · exact bad (fun e => absurd q1 (Int32.not_lt.mpr ((irng (n := 20) (by decide)).mpr e.1).1))
      refine G_if rfl (fun q2 => ?_) (fun q2 => ?_)
      · exact bad (fun e => absurd q2 (Int32.not_lt.mpr ((irng (n := 20) (by decide)).mpr e.1).2))
      refine G_if rfl (fun q3 => ?_) (fun q3 => ?_)
      · exact bad (fun e => absurd q3 (Int32.not_lt.mpr ((irng (n := 1) (by decide)).mpr e.2).1))
      refine G_if rfl (fun q4 => ?_) (fun q4 => ?_)
      · have h : okSk l f := ⟨(irng (n := 20) (by decide)).mp ⟨Int32.not_lt.mp q1, Int32.not_lt.mp q2⟩, (irng (n := 1) (by decide)).mp ⟨Int32.not_lt.mp q3, q4⟩⟩
        rw [gt_t h, gt_t h]
        obtain ⟨m, hm, rfl⟩ := okM_nat h1
        obtain ⟨⟨a, ha, rfl⟩, b, hb, rfl⟩ := h
        rw [nI_clamp (by omega), nI_clamp (by omega), nI_clamp (by omega)]
        have hadd : Ev 33 [.inr (.inr (3, 0)), .inl (nI m), .inl (nI a), .inl (nI b)] σ1 (fun r σ' => (S.2.2.2.2.1.1 < 6 ∧ r = some (.inl 1) ∧ σ' = (hset (hset (hset (hset σ1.1 15 0 S.2.2.2.2.1.1 (nI m)) 16 0 S.2.2.2.2.1.1 (nI a)) 17 0 S.2.2.2.2.1.1 (nI b)) 3 0 3 (nI (S.2.2.2.2.1.1 + 1)), σ1.2)) ∨ (¬ S.2.2.2.2.1.1 < 6 ∧ r = some (.inl 0) ∧ σ' = σ1)) := by
          refine G_if rfl (fun q3 => ?_) (fun q3 => ?_)
          · have q3 : S.2.2.2.2.1.1 < 6 := by
              rw [ht.1] at q3
              exact ilt (b := 6) q3 (by omega) (by decide)
            refine G_ast rfl S.2.2.2.2.1.1 (by rw [ht.1]) (by omega) (by decide) ?_
            refine G_ast rfl S.2.2.2.2.1.1 (by show σ1.1 3 0 3 = _; rw [ht.1]) (by omega) (by decide) ?_
            refine G_ast rfl S.2.2.2.2.1.1 (by show σ1.1 3 0 3 = _; rw [ht.1]) (by omega) (by decide) ?_
            refine G_retZ rfl (Or.inr rfl) (Or.inl ⟨q3, rfl, ?_⟩)
            show (hset (hset (hset (hset σ1.1 15 0 S.2.2.2.2.1.1 (nI m)) 16 0 S.2.2.2.2.1.1 (nI a)) 17 0 S.2.2.2.2.1.1 (nI b)) 3 0 3 (σ1.1 3 0 3 + 1), σ1.2) = _
            rw [ht.1, nI_1]
          · refine G_retZ rfl (Or.inl rfl) (Or.inr ⟨fun e => q3 ?_, rfl, rfl⟩)
            rw [ht.1]
            exact nI_lt (b := 6) e (by decide)
        refine G_call rfl hadd ?_
        rintro r1 σ2 (⟨h2, rfl, rfl⟩ | ⟨h2, rfl, rfl⟩)
        · rw [gt_t h2, gt_t h2]
          refine G_if rfl (fun q3 => ?_) (fun q3 => ?_)
          · exact absurd q3 (by decide)
          · refine G_ret rfl ⟨rfl, hC.sgt (fun k' q1 q2 q3 q4 => ?_) rfl ⟨rfl, fun i hi => ?_⟩, ((((mEq.rf σ1).st (by decide)).st (by decide)).st (by decide)).st (by decide)⟩
            · show hset (hset (hset (hset σ1.1 15 0 S.2.2.2.2.1.1 (nI m)) 16 0 S.2.2.2.2.1.1 (nI a)) 17 0 S.2.2.2.2.1.1 (nI b)) 3 0 3 (nI (S.2.2.2.2.1.1 + 1)) k' = _
              rw [hk q1, hk q4, hk q3, hk q2]
            · have hi : i < S.2.2.2.2.1.1 + 1 := hi
              show hset σ1.1 15 0 S.2.2.2.2.1.1 (nI m) 15 0 i = nI (if i = S.2.2.2.2.1.1 then m else S.2.2.2.2.1.2.1 i) ∧ hset σ1.1 16 0 S.2.2.2.2.1.1 (nI a) 16 0 i = nI (if i = S.2.2.2.2.1.1 then a else S.2.2.2.2.1.2.2.1 i) ∧ hset σ1.1 17 0 S.2.2.2.2.1.1 (nI b) 17 0 i = nI (if i = S.2.2.2.2.1.1 then b else S.2.2.2.2.1.2.2.2 i)
              by_cases e : i = S.2.2.2.2.1.1
              · rw [if_pos e, if_pos e, if_pos e, e, ix_eq0, ix_eq0, ix_eq0]
                exact ⟨rfl, rfl, rfl⟩
              · rw [if_neg e, if_neg e, if_neg e, hs_ne e, hs_ne e, hs_ne e]
                exact ht.2 i (by omega)
        · rw [gt_f h2, gt_f h2]
          refine G_if rfl (fun q3 => ?_) (fun q3 => ?_)
          · exact G_ret rfl ⟨rfl, hC, mEq.rf _⟩
          · exact absurd rfl q3
      · exact bad (fun e => absurd ((irng (n := 1) (by decide)).mpr e.2).2 q4)
    · exact absurd (by decide) q
  · have h1 : ¬ okM x := h1
    refine G_if rfl (fun q => ?_) (fun q => ?_)
    · exact absurd rfl q
    · rw [gt_f h1, gt_f h1]
      exact G_ret rfl ⟨rfl, hC, mEq.rf _⟩
theorem m_seek {S : SS} (hS : SI S) (x l f : Int32) : MSpec 145 [.inl x, .inl l, .inl f] S (.inl (fSeek S x l f)) (nSeek S x l f) := by
  intro σ hM
  have hM0 := hM.scr (frS.th σ)
  have hc0 := (frS.th σ).c
  have hl := hS.2.2.2.2.1
  have ht := hM0.2.2.2.2.1
  have ht1 : hset σ.1 6 0 0 0 6 0 14 = nI S.2.2.2.2.1.1 := ht.1
  unfold fSeek nSeek
  refine G_call rfl (ev_noMap x _) ?_
  rintro r1 σ1 ⟨rfl, ⟨a1, a2, rfl⟩ | ⟨h1, rfl⟩⟩
  · have h1 : okM x := i01'.mp ⟨a1, a2⟩
    refine G_if rfl (fun q => ?_) (fun q => ?_)
    · rw [gt_t h1, gt_t h1]
      have bad : ¬ okSk l f → RR 145 36 [some rMo, some (.inl x), some (.inl l), some (.inl f)] [] (hset σ.1 6 0 0 0, σ.2) (fun q σ' => q = some (.inl (gt (okSk l f) (gt (S.2.2.2.2.1.1 < 6) (nI (S.2.2.2.2.1.1 + 1)) (-4)) (-2))) ∧ MS σ' (gt (okSk l f) (gt (S.2.2.2.2.1.1 < 6) (S.1, S.2.1, S.2.2.1, S.2.2.2.1, sgAdd S.2.2.2.2.1 x.toNatClampNeg l.toNatClampNeg f.toNatClampNeg, S.2.2.2.2.2) S) S) ∧ cEq σ σ') := by
        intro h
        rw [gt_f h, gt_f h]
        exact G_ret rfl ⟨rfl, hM0, hc0⟩
      refine G_call rfl (ev_inI l 0 20 _) ?_
      rintro r1 σ1 ⟨rfl, ⟨g1, rfl⟩ | ⟨g1, rfl⟩⟩
      · refine G_if rfl (fun q1 => absurd q1 (by decide)) (fun q1 => ?_)
        refine G_call rfl (ev_inI f 0 1 _) ?_
        rintro r1 σ1 ⟨rfl, ⟨g2, rfl⟩ | ⟨g2, rfl⟩⟩
        · refine G_if rfl (fun q1 => ?_) (fun q1 => absurd (by decide) q1)
          have h : okSk l f := ⟨(irng (n := 20) (by decide)).mp g1, (irng (n := 1) (by decide)).mp g2⟩
          rw [gt_t h, gt_t h]
          obtain ⟨m, hm, rfl⟩ := okM_nat h1
          obtain ⟨⟨a, ha, rfl⟩, b, hb, rfl⟩ := h
          rw [nI_clamp (by omega), nI_clamp (by omega), nI_clamp (by omega)]
          refine G_if rfl (fun q2 => ?_) (fun q2 => ?_)
          · have h2 : S.2.2.2.2.1.1 < 6 := by
              rcases Nat.lt_or_ge S.2.2.2.2.1.1 6 with h | h
              · exact h
              · exact absurd (by show hset σ.1 6 0 0 0 6 0 14 = 6; rw [ht1, show S.2.2.2.2.1.1 = 6 by omega]; rfl) q2
            rw [gt_t h2, gt_t h2]
            refine G_ast rfl S.2.2.2.2.1.1 (by show hset σ.1 6 0 0 0 6 0 14 = _; rw [ht1]) (by omega) (by decide) ?_
            refine G_ast rfl S.2.2.2.2.1.1 (by show hset σ.1 6 0 0 0 6 0 14 = _; rw [ht1]) (by omega) (by decide) ?_
            refine G_ast rfl S.2.2.2.2.1.1 (by show hset σ.1 6 0 0 0 6 0 14 = _; rw [ht1]) (by omega) (by decide) ?_
            refine G_ret rfl ⟨?_, hM.sgt (fun k' q1 q2 q3 q4 => ?_) (fun s q => ?_) rfl ⟨?_, fun i hi => ?_⟩, (((hc0.st (by decide)).st (by decide)).st (by decide)).st (by decide)⟩
            · show some (Sum.inl (hset σ.1 6 0 0 0 6 0 14 + 1)) = _
              rw [ht1, nI_1]
            · show hset (hset (hset (hset (hset σ.1 6 0 0 0) 26 0 S.2.2.2.2.1.1 (nI m)) 27 0 S.2.2.2.2.1.1 (nI a)) 28 0 S.2.2.2.2.1.1 (nI b)) 6 0 14 (hset σ.1 6 0 0 0 6 0 14 + 1) k' = _
              rw [hk q1, hk q4, hk q3, hk q2, hk q1]
            · rcases q with rfl | rfl <;> rfl
            · show hset σ.1 6 0 0 0 6 0 14 + 1 = _
              rw [ht1, nI_1]
              rfl
            · have hi : i < S.2.2.2.2.1.1 + 1 := hi
              show hset (hset σ.1 6 0 0 0) 26 0 S.2.2.2.2.1.1 (nI m) 26 0 i = nI (if i = S.2.2.2.2.1.1 then m else S.2.2.2.2.1.2.1 i) ∧ hset (hset σ.1 6 0 0 0) 27 0 S.2.2.2.2.1.1 (nI a) 27 0 i = nI (if i = S.2.2.2.2.1.1 then a else S.2.2.2.2.1.2.2.1 i) ∧ hset (hset σ.1 6 0 0 0) 28 0 S.2.2.2.2.1.1 (nI b) 28 0 i = nI (if i = S.2.2.2.2.1.1 then b else S.2.2.2.2.1.2.2.2 i)
              by_cases e : i = S.2.2.2.2.1.1
              · rw [if_pos e, if_pos e, if_pos e, e, ix_eq0, ix_eq0, ix_eq0]
                exact ⟨rfl, rfl, rfl⟩
              · rw [if_neg e, if_neg e, if_neg e, hs_ne e, hs_ne e, hs_ne e]
                exact ht.2 i (by omega)
          · have h2 : ¬ S.2.2.2.2.1.1 < 6 := by
              have q2 := Classical.not_not.mp q2
              rw [show (hset σ.1 6 0 0 0, σ.2).1 6 0 14 = _ from ht1] at q2
              have := ieq (b := 6) q2 (by omega) (by decide)
              omega
            rw [gt_f h2, gt_f h2]
            exact G_ret rfl ⟨rfl, hM0, hc0⟩
        · refine G_if rfl (fun q1 => absurd rfl q1) (fun q1 => ?_)
          exact bad (fun e => g2 ((irng (n := 1) (by decide)).mpr e.2))
      · refine G_if rfl (fun q1 => ?_) (fun q1 => absurd rfl q1)
        exact bad (fun e => g1 ((irng (n := 20) (by decide)).mpr e.1))
    · exact absurd rfl q
  · have h1 : ¬ okM x := fun q => h1 (i01'.mpr q)
    refine G_if rfl (fun q => ?_) (fun q => ?_)
    · exact absurd q (by decide)
    · rw [gt_f h1, gt_f h1]
      exact G_ret rfl ⟨rfl, hM0, hc0⟩
end
section
/-! Put and take out, as one function for both sides; put and remove. -/
noncomputable def plM (M : AM) (key v : Nat) : AM := gt (has M key) (setV M (les M key) v) (gt (M.1 < 40) (placeM M key v) M)
noncomputable def toM (M : AM) (key : Nat) : AM := gt (has M key) (outM M (les M key)) M
noncomputable def ifI (P : Prop) : Int32 := gt P 1 0
theorem ifI_z (P : Prop) : zOk (ifI P) := by
  unfold ifI
  by_cases h : P
  · rw [gt_t h]; exact Or.inr rfl
  · rw [gt_f h]; exact Or.inl rfl
def can (M : AM) (key : Nat) : Prop := M.1 < 40 ∨ has M key
theorem Inv.pl {M : AM} (h : Inv M) {key v : Nat} (hk : key < 100) (hv : v < 1000000) : Inv (plM M key v) := by
  unfold plM
  by_cases h1 : has M key
  · rw [gt_t h1]
    exact h.setV hv
  · rw [gt_f h1]
    by_cases h2 : M.1 < 40
    · rw [gt_t h2]
      exact h.place hk hv h2 h1
    · rw [gt_f h2]
      exact h
theorem Inv.to {M : AM} (h : Inv M) (key : Nat) : Inv (toM M key) := by
  unfold toM
  by_cases h1 : has M key
  · rw [gt_t h1]
    exact h.out h1.1
  · rw [gt_f h1]
    exact h
section OP
variable {σ : Hp} {j mb : Nat} {M : AM}
theorem ev_pl (hI : isI σ j M) (hV : Inv M) {key v : Nat} (hk : key < 100) (hv : v < 1000000) : Ev 11 [rI j, .inl (nI key), .inl (nI v)] σ (fun r σ' => r = some (.inl (ifI (can M key))) ∧ isI σ' j (plM M key v) ∧ frI j σ σ') := by
  refine (ev_place hI hV.1 hV.low hk hv).mono ?_
  unfold plM ifI can
  rintro r σ' (⟨h1, h2, rfl, rfl⟩ | ⟨h1, rfl, h3, h4⟩ | ⟨h1, h2, rfl, h3, h4⟩)
  · rw [gt_f (fun q => q.elim (fun e => by omega) h1), gt_f h1, gt_f (by omega)]
    exact ⟨rfl, hI, frI.rf _ _⟩
  · rw [gt_t (Or.inr h1), gt_t h1]
    exact ⟨rfl, h3, h4⟩
  · rw [gt_t (Or.inl h2), gt_f h1, gt_t h2]
    exact ⟨rfl, h3, h4⟩
theorem ev_to (hI : isI σ j M) (hV : Inv M) {key : Nat} (hk : key < 100) : Ev 19 [rI j, .inl (nI key)] σ (fun r σ' => r = some (.inl (ifI (has M key))) ∧ isI σ' j (toM M key) ∧ frI j σ σ') := by
  refine (ev_takeOut hI hV.1 hV.low hk).mono ?_
  unfold toM ifI
  rintro r σ' (⟨h1, rfl, rfl⟩ | ⟨h1, rfl, h3, h4⟩)
  · rw [gt_f h1, gt_f h1]
    exact ⟨rfl, hI, frI.rf _ _⟩
  · rw [gt_t h1, gt_t h1]
    exact ⟨rfl, h3, h4⟩
theorem ev_ppl_21 (hI : isP σ 21 mb M) (hV : Inv M) (hm : mb + 121 ≤ 242) {key v : Nat} (hk : key < 100) : Ev 102 [rMo, rP 21, .inl (nI mb), .inl (nI key), .inl (nI v)] σ (fun r σ' => r = some (.inl (ifI (can M key))) ∧ isP σ' 21 mb (plM M key v) ∧ frP 21 mb σ σ') := by
  refine (ev_goPut_21 hI hV.1 hV.low hm hk).mono ?_
  unfold plM ifI can
  rintro r σ' (⟨h1, h2, rfl, rfl⟩ | ⟨h1, rfl, h3, h4⟩ | ⟨h1, h2, rfl, h3, h4⟩)
  · rw [gt_f (fun q => q.elim (fun e => by omega) h1), gt_f h1, gt_f (by omega)]
    exact ⟨rfl, hI, frP.rf _ _ _⟩
  · rw [gt_t (Or.inr h1), gt_t h1]
    exact ⟨rfl, h3, h4⟩
  · rw [gt_t (Or.inl h2), gt_f h1, gt_t h2]
    exact ⟨rfl, h3, h4⟩
theorem ev_ppl_22 (hI : isP σ 22 mb M) (hV : Inv M) (hm : mb + 121 ≤ 242) {key v : Nat} (hk : key < 100) : Ev 102 [rMo, rP 22, .inl (nI mb), .inl (nI key), .inl (nI v)] σ (fun r σ' => r = some (.inl (ifI (can M key))) ∧ isP σ' 22 mb (plM M key v) ∧ frP 22 mb σ σ') := by
  refine (ev_goPut_22 hI hV.1 hV.low hm hk).mono ?_
  unfold plM ifI can
  rintro r σ' (⟨h1, h2, rfl, rfl⟩ | ⟨h1, rfl, h3, h4⟩ | ⟨h1, h2, rfl, h3, h4⟩)
  · rw [gt_f (fun q => q.elim (fun e => by omega) h1), gt_f h1, gt_f (by omega)]
    exact ⟨rfl, hI, frP.rf _ _ _⟩
  · rw [gt_t (Or.inr h1), gt_t h1]
    exact ⟨rfl, h3, h4⟩
  · rw [gt_t (Or.inl h2), gt_f h1, gt_t h2]
    exact ⟨rfl, h3, h4⟩
theorem no9 {n : Nat} (hn : n < 2147483648) : ¬ nI n = -9 := fun e => by
  have h1 := congrArg Int32.toInt e
  rw [nI_toInt (by omega)] at h1
  have h2 : (-9 : Int32).toInt = -9 := rfl
  omega
theorem ev_removes (hI : isP σ 22 mb M) (hV : Inv M) (hm : mb + 121 ≤ 242) {key : Nat} (hk : key < 100) : Ev 136 [rMo, .inl (nI mb), .inl (nI key)] σ (fun r σ' => r = some (.inl (ifI (has M key))) ∧ isP σ' 22 mb (toM M key) ∧ frP 22 mb σ σ') := by
  have hn := hV.1.1
  unfold toM ifI
  refine G_call rfl (ev_find_22 hI hV.1 hm (key := key) (by omega)) ?_
  rintro r1 σ1 ⟨rfl, ⟨hh, rfl⟩ | ⟨hh, rfl⟩⟩
  · have hlt := hh.1
    rw [gt_t hh, gt_t hh]
    refine G_if rfl (fun q => absurd q (no9 (by omega))) (fun q => ?_)
    refine G_call rfl (ev_goRemove_22 hI hV hm hlt) ?_
    rintro r1 σ2 ⟨rfl, f2, i2⟩
    refine G_if rfl (fun q => absurd q (no9 (by omega))) (fun q => ?_)
    exact G_retZ rfl (Or.inr rfl) ⟨rfl, i2, f2⟩
  · rw [gt_f hh, gt_f hh]
    refine G_if rfl (fun q => ?_) (fun q => absurd rfl q)
    refine G_if rfl (fun q => ?_) (fun q => absurd rfl q)
    exact G_retZ rfl (Or.inl rfl) ⟨rfl, hI, frP.rf _ _ _⟩
end OP
def upB (B : BM) (m : Nat) (M : AM) : BM := match m with
  | 0 => (M, B.2)
  | _ => (B.1, M)
theorem isB.up {σ σ' : Hp} {b m : Nat} {B : BM} {M : AM} (hB : isB σ b B) (hm : m < 2) (hI : isI σ' (2 * b + m) M) (hf : frI (2 * b + m) σ σ') : isB σ' b (upB B m M) := by
  match m, hm with
  | 0, _ => exact ⟨hI, hf.is (by omega) hB.2⟩
  | 1, _ => exact ⟨hf.is (by omega) hB.1, hI⟩
theorem isPB.up {σ σ' : Hp} {P mb m : Nat} {B : BM} {M : AM} (hB : isPB σ P mb B) (hs : szB B) (hm : m < 2) (hI : isP σ' P (mb + 121 * m) M) (hf : frP P (mb + 121 * m) σ σ') : isPB σ' P mb (upB B m M) := by
  match m, hm with
  | 0, _ => exact ⟨hI, hf.is (by omega) hs.2 hB.2⟩
  | 1, _ => exact ⟨hf.is (by omega) hs.1 hB.1, hI⟩
theorem InvB.up {B : BM} {m : Nat} {M : AM} (hB : InvB B) (hm : m < 2) (hV : Inv M) : InvB (upB B m M) := by
  match m, hm with
  | 0, _ => exact ⟨hV, hB.2⟩
  | 1, _ => exact ⟨hB.1, hV⟩
theorem mp_up {B : BM} {m : Nat} {M : AM} (hm : m < 2) : mp (upB B m M) m = M := by
  match m, hm with
  | 0, _ => rfl
  | 1, _ => rfl
theorem MS.now {σ σ' : Hp} {S : SS} {B : BM} {mb : Nat} (h : MS σ S) (hf : frP 21 mb σ σ') (hB : isPB σ' 21 0 B) : MS σ' (B, S.2) := by
  have e : ∀ k, k ≠ 6 → k ≠ 21 → σ'.1 k = σ.1 k := fun k q1 q2 => funext (fun i => hf.1 k i q1 (fun q => q2 q.1))
  refine ⟨hB, ?_⟩
  have h := h.2
  unfold mAct mSlt mTxt mSgt isPB isP at h ⊢
  rw [hf.2.1 11 (by decide), hf.2.1 2 (by decide), hf.2.1 14 (by decide), e 18 (by decide) (by decide), e 23 (by decide) (by decide), e 24 (by decide) (by decide), e 25 (by decide) (by decide), e 26 (by decide) (by decide), e 27 (by decide) (by decide), e 28 (by decide) (by decide), hf.2.2.1]
  exact h
def okVl (v : Int32) : Prop := ∃ k, k ≤ 999999 ∧ v = nI k
noncomputable def fPut (S : SS) (x k v : Int32) : Int32 := gt (okM x ∧ okK k) (gt (okVl v) (gt (can (mp S.1 x.toNatClampNeg) k.toNatClampNeg) (nI (plM (mp S.1 x.toNatClampNeg) k.toNatClampNeg v.toNatClampNeg).1) (-4)) (-2)) (-1)
noncomputable def nPut (S : SS) (x k v : Int32) : SS := gt (okM x ∧ okK k) (gt (okVl v) (gt (can (mp S.1 x.toNatClampNeg) k.toNatClampNeg) (upB S.1 x.toNatClampNeg (plM (mp S.1 x.toNatClampNeg) k.toNatClampNeg v.toNatClampNeg), pushH S.2.1 S.1, S.2.2) S) S) S
noncomputable def fRem (S : SS) (x k : Int32) : Int32 := gt (okM x ∧ okK k) (gt (has (mp S.1 x.toNatClampNeg) k.toNatClampNeg) (nI ((mp S.1 x.toNatClampNeg).2.2.1 (les (mp S.1 x.toNatClampNeg) k.toNatClampNeg))) (-3)) (-1)
noncomputable def nRem (S : SS) (x k : Int32) : SS := gt (okM x ∧ okK k) (gt (has (mp S.1 x.toNatClampNeg) k.toNatClampNeg) (upB S.1 x.toNatClampNeg (toM (mp S.1 x.toNatClampNeg) k.toNatClampNeg), pushH S.2.1 S.1, S.2.2) S) S
theorem SI.put {S : SS} (hS : SI S) (x k v : Int32) : SI (nPut S x k v) := by
  unfold nPut
  by_cases h : okM x ∧ okK k
  · rw [gt_t h]
    by_cases h2 : okVl v
    · rw [gt_t h2]
      by_cases h3 : can (mp S.1 x.toNatClampNeg) k.toNatClampNeg
      · rw [gt_t h3]
        obtain ⟨h0, key, hk, rfl⟩ := h
        obtain ⟨m, hm, rfl⟩ := okM_nat h0
        obtain ⟨w, hw, rfl⟩ := h2
        rw [nI_clamp (by omega), nI_clamp (by omega), nI_clamp (by omega)]
        exact hS.push.now (hS.1.up hm ((hS.1.at hm).pl hk (by omega)))
      · rw [gt_f h3]; exact hS
    · rw [gt_f h2]; exact hS
  · rw [gt_f h]; exact hS
theorem SI.rem {S : SS} (hS : SI S) (x k : Int32) : SI (nRem S x k) := by
  unfold nRem
  by_cases h : okM x ∧ okK k
  · rw [gt_t h]
    by_cases h3 : has (mp S.1 x.toNatClampNeg) k.toNatClampNeg
    · rw [gt_t h3]
      obtain ⟨h0, key, hk, rfl⟩ := h
      obtain ⟨m, hm, rfl⟩ := okM_nat h0
      rw [nI_clamp (by omega), nI_clamp (by omega)]
      exact hS.push.now (hS.1.up hm ((hS.1.at hm).to key))
    · rw [gt_f h3]; exact hS
  · rw [gt_f h]; exact hS
end
section
/-! put and remove. Laid by wip/whole/mk49.py. -/
theorem c_put {S : SS} (hS : SI S) (x k v : Int32) : CSpec 47 [.inl x, .inl k, .inl v] S (.inl (fPut S x k v)) (nPut S x k v) := by
  intro σ hC
  unfold fPut nPut
  refine G_call rfl (ev_isMap x _) ?_
  rintro r1 σ1 ⟨rfl, ⟨h1, rfl⟩ | ⟨h1, rfl⟩⟩
  · refine G_if rfl (fun q => ?_) (fun q => ?_)
    · exact absurd q (by decide)
    · refine G_call rfl (ev_isKey k _) ?_
      rintro r1 σ2 ⟨rfl, ⟨h2, rfl⟩ | ⟨h2, rfl⟩⟩
      · refine G_if rfl (fun q => ?_) (fun q => ?_)
        · have hg : okM x ∧ okK k := ⟨h1, h2⟩
          rw [gt_t hg, gt_t hg]
          have bad : ¬ okVl v → RR 47 26 [some rT, some (.inl x), some (.inl k), some (.inl v), none] [] σ2 (fun q σ' => q = some (.inl (gt (okVl v) (gt (can (mp S.1 x.toNatClampNeg) k.toNatClampNeg) (nI (plM (mp S.1 x.toNatClampNeg) k.toNatClampNeg v.toNatClampNeg).1) (-4)) (-2))) ∧ CS σ' (gt (okVl v) (gt (can (mp S.1 x.toNatClampNeg) k.toNatClampNeg) (upB S.1 x.toNatClampNeg (plM (mp S.1 x.toNatClampNeg) k.toNatClampNeg v.toNatClampNeg), pushH S.2.1 S.1, S.2.2) S) S) ∧ mEq σ2 σ') := by
            intro h
            rw [gt_f h, gt_f h]
            exact G_ret rfl ⟨rfl, hC, mEq.rf _⟩
          refine G_if rfl (fun q1 => ?_) (fun q1 => ?_)
          · exact bad (fun e => absurd q1 (Int32.not_lt.mpr ((irng (n := 999999) (by decide)).mpr e).1))
          refine G_if rfl (fun q2 => ?_) (fun q2 => ?_)
          · have h3 : okVl v := (irng (n := 999999) (by decide)).mp ⟨Int32.not_lt.mp q1, q2⟩
            rw [gt_t h3, gt_t h3]
            obtain ⟨m, hm, rfl⟩ := okM_nat h1
            obtain ⟨key, hk, rfl⟩ := h2
            obtain ⟨w, hw, rfl⟩ := h3
            rw [nI_clamp (by omega), nI_clamp (by omega), nI_clamp (by omega)]
            have hI := hC.1.at hm
            have hV := hS.1.at hm
            refine G_call rfl (ev_of 0 hm σ2) ?_
            rintro r1 σ3 ⟨rfl, rfl⟩
            refine G_call rfl (ev_canTake hI hV.1 (key := key) (by omega)) ?_
            rintro r1 σ4 ⟨rfl, ⟨hh, rfl⟩ | ⟨hh, rfl⟩⟩
            · refine G_if rfl (fun q3 => ?_) (fun q3 => absurd (by decide) q3)
              have hh : can (mp S.1 m) key := hh
              rw [gt_t hh, gt_t hh]
              refine G_call rfl (ev_remember hC hS) ?_
              rintro r1 σ5 ⟨rfl, hC5, m5⟩
              refine G_call rfl (ev_pl (hC5.1.at hm) hV hk (v := w) (by omega)) ?_
              rintro r1 σ6 ⟨rfl, i6, f6⟩
              exact G_ret rfl ⟨by rw [i6.1], hC5.now (f6.n (by omega)) (hC5.1.up hm i6 f6), m5.tr f6.m⟩
            · refine G_if rfl (fun q3 => absurd rfl q3) (fun q3 => ?_)
              have hh : ¬ can (mp S.1 m) key := hh
              rw [gt_f hh, gt_f hh]
              exact G_ret rfl ⟨rfl, hC, mEq.rf _⟩
          · exact bad (fun e => absurd ((irng (n := 999999) (by decide)).mpr e).2 q2)
        · exact absurd (by decide) q
      · refine G_if rfl (fun q => ?_) (fun q => ?_)
        · exact absurd rfl q
        · have hg : ¬ (okM x ∧ okK k) := fun q => h2 q.2
          rw [gt_f hg, gt_f hg]
          exact G_ret rfl ⟨rfl, hC, mEq.rf _⟩
  · refine G_if rfl (fun q => ?_) (fun q => ?_)
    · have hg : ¬ (okM x ∧ okK k) := fun q => h1 q.1
      rw [gt_f hg, gt_f hg]
      exact G_ret rfl ⟨rfl, hC, mEq.rf _⟩
    · exact absurd rfl q
theorem c_remove {S : SS} (hS : SI S) (x k : Int32) : CSpec 49 [.inl x, .inl k] S (.inl (fRem S x k)) (nRem S x k) := by
  intro σ hC
  unfold fRem nRem
  refine G_call rfl (ev_isMap x _) ?_
  rintro r1 σ1 ⟨rfl, ⟨h1, rfl⟩ | ⟨h1, rfl⟩⟩
  · refine G_if rfl (fun q => ?_) (fun q => ?_)
    · exact absurd q (by decide)
    · refine G_call rfl (ev_isKey k _) ?_
      rintro r1 σ2 ⟨rfl, ⟨h2, rfl⟩ | ⟨h2, rfl⟩⟩
      · refine G_if rfl (fun q => ?_) (fun q => ?_)
        · have hg : okM x ∧ okK k := ⟨h1, h2⟩
          rw [gt_t hg, gt_t hg]
          obtain ⟨m, hm, rfl⟩ := okM_nat h1
          obtain ⟨key, hk, rfl⟩ := h2
          rw [nI_clamp (by omega), nI_clamp (by omega)]
          have hI := hC.1.at hm
          have hV := hS.1.at hm
          have hn := hV.1.1
          refine G_call rfl (ev_of 0 hm σ2) ?_
          rintro r1 σ3 ⟨rfl, rfl⟩
          refine G_call rfl (ev_indexOf hI hV.1 (key := key) (by omega)) ?_
          rintro r1 σ4 ⟨rfl, ⟨hh, rfl⟩ | ⟨hh, rfl⟩⟩
          · have hlt := hh.1
            refine G_if rfl (fun q3 => ?_) (fun q3 => absurd (nI_pos' (by omega)) q3)
            rw [gt_t hh, gt_t hh]
            refine G_ald rfl (les (mp S.1 m) key) rfl (by omega) (by decide) ?_
            rw [(hI.2 _ hlt).2.1]
            refine G_call rfl (ev_remember hC hS) ?_
            rintro r1 σ5 ⟨rfl, hC5, m5⟩
            refine G_call rfl (ev_to (hC5.1.at hm) hV hk) ?_
            rintro r1 σ6 ⟨rfl, i6, f6⟩
            exact G_ret rfl ⟨rfl, hC5.now (f6.n (by omega)) (hC5.1.up hm i6 f6), m5.tr f6.m⟩
          · refine G_if rfl (fun q3 => absurd q3 (by decide)) (fun q3 => ?_)
            rw [gt_f hh, gt_f hh]
            exact G_ret rfl ⟨rfl, hC, mEq.rf _⟩
        · exact absurd (by decide) q
      · refine G_if rfl (fun q => ?_) (fun q => ?_)
        · exact absurd rfl q
        · have hg : ¬ (okM x ∧ okK k) := fun q => h2 q.2
          rw [gt_f hg, gt_f hg]
          exact G_ret rfl ⟨rfl, hC, mEq.rf _⟩
  · refine G_if rfl (fun q => ?_) (fun q => ?_)
    · have hg : ¬ (okM x ∧ okK k) := fun q => h1 q.1
      rw [gt_f hg, gt_f hg]
      exact G_ret rfl ⟨rfl, hC, mEq.rf _⟩
    · exact absurd rfl q
theorem m_put {S : SS} (hS : SI S) (x k v : Int32) : MSpec 99 [.inl x, .inl k, .inl v] S (.inl (fPut S x k v)) (nPut S x k v) := by
  intro σ hM
  unfold fPut nPut
  have hM0 := hM.scr (frS.th σ)
  have hc0 := (frS.th σ).c
  refine G_call rfl (ev_noMap x _) ?_
  rintro r1 σ1 ⟨rfl, ⟨a1, a2, rfl⟩ | ⟨h1, rfl⟩⟩
  · have h1 : okM x := i01'.mp ⟨a1, a2⟩
    refine G_if rfl (fun q => ?_) (fun q => ?_)
    · exact absurd rfl q
    · refine G_call rfl (ev_noKey k _) ?_
      rintro r1 σ2 ⟨rfl, ⟨a1, a2, rfl⟩ | ⟨h2, rfl⟩⟩
      · have h2 : okK k := i100'.mp ⟨a1, a2⟩
        refine G_if rfl (fun q => ?_) (fun q => ?_)
        · have hg : okM x ∧ okK k := ⟨h1, h2⟩
          rw [gt_t hg, gt_t hg]
          refine G_call rfl (ev_inI v 0 999999 _) ?_
          rintro r1 σ3 ⟨rfl, ⟨h3, rfl⟩ | ⟨h3, rfl⟩⟩
          · have h3 : okVl v := (irng (n := 999999) (by decide)).mp h3
            refine G_if rfl (fun q3 => ?_) (fun q3 => absurd (by decide) q3)
            rw [gt_t h3, gt_t h3]
            obtain ⟨m, hm, rfl⟩ := okM_nat h1
            obtain ⟨key, hk, rfl⟩ := h2
            obtain ⟨w, hw, rfl⟩ := h3
            rw [nI_clamp (by omega), nI_clamp (by omega), nI_clamp (by omega)]
            have hI := hM0.1.at hm
            have hV := hS.1.at hm
            have hn := hV.1.1
            have go : can (mp S.1 m) key → RR 99 70 [some rMo, some (.inl (nI m)), some (.inl (nI key)), some (.inl (nI w))] [] (hset σ.1 6 0 0 0, σ.2) (fun q σ' => q = some (.inl (nI (plM (mp S.1 m) key w).1)) ∧ MS σ' (upB S.1 m (plM (mp S.1 m) key w), pushH S.2.1 S.1, S.2.2) ∧ cEq σ σ') := by
              intro hh
              refine G_call rfl (ev_note hM0 hS) ?_
              rintro r1 σ5 ⟨rfl, hM5, m5⟩
              refine G_callv rfl (by rw [mb121]) (ev_ppl_21 (hM5.1.at hm) hV (by omega) hk (v := w)) ?_
              rintro r1 σ6 ⟨rfl, i6, f6⟩
              refine G_ald rfl (0 + 121 * m) (mb121 m) (by omega) (by decide) ?_
              exact G_ret rfl ⟨by rw [i6.1], hM5.now f6 (hM5.1.up hS.1.sz hm i6 f6), (hc0.tr m5).tr (f6.c (by decide))⟩
            refine G_callv rfl (by rw [mb121]) (ev_find_21 hI hV.1 (by omega) (key := key) (by omega)) ?_
            rintro r1 σ4 ⟨rfl, ⟨hh, rfl⟩ | ⟨hh, rfl⟩⟩
            · have hlt := hh.1
              refine G_if rfl (fun q4 => ?_) (fun q4 => absurd (Classical.not_not.mp q4) (no9 (by omega)))
              have hc : can (mp S.1 m) key := Or.inr hh
              rw [gt_t hc, gt_t hc]
              exact go hc
            · refine G_if rfl (fun q4 => absurd rfl q4) (fun q4 => ?_)
              refine G_ald rfl (0 + 121 * m) (mb121 m) (by omega) (by decide) ?_
              rw [hI.1]
              refine G_if rfl (fun q5 => ?_) (fun q5 => ?_)
              · have hc : can (mp S.1 m) key := Or.inl (Nat.lt_of_le_of_ne hn (fun e => q5 (by rw [e]; rfl)))
                rw [gt_t hc, gt_t hc]
                exact go hc
              · have hc : ¬ can (mp S.1 m) key := by
                  have := ieq (b := 40) (Classical.not_not.mp q5) (by omega) (by decide)
                  rintro (e | e)
                  · omega
                  · exact hh e
                rw [gt_f hc, gt_f hc]
                exact G_ret rfl ⟨rfl, hM0, hc0⟩
          · have h3 : ¬ okVl v := fun e => h3 ((irng (n := 999999) (by decide)).mpr e)
            refine G_if rfl (fun q3 => absurd rfl q3) (fun q3 => ?_)
            rw [gt_f h3, gt_f h3]
            exact G_ret rfl ⟨rfl, hM0, hc0⟩
        · exact absurd rfl q
      · have h2 : ¬ okK k := fun q => h2 (i100'.mpr q)
        refine G_if rfl (fun q => ?_) (fun q => ?_)
        · exact absurd q (by decide)
        · have hg : ¬ (okM x ∧ okK k) := fun q => h2 q.2
          rw [gt_f hg, gt_f hg]
          exact G_ret rfl ⟨rfl, hM0, hc0⟩
  · have h1 : ¬ okM x := fun q => h1 (i01'.mpr q)
    refine G_if rfl (fun q => ?_) (fun q => ?_)
    · have hg : ¬ (okM x ∧ okK k) := fun q => h1 q.1
      rw [gt_f hg, gt_f hg]
      exact G_ret rfl ⟨rfl, hM0, hc0⟩
    · exact absurd (by decide) q
theorem m_remove {S : SS} (hS : SI S) (x k : Int32) : MSpec 110 [.inl x, .inl k] S (.inl (fRem S x k)) (nRem S x k) := by
  intro σ hM
  unfold fRem nRem
  have hM0 := hM.scr (frS.th σ)
  have hc0 := (frS.th σ).c
  refine G_call rfl (ev_noMap x _) ?_
  rintro r1 σ1 ⟨rfl, ⟨a1, a2, rfl⟩ | ⟨h1, rfl⟩⟩
  · have h1 : okM x := i01'.mp ⟨a1, a2⟩
    refine G_if rfl (fun q => ?_) (fun q => ?_)
    · exact absurd rfl q
    · refine G_call rfl (ev_noKey k _) ?_
      rintro r1 σ2 ⟨rfl, ⟨a1, a2, rfl⟩ | ⟨h2, rfl⟩⟩
      · have h2 : okK k := i100'.mp ⟨a1, a2⟩
        refine G_if rfl (fun q => ?_) (fun q => ?_)
        · have hg : okM x ∧ okK k := ⟨h1, h2⟩
          rw [gt_t hg, gt_t hg]
          obtain ⟨m, hm, rfl⟩ := okM_nat h1
          obtain ⟨key, hk, rfl⟩ := h2
          rw [nI_clamp (by omega), nI_clamp (by omega)]
          have hI := hM0.1.at hm
          have hV := hS.1.at hm
          have hn := hV.1.1
          refine G_callv rfl (by rw [mb121]) (ev_find_21 hI hV.1 (by omega) (key := key) (by omega)) ?_
          rintro r1 σ4 ⟨rfl, ⟨hh, rfl⟩ | ⟨hh, rfl⟩⟩
          · have hlt := hh.1
            refine G_if rfl (fun q4 => ?_) (fun q4 => absurd (Classical.not_not.mp q4) (no9 (by omega)))
            rw [gt_t hh, gt_t hh]
            refine G_call rfl (ev_note hM0 hS) ?_
            rintro r1 σ5 ⟨rfl, hM5, m5⟩
            refine G_callv rfl (by rw [mb121]) (ev_goRemove_21 (hM5.1.at hm) hV (by omega) hlt) ?_
            rintro r1 σ6 ⟨rfl, f6, i6⟩
            have i6 : isP σ6 21 (0 + 121 * m) (toM (mp S.1 m) key) := by
              unfold toM
              rw [gt_t hh]
              exact i6
            exact G_ret rfl ⟨rfl, hM5.now f6 (hM5.1.up hS.1.sz hm i6 f6), (hc0.tr m5).tr (f6.c (by decide))⟩
          · refine G_if rfl (fun q4 => absurd rfl q4) (fun q4 => ?_)
            rw [gt_f hh, gt_f hh]
            exact G_ret rfl ⟨rfl, hM0, hc0⟩
        · exact absurd rfl q
      · have h2 : ¬ okK k := fun q => h2 (i100'.mpr q)
        refine G_if rfl (fun q => ?_) (fun q => ?_)
        · exact absurd q (by decide)
        · have hg : ¬ (okM x ∧ okK k) := fun q => h2 q.2
          rw [gt_f hg, gt_f hg]
          exact G_ret rfl ⟨rfl, hM0, hc0⟩
  · have h1 : ¬ okM x := fun q => h1 (i01'.mpr q)
    refine G_if rfl (fun q => ?_) (fun q => ?_)
    · have hg : ¬ (okM x ∧ okK k) := fun q => h1 q.1
      rw [gt_f hg, gt_f hg]
      exact G_ret rfl ⟨rfl, hM0, hc0⟩
    · exact absurd (by decide) q
end
