-- ===== PART A: goes FIRST, ahead of the names: the tables' words, and 'selects' of the private methods out of them =====
/-- a private method of a class that the tables say can be made, by its rows of tables_1 -/
def lw_okq (q : MethodName × Nat) : Prop := (q.1.cls ≠ "java/lang/invoke/MethodHandle" ∧ q.1.cls ≠ "java/lang/invoke/VarHandle") ∧ Cond.instantiable q.1.cls q.2 ∈ tables_1 ∧ Cond.privateMethod q.1 ∈ tables_1 ∧ Cond.instanceMethod q.1 ∈ tables_1
theorem lw_p0 : lw_okq (⟨"CutPoints", "redraw", "()V"⟩, 6) := ⟨⟨by decide +kernel, by decide +kernel⟩, List.mem_of_getElem? (i := 15) (by decide +kernel), List.mem_of_getElem? (i := 194) (by decide +kernel), List.mem_of_getElem? (i := 195) (by decide +kernel)⟩
theorem lw_p1 : lw_okq (⟨"CutPoints$Sketch", "fillArcs", "(LCutPoints$Graph;J)V"⟩, 7) := ⟨⟨by decide +kernel, by decide +kernel⟩, List.mem_of_getElem? (i := 58) (by decide +kernel), List.mem_of_getElem? (i := 211) (by decide +kernel), List.mem_of_getElem? (i := 212) (by decide +kernel)⟩
theorem lw_p2 : lw_okq (⟨"CutPoints$Sketch", "findBlocks", "()V"⟩, 7) := ⟨⟨by decide +kernel, by decide +kernel⟩, List.mem_of_getElem? (i := 58) (by decide +kernel), List.mem_of_getElem? (i := 218) (by decide +kernel), List.mem_of_getElem? (i := 219) (by decide +kernel)⟩
theorem lw_p3 : lw_okq (⟨"CutPoints$Sketch", "loneArcs", "()J"⟩, 7) := ⟨⟨by decide +kernel, by decide +kernel⟩, List.mem_of_getElem? (i := 58) (by decide +kernel), List.mem_of_getElem? (i := 238) (by decide +kernel), List.mem_of_getElem? (i := 239) (by decide +kernel)⟩
theorem lw_p4 : lw_okq (⟨"CutPoints", "pairCode", "(II)I"⟩, 6) := ⟨⟨by decide +kernel, by decide +kernel⟩, List.mem_of_getElem? (i := 15) (by decide +kernel), List.mem_of_getElem? (i := 257) (by decide +kernel), List.mem_of_getElem? (i := 258) (by decide +kernel)⟩
theorem lw_p5 : lw_okq (⟨"CutPoints$Sketch", "thinNode", "(I)I"⟩, 7) := ⟨⟨by decide +kernel, by decide +kernel⟩, List.mem_of_getElem? (i := 58) (by decide +kernel), List.mem_of_getElem? (i := 330) (by decide +kernel), List.mem_of_getElem? (i := 331) (by decide +kernel)⟩
theorem lw_p6 : lw_okq (⟨"CutPoints$Sketch", "linkAll", "(I)V"⟩, 7) := ⟨⟨by decide +kernel, by decide +kernel⟩, List.mem_of_getElem? (i := 58) (by decide +kernel), List.mem_of_getElem? (i := 340) (by decide +kernel), List.mem_of_getElem? (i := 341) (by decide +kernel)⟩
theorem lw_p7 : lw_okq (⟨"CutPoints$Flow", "forget", "()V"⟩, 4) := ⟨⟨by decide +kernel, by decide +kernel⟩, List.mem_of_getElem? (i := 110) (by decide +kernel), List.mem_of_getElem? (i := 389) (by decide +kernel), List.mem_of_getElem? (i := 390) (by decide +kernel)⟩
theorem lw_p8 : lw_okq (⟨"CutPoints$Flow", "change", "(III)V"⟩, 4) := ⟨⟨by decide +kernel, by decide +kernel⟩, List.mem_of_getElem? (i := 110) (by decide +kernel), List.mem_of_getElem? (i := 395) (by decide +kernel), List.mem_of_getElem? (i := 396) (by decide +kernel)⟩
theorem lw_p9 : lw_okq (⟨"CutPoints$Flow", "search", "(II)Z"⟩, 4) := ⟨⟨by decide +kernel, by decide +kernel⟩, List.mem_of_getElem? (i := 110) (by decide +kernel), List.mem_of_getElem? (i := 403) (by decide +kernel), List.mem_of_getElem? (i := 404) (by decide +kernel)⟩
theorem lw_p10 : lw_okq (⟨"CutPoints$Flow", "comeFrom", "(II)V"⟩, 4) := ⟨⟨by decide +kernel, by decide +kernel⟩, List.mem_of_getElem? (i := 110) (by decide +kernel), List.mem_of_getElem? (i := 407) (by decide +kernel), List.mem_of_getElem? (i := 408) (by decide +kernel)⟩
theorem lw_p11 : lw_okq (⟨"CutPoints$Flow", "push", "(II)V"⟩, 4) := ⟨⟨by decide +kernel, by decide +kernel⟩, List.mem_of_getElem? (i := 110) (by decide +kernel), List.mem_of_getElem? (i := 411) (by decide +kernel), List.mem_of_getElem? (i := 412) (by decide +kernel)⟩
theorem lw_p12 : lw_okq (⟨"CutPoints$Compass", "fillLeads", "(LCutPoints$Graph;JJ)V"⟩, 1) := ⟨⟨by decide +kernel, by decide +kernel⟩, List.mem_of_getElem? (i := 130) (by decide +kernel), List.mem_of_getElem? (i := 455) (by decide +kernel), List.mem_of_getElem? (i := 456) (by decide +kernel)⟩
theorem lw_p13 : lw_okq (⟨"CutPoints$Splitter", "findPieces", "(LCutPoints$Sketch;)V"⟩, 7) := ⟨⟨by decide +kernel, by decide +kernel⟩, List.mem_of_getElem? (i := 140) (by decide +kernel), List.mem_of_getElem? (i := 469) (by decide +kernel), List.mem_of_getElem? (i := 470) (by decide +kernel)⟩
theorem lw_p14 : lw_okq (⟨"CutPoints$Splitter", "cutAt", "(LCutPoints$Sketch;II)V"⟩, 7) := ⟨⟨by decide +kernel, by decide +kernel⟩, List.mem_of_getElem? (i := 140) (by decide +kernel), List.mem_of_getElem? (i := 473) (by decide +kernel), List.mem_of_getElem? (i := 474) (by decide +kernel)⟩
theorem lw_p15 : lw_okq (⟨"CutPoints$Splitter", "keepPieces", "()V"⟩, 7) := ⟨⟨by decide +kernel, by decide +kernel⟩, List.mem_of_getElem? (i := 140) (by decide +kernel), List.mem_of_getElem? (i := 480) (by decide +kernel), List.mem_of_getElem? (i := 481) (by decide +kernel)⟩
def lw_privs_1 : List (MethodName × Nat) := [(⟨"CutPoints", "redraw", "()V"⟩, 6), (⟨"CutPoints$Sketch", "fillArcs", "(LCutPoints$Graph;J)V"⟩, 7), (⟨"CutPoints$Sketch", "findBlocks", "()V"⟩, 7), (⟨"CutPoints$Sketch", "loneArcs", "()J"⟩, 7), (⟨"CutPoints", "pairCode", "(II)I"⟩, 6), (⟨"CutPoints$Sketch", "thinNode", "(I)I"⟩, 7), (⟨"CutPoints$Sketch", "linkAll", "(I)V"⟩, 7), (⟨"CutPoints$Flow", "forget", "()V"⟩, 4), (⟨"CutPoints$Flow", "change", "(III)V"⟩, 4), (⟨"CutPoints$Flow", "search", "(II)Z"⟩, 4), (⟨"CutPoints$Flow", "comeFrom", "(II)V"⟩, 4), (⟨"CutPoints$Flow", "push", "(II)V"⟩, 4), (⟨"CutPoints$Compass", "fillLeads", "(LCutPoints$Graph;JJ)V"⟩, 1), (⟨"CutPoints$Splitter", "findPieces", "(LCutPoints$Sketch;)V"⟩, 7), (⟨"CutPoints$Splitter", "cutAt", "(LCutPoints$Sketch;II)V"⟩, 7), (⟨"CutPoints$Splitter", "keepPieces", "()V"⟩, 7)]
theorem lw_r1 : ∀ q ∈ lw_privs_1, lw_okq q := List.forall_mem_cons.mpr ⟨lw_p0, List.forall_mem_cons.mpr ⟨lw_p1, List.forall_mem_cons.mpr ⟨lw_p2, List.forall_mem_cons.mpr ⟨lw_p3, List.forall_mem_cons.mpr ⟨lw_p4, List.forall_mem_cons.mpr ⟨lw_p5, List.forall_mem_cons.mpr ⟨lw_p6, List.forall_mem_cons.mpr ⟨lw_p7, List.forall_mem_cons.mpr ⟨lw_p8, List.forall_mem_cons.mpr ⟨lw_p9, List.forall_mem_cons.mpr ⟨lw_p10, List.forall_mem_cons.mpr ⟨lw_p11, List.forall_mem_cons.mpr ⟨lw_p12, List.forall_mem_cons.mpr ⟨lw_p13, List.forall_mem_cons.mpr ⟨lw_p14, List.forall_mem_cons.mpr ⟨lw_p15, fun _ h => absurd h List.not_mem_nil⟩⟩⟩⟩⟩⟩⟩⟩⟩⟩⟩⟩⟩⟩⟩⟩
theorem lw_p16 : lw_okq (⟨"CutPoints$Splitter", "keepGood", "(II)V"⟩, 7) := ⟨⟨by decide +kernel, by decide +kernel⟩, List.mem_of_getElem? (i := 140) (by decide +kernel), List.mem_of_getElem? (i := 484) (by decide +kernel), List.mem_of_getElem? (i := 485) (by decide +kernel)⟩
theorem lw_p17 : lw_okq (⟨"CutPoints$Splitter", "isCrossed", "(J)Z"⟩, 7) := ⟨⟨by decide +kernel, by decide +kernel⟩, List.mem_of_getElem? (i := 140) (by decide +kernel), List.mem_of_getElem? (i := 490) (by decide +kernel), List.mem_of_getElem? (i := 491) (by decide +kernel)⟩
theorem lw_p18 : lw_okq (⟨"CutPoints$Splitter", "isCrossedAt", "(JII)Z"⟩, 7) := ⟨⟨by decide +kernel, by decide +kernel⟩, List.mem_of_getElem? (i := 140) (by decide +kernel), List.mem_of_getElem? (i := 494) (by decide +kernel), List.mem_of_getElem? (i := 495) (by decide +kernel)⟩
theorem lw_p19 : lw_okq (⟨"CutPointsModel", "isNode", "(I)Z"⟩, 15) := ⟨⟨by decide +kernel, by decide +kernel⟩, List.mem_of_getElem? (i := 513) (by decide +kernel), List.mem_of_getElem? (i := 578) (by decide +kernel), List.mem_of_getElem? (i := 579) (by decide +kernel)⟩
theorem lw_p20 : lw_okq (⟨"CutPointsModel", "lookAll", "()V"⟩, 15) := ⟨⟨by decide +kernel, by decide +kernel⟩, List.mem_of_getElem? (i := 513) (by decide +kernel), List.mem_of_getElem? (i := 593) (by decide +kernel), List.mem_of_getElem? (i := 594) (by decide +kernel)⟩
theorem lw_p21 : lw_okq (⟨"CutPointsModel", "look", "(IIII)V"⟩, 15) := ⟨⟨by decide +kernel, by decide +kernel⟩, List.mem_of_getElem? (i := 513) (by decide +kernel), List.mem_of_getElem? (i := 597) (by decide +kernel), List.mem_of_getElem? (i := 598) (by decide +kernel)⟩
theorem lw_p22 : lw_okq (⟨"CutPointsModel", "everyNode", "()I"⟩, 15) := ⟨⟨by decide +kernel, by decide +kernel⟩, List.mem_of_getElem? (i := 513) (by decide +kernel), List.mem_of_getElem? (i := 601) (by decide +kernel), List.mem_of_getElem? (i := 602) (by decide +kernel)⟩
theorem lw_p23 : lw_okq (⟨"CutPointsModel", "partsOf", "(I)I"⟩, 15) := ⟨⟨by decide +kernel, by decide +kernel⟩, List.mem_of_getElem? (i := 513) (by decide +kernel), List.mem_of_getElem? (i := 605) (by decide +kernel), List.mem_of_getElem? (i := 606) (by decide +kernel)⟩
theorem lw_p24 : lw_okq (⟨"CutPointsModel", "reach", "(I)I"⟩, 15) := ⟨⟨by decide +kernel, by decide +kernel⟩, List.mem_of_getElem? (i := 513) (by decide +kernel), List.mem_of_getElem? (i := 612) (by decide +kernel), List.mem_of_getElem? (i := 613) (by decide +kernel)⟩
theorem lw_p25 : lw_okq (⟨"CutPointsModel", "isBridge", "(I)Z"⟩, 15) := ⟨⟨by decide +kernel, by decide +kernel⟩, List.mem_of_getElem? (i := 513) (by decide +kernel), List.mem_of_getElem? (i := 616) (by decide +kernel), List.mem_of_getElem? (i := 617) (by decide +kernel)⟩
theorem lw_p26 : lw_okq (⟨"CutPointsModel", "fallsOf", "(I)I"⟩, 15) := ⟨⟨by decide +kernel, by decide +kernel⟩, List.mem_of_getElem? (i := 513) (by decide +kernel), List.mem_of_getElem? (i := 620) (by decide +kernel), List.mem_of_getElem? (i := 621) (by decide +kernel)⟩
theorem lw_p27 : lw_okq (⟨"CutPointsModel", "partSet", "(I)I"⟩, 15) := ⟨⟨by decide +kernel, by decide +kernel⟩, List.mem_of_getElem? (i := 513) (by decide +kernel), List.mem_of_getElem? (i := 624) (by decide +kernel), List.mem_of_getElem? (i := 625) (by decide +kernel)⟩
theorem lw_p28 : lw_okq (⟨"CutPointsModel", "blockOf", "(I)I"⟩, 15) := ⟨⟨by decide +kernel, by decide +kernel⟩, List.mem_of_getElem? (i := 513) (by decide +kernel), List.mem_of_getElem? (i := 628) (by decide +kernel), List.mem_of_getElem? (i := 629) (by decide +kernel)⟩
theorem lw_p29 : lw_okq (⟨"CutPointsModel", "areBlock", "(II)Z"⟩, 15) := ⟨⟨by decide +kernel, by decide +kernel⟩, List.mem_of_getElem? (i := 513) (by decide +kernel), List.mem_of_getElem? (i := 632) (by decide +kernel), List.mem_of_getElem? (i := 633) (by decide +kernel)⟩
theorem lw_p30 : lw_okq (⟨"CutPointsModel", "twinParts", "()I"⟩, 15) := ⟨⟨by decide +kernel, by decide +kernel⟩, List.mem_of_getElem? (i := 513) (by decide +kernel), List.mem_of_getElem? (i := 636) (by decide +kernel), List.mem_of_getElem? (i := 637) (by decide +kernel)⟩
theorem lw_p31 : lw_okq (⟨"CutPointsModel", "lookTwins", "(I)V"⟩, 15) := ⟨⟨by decide +kernel, by decide +kernel⟩, List.mem_of_getElem? (i := 513) (by decide +kernel), List.mem_of_getElem? (i := 640) (by decide +kernel), List.mem_of_getElem? (i := 641) (by decide +kernel)⟩
def lw_privs_2 : List (MethodName × Nat) := [(⟨"CutPoints$Splitter", "keepGood", "(II)V"⟩, 7), (⟨"CutPoints$Splitter", "isCrossed", "(J)Z"⟩, 7), (⟨"CutPoints$Splitter", "isCrossedAt", "(JII)Z"⟩, 7), (⟨"CutPointsModel", "isNode", "(I)Z"⟩, 15), (⟨"CutPointsModel", "lookAll", "()V"⟩, 15), (⟨"CutPointsModel", "look", "(IIII)V"⟩, 15), (⟨"CutPointsModel", "everyNode", "()I"⟩, 15), (⟨"CutPointsModel", "partsOf", "(I)I"⟩, 15), (⟨"CutPointsModel", "reach", "(I)I"⟩, 15), (⟨"CutPointsModel", "isBridge", "(I)Z"⟩, 15), (⟨"CutPointsModel", "fallsOf", "(I)I"⟩, 15), (⟨"CutPointsModel", "partSet", "(I)I"⟩, 15), (⟨"CutPointsModel", "blockOf", "(I)I"⟩, 15), (⟨"CutPointsModel", "areBlock", "(II)Z"⟩, 15), (⟨"CutPointsModel", "twinParts", "()I"⟩, 15), (⟨"CutPointsModel", "lookTwins", "(I)V"⟩, 15)]
theorem lw_r2 : ∀ q ∈ lw_privs_2, lw_okq q := List.forall_mem_cons.mpr ⟨lw_p16, List.forall_mem_cons.mpr ⟨lw_p17, List.forall_mem_cons.mpr ⟨lw_p18, List.forall_mem_cons.mpr ⟨lw_p19, List.forall_mem_cons.mpr ⟨lw_p20, List.forall_mem_cons.mpr ⟨lw_p21, List.forall_mem_cons.mpr ⟨lw_p22, List.forall_mem_cons.mpr ⟨lw_p23, List.forall_mem_cons.mpr ⟨lw_p24, List.forall_mem_cons.mpr ⟨lw_p25, List.forall_mem_cons.mpr ⟨lw_p26, List.forall_mem_cons.mpr ⟨lw_p27, List.forall_mem_cons.mpr ⟨lw_p28, List.forall_mem_cons.mpr ⟨lw_p29, List.forall_mem_cons.mpr ⟨lw_p30, List.forall_mem_cons.mpr ⟨lw_p31, fun _ h => absurd h List.not_mem_nil⟩⟩⟩⟩⟩⟩⟩⟩⟩⟩⟩⟩⟩⟩⟩⟩
theorem lw_p32 : lw_okq (⟨"CutPointsModel", "neededWith", "(I)I"⟩, 15) := ⟨⟨by decide +kernel, by decide +kernel⟩, List.mem_of_getElem? (i := 513) (by decide +kernel), List.mem_of_getElem? (i := 644) (by decide +kernel), List.mem_of_getElem? (i := 645) (by decide +kernel)⟩
theorem lw_p33 : lw_okq (⟨"CutPointsModel", "out", "(II)I"⟩, 15) := ⟨⟨by decide +kernel, by decide +kernel⟩, List.mem_of_getElem? (i := 513) (by decide +kernel), List.mem_of_getElem? (i := 648) (by decide +kernel), List.mem_of_getElem? (i := 649) (by decide +kernel)⟩
theorem lw_p34 : lw_okq (⟨"CutPointsModel", "wornSet", "()I"⟩, 15) := ⟨⟨by decide +kernel, by decide +kernel⟩, List.mem_of_getElem? (i := 513) (by decide +kernel), List.mem_of_getElem? (i := 652) (by decide +kernel), List.mem_of_getElem? (i := 653) (by decide +kernel)⟩
theorem lw_p35 : lw_okq (⟨"CutPointsModel", "isThere", "(I)Z"⟩, 15) := ⟨⟨by decide +kernel, by decide +kernel⟩, List.mem_of_getElem? (i := 513) (by decide +kernel), List.mem_of_getElem? (i := 667) (by decide +kernel), List.mem_of_getElem? (i := 668) (by decide +kernel)⟩
theorem lw_p36 : lw_okq (⟨"CutPointsModel", "leastOut", "(II)I"⟩, 15) := ⟨⟨by decide +kernel, by decide +kernel⟩, List.mem_of_getElem? (i := 513) (by decide +kernel), List.mem_of_getElem? (i := 687) (by decide +kernel), List.mem_of_getElem? (i := 688) (by decide +kernel)⟩
theorem lw_p37 : lw_okq (⟨"CutPointsModel", "arePartedBy", "(III)Z"⟩, 15) := ⟨⟨by decide +kernel, by decide +kernel⟩, List.mem_of_getElem? (i := 513) (by decide +kernel), List.mem_of_getElem? (i := 699) (by decide +kernel), List.mem_of_getElem? (i := 700) (by decide +kernel)⟩
theorem lw_p38 : lw_okq (⟨"CutPointsModel", "hasBridge", "(I)Z"⟩, 15) := ⟨⟨by decide +kernel, by decide +kernel⟩, List.mem_of_getElem? (i := 513) (by decide +kernel), List.mem_of_getElem? (i := 715) (by decide +kernel), List.mem_of_getElem? (i := 716) (by decide +kernel)⟩
theorem lw_p39 : lw_okq (⟨"CutPointsModel", "comesToAll", "(IIZ)Z"⟩, 15) := ⟨⟨by decide +kernel, by decide +kernel⟩, List.mem_of_getElem? (i := 513) (by decide +kernel), List.mem_of_getElem? (i := 719) (by decide +kernel), List.mem_of_getElem? (i := 720) (by decide +kernel)⟩
theorem lw_p40 : lw_okq (⟨"CutPointsModel", "layBlock", "(I)V"⟩, 15) := ⟨⟨by decide +kernel, by decide +kernel⟩, List.mem_of_getElem? (i := 513) (by decide +kernel), List.mem_of_getElem? (i := 727) (by decide +kernel), List.mem_of_getElem? (i := 728) (by decide +kernel)⟩
theorem lw_p41 : lw_okq (⟨"CutPointsModel", "laySplits", "()V"⟩, 15) := ⟨⟨by decide +kernel, by decide +kernel⟩, List.mem_of_getElem? (i := 513) (by decide +kernel), List.mem_of_getElem? (i := 731) (by decide +kernel), List.mem_of_getElem? (i := 732) (by decide +kernel)⟩
theorem lw_p42 : lw_okq (⟨"CutPointsModel", "touched", "(I)I"⟩, 15) := ⟨⟨by decide +kernel, by decide +kernel⟩, List.mem_of_getElem? (i := 513) (by decide +kernel), List.mem_of_getElem? (i := 735) (by decide +kernel), List.mem_of_getElem? (i := 736) (by decide +kernel)⟩
theorem lw_p43 : lw_okq (⟨"CutPointsModel", "placeOf", "(I)I"⟩, 15) := ⟨⟨by decide +kernel, by decide +kernel⟩, List.mem_of_getElem? (i := 513) (by decide +kernel), List.mem_of_getElem? (i := 739) (by decide +kernel), List.mem_of_getElem? (i := 740) (by decide +kernel)⟩
theorem lw_p44 : lw_okq (⟨"CutPointsModel", "areTogether", "(II)Z"⟩, 15) := ⟨⟨by decide +kernel, by decide +kernel⟩, List.mem_of_getElem? (i := 513) (by decide +kernel), List.mem_of_getElem? (i := 743) (by decide +kernel), List.mem_of_getElem? (i := 744) (by decide +kernel)⟩
def lw_privs_3 : List (MethodName × Nat) := [(⟨"CutPointsModel", "neededWith", "(I)I"⟩, 15), (⟨"CutPointsModel", "out", "(II)I"⟩, 15), (⟨"CutPointsModel", "wornSet", "()I"⟩, 15), (⟨"CutPointsModel", "isThere", "(I)Z"⟩, 15), (⟨"CutPointsModel", "leastOut", "(II)I"⟩, 15), (⟨"CutPointsModel", "arePartedBy", "(III)Z"⟩, 15), (⟨"CutPointsModel", "hasBridge", "(I)Z"⟩, 15), (⟨"CutPointsModel", "comesToAll", "(IIZ)Z"⟩, 15), (⟨"CutPointsModel", "layBlock", "(I)V"⟩, 15), (⟨"CutPointsModel", "laySplits", "()V"⟩, 15), (⟨"CutPointsModel", "touched", "(I)I"⟩, 15), (⟨"CutPointsModel", "placeOf", "(I)I"⟩, 15), (⟨"CutPointsModel", "areTogether", "(II)Z"⟩, 15)]
theorem lw_r3 : ∀ q ∈ lw_privs_3, lw_okq q := List.forall_mem_cons.mpr ⟨lw_p32, List.forall_mem_cons.mpr ⟨lw_p33, List.forall_mem_cons.mpr ⟨lw_p34, List.forall_mem_cons.mpr ⟨lw_p35, List.forall_mem_cons.mpr ⟨lw_p36, List.forall_mem_cons.mpr ⟨lw_p37, List.forall_mem_cons.mpr ⟨lw_p38, List.forall_mem_cons.mpr ⟨lw_p39, List.forall_mem_cons.mpr ⟨lw_p40, List.forall_mem_cons.mpr ⟨lw_p41, List.forall_mem_cons.mpr ⟨lw_p42, List.forall_mem_cons.mpr ⟨lw_p43, List.forall_mem_cons.mpr ⟨lw_p44, fun _ h => absurd h List.not_mem_nil⟩⟩⟩⟩⟩⟩⟩⟩⟩⟩⟩⟩⟩
def lw_privs : List (MethodName × Nat) := lw_privs_1 ++ (lw_privs_2 ++ (lw_privs_3))
def lw_tbl : List Cond := k2_sels lw_privs ++ tables_1
theorem lw_privs_ok : ∀ q ∈ lw_privs, lw_okq q := by
  show ∀ q ∈ lw_privs_1 ++ (lw_privs_2 ++ (lw_privs_3)), lw_okq q
  exact List.forall_mem_append.mpr ⟨lw_r1, List.forall_mem_append.mpr ⟨lw_r2, lw_r3⟩⟩
-- ===== names, fields, words: printed by wip/gen/tables.py =====
def TT : List Cond := lw_tbl.filter goodWord
theorem TT_in {w : Cond} (h : w ∈ TT) : w ∈ lw_tbl := (List.mem_filter.mp h).1
theorem TT_at {w : Cond} (i : Nat) (h : lw_tbl[i]? = some w) (g : goodWord w = true) : w ∈ TT := List.mem_filter.mpr ⟨List.mem_of_getElem? h, g⟩
theorem TT_good {w : Cond} (h : w ∈ TT) : (w.onTables && w.keeps) = true ∨ ∃ ty, w = .arrayClass ty := good_of_word (List.mem_filter.mp h).2
def R_CP : String := "CutPoints"
def F_CP : u_T := fun k => match k with
  | 0 => ("CutPoints", "graph", "LCutPoints$Graph;", true)
  | 1 => ("CutPoints", "now", "LCutPoints$Sketch;", true)
  | 2 => ("CutPoints", "tried", "LCutPoints$Sketch;", true)
  | 3 => ("CutPoints", "flow", "LCutPoints$Flow;", true)
  | 4 => ("CutPoints", "compass", "LCutPoints$Compass;", true)
  | _ => ("CutPoints", "splitter", "LCutPoints$Splitter;", true)
def t_CP : Nat → FieldType := fun k => match k with
  | 0 => .object "CutPoints$Graph"
  | 1 => .object "CutPoints$Sketch"
  | 2 => .object "CutPoints$Sketch"
  | 3 => .object "CutPoints$Flow"
  | 4 => .object "CutPoints$Compass"
  | _ => .object "CutPoints$Splitter"
theorem n_CP : ∀ a, a < 6 → ∀ b, b < 6 → a ≠ b → (F_CP a).2.1 ≠ (F_CP b).2.1 := by decide +kernel
theorem t_CP_ok : ∀ k, k < 6 → parseFieldDescriptor (F_CP k).2.2.1 = some (t_CP k) := by decide +kernel
theorem in_CP : ∀ w ∈ u_ws R_CP F_CP 6, w ∈ TT := by decide +kernel
def R_GR : String := "CutPoints$Graph"
def F_GR : u_T := fun k => match k with
  | 0 => ("CutPoints$Graph", "first", "[I", true)
  | 1 => ("CutPoints$Graph", "second", "[I", true)
  | 2 => ("CutPoints$Graph", "nodeCount", "I", false)
  | 3 => ("CutPoints$Graph", "arcCount", "I", false)
  | _ => ("CutPoints$Graph", "present", "J", false)
def t_GR : Nat → FieldType := fun k => match k with
  | 0 => .array .int
  | 1 => .array .int
  | 2 => .int
  | 3 => .int
  | _ => .long
theorem n_GR : ∀ a, a < 5 → ∀ b, b < 5 → a ≠ b → (F_GR a).2.1 ≠ (F_GR b).2.1 := by decide +kernel
theorem t_GR_ok : ∀ k, k < 5 → parseFieldDescriptor (F_GR k).2.2.1 = some (t_GR k) := by decide +kernel
theorem in_GR : ∀ w ∈ u_ws R_GR F_GR 5, w ∈ TT := by decide +kernel
def R_SK : String := "CutPoints$Sketch"
def F_SK : u_T := fun k => match k with
  | 0 => ("CutPoints$Sketch", "near", "[I", true)
  | 1 => ("CutPoints$Sketch", "firm", "[I", true)
  | 2 => ("CutPoints$Sketch", "rest", "[I", true)
  | 3 => ("CutPoints$Sketch", "at", "[J", true)
  | 4 => ("CutPoints$Sketch", "blocks", "LCutPoints$Groups;", true)
  | 5 => ("CutPoints$Sketch", "all", "I", false)
  | _ => ("CutPoints$Sketch", "bridges", "J", false)
def t_SK : Nat → FieldType := fun k => match k with
  | 0 => .array .int
  | 1 => .array .int
  | 2 => .array .int
  | 3 => .array .long
  | 4 => .object "CutPoints$Groups"
  | 5 => .int
  | _ => .long
theorem n_SK : ∀ a, a < 7 → ∀ b, b < 7 → a ≠ b → (F_SK a).2.1 ≠ (F_SK b).2.1 := by decide +kernel
theorem t_SK_ok : ∀ k, k < 7 → parseFieldDescriptor (F_SK k).2.2.1 = some (t_SK k) := by decide +kernel
theorem in_SK : ∀ w ∈ u_ws R_SK F_SK 7, w ∈ TT := by decide +kernel
def R_GP : String := "CutPoints$Groups"
def F_GP : u_T := fun k => match k with
  | 0 => ("CutPoints$Groups", "sets", "[J", true)
  | _ => ("CutPoints$Groups", "size", "I", false)
def t_GP : Nat → FieldType := fun k => match k with
  | 0 => .array .long
  | _ => .int
theorem n_GP : ∀ a, a < 2 → ∀ b, b < 2 → a ≠ b → (F_GP a).2.1 ≠ (F_GP b).2.1 := by decide +kernel
theorem t_GP_ok : ∀ k, k < 2 → parseFieldDescriptor (F_GP k).2.2.1 = some (t_GP k) := by decide +kernel
theorem in_GP : ∀ w ∈ u_ws R_GP F_GP 2, w ∈ TT := by decide +kernel
def R_FL : String := "CutPoints$Flow"
def F_FL : u_T := fun k => match k with
  | 0 => ("CutPoints$Flow", "room", "[I", true)
  | 1 => ("CutPoints$Flow", "open", "[I", true)
  | 2 => ("CutPoints$Flow", "before", "[I", true)
  | _ => ("CutPoints$Flow", "seen", "I", false)
def t_FL : Nat → FieldType := fun k => match k with
  | 0 => .array .int
  | 1 => .array .int
  | 2 => .array .int
  | _ => .int
theorem n_FL : ∀ a, a < 4 → ∀ b, b < 4 → a ≠ b → (F_FL a).2.1 ≠ (F_FL b).2.1 := by decide +kernel
theorem t_FL_ok : ∀ k, k < 4 → parseFieldDescriptor (F_FL k).2.2.1 = some (t_FL k) := by decide +kernel
theorem in_FL : ∀ w ∈ u_ws R_FL F_FL 4, w ∈ TT := by decide +kernel
def R_CO : String := "CutPoints$Compass"
def F_CO : u_T := fun k => match k with
  | _ => ("CutPoints$Compass", "leads", "[I", true)
def t_CO : Nat → FieldType := fun k => match k with
  | _ => .array .int
theorem n_CO : ∀ a, a < 1 → ∀ b, b < 1 → a ≠ b → (F_CO a).2.1 ≠ (F_CO b).2.1 := by decide +kernel
theorem t_CO_ok : ∀ k, k < 1 → parseFieldDescriptor (F_CO k).2.2.1 = some (t_CO k) := by decide +kernel
theorem in_CO : ∀ w ∈ u_ws R_CO F_CO 1, w ∈ TT := by decide +kernel
def R_SP : String := "CutPoints$Splitter"
def F_SP : u_T := fun k => match k with
  | 0 => ("CutPoints$Splitter", "groups", "LCutPoints$Groups;", true)
  | 1 => ("CutPoints$Splitter", "pieces", "[J", true)
  | 2 => ("CutPoints$Splitter", "bounds", "[I", true)
  | 3 => ("CutPoints$Splitter", "pairCount", "I", false)
  | 4 => ("CutPoints$Splitter", "good", "[J", true)
  | 5 => ("CutPoints$Splitter", "goodCount", "I", false)
  | _ => ("CutPoints$Splitter", "block", "J", false)
def t_SP : Nat → FieldType := fun k => match k with
  | 0 => .object "CutPoints$Groups"
  | 1 => .array .long
  | 2 => .array .int
  | 3 => .int
  | 4 => .array .long
  | 5 => .int
  | _ => .long
theorem n_SP : ∀ a, a < 7 → ∀ b, b < 7 → a ≠ b → (F_SP a).2.1 ≠ (F_SP b).2.1 := by decide +kernel
theorem t_SP_ok : ∀ k, k < 7 → parseFieldDescriptor (F_SP k).2.2.1 = some (t_SP k) := by decide +kernel
theorem in_SP : ∀ w ∈ u_ws R_SP F_SP 7, w ∈ TT := by decide +kernel
def R_MO : String := "CutPointsModel"
def F_MO : u_T := fun k => match k with
  | 0 => ("CutPointsModel", "thrown", "I", false)
  | 1 => ("CutPointsModel", "nodes", "I", false)
  | 2 => ("CutPointsModel", "arcs", "I", false)
  | 3 => ("CutPointsModel", "first", "[I", false)
  | 4 => ("CutPointsModel", "second", "[I", false)
  | 5 => ("CutPointsModel", "there", "[Z", false)
  | 6 => ("CutPointsModel", "near", "[I", false)
  | 7 => ("CutPointsModel", "twins", "[I", false)
  | 8 => ("CutPointsModel", "best", "I", false)
  | 9 => ("CutPointsModel", "told", "[I", false)
  | 10 => ("CutPointsModel", "ofBlock", "[I", false)
  | 11 => ("CutPointsModel", "blockSize", "I", false)
  | 12 => ("CutPointsModel", "split", "[I", false)
  | 13 => ("CutPointsModel", "good", "[Z", false)
  | _ => ("CutPointsModel", "splits", "I", false)
def t_MO : Nat → FieldType := fun k => match k with
  | 0 => .int
  | 1 => .int
  | 2 => .int
  | 3 => .array .int
  | 4 => .array .int
  | 5 => .array .boolean
  | 6 => .array .int
  | 7 => .array .int
  | 8 => .int
  | 9 => .array .int
  | 10 => .array .int
  | 11 => .int
  | 12 => .array .int
  | 13 => .array .boolean
  | _ => .int
theorem n_MO : ∀ a, a < 15 → ∀ b, b < 15 → a ≠ b → (F_MO a).2.1 ≠ (F_MO b).2.1 := by decide +kernel
theorem t_MO_ok : ∀ k, k < 15 → parseFieldDescriptor (F_MO k).2.2.1 = some (t_MO k) := by decide +kernel
theorem in_MO : ∀ w ∈ u_ws R_MO F_MO 15, w ∈ TT := by decide +kernel
abbrev cls : List vw_C := [(R_CP, F_CP, 6), (R_GR, F_GR, 5), (R_SK, F_SK, 7), (R_GP, F_GP, 2), (R_FL, F_FL, 4), (R_CO, F_CO, 1), (R_SP, F_SP, 7), (R_MO, F_MO, 15)]
theorem wini_LW : Jvm.Cond.initialized "CutPointsLaw" ∈ TT := TT_at 45 (by decide +kernel) rfl
theorem wini_CP : Jvm.Cond.initialized "CutPoints" ∈ TT := TT_at 46 (by decide +kernel) rfl
theorem wini_GR : Jvm.Cond.initialized "CutPoints$Graph" ∈ TT := TT_at 47 (by decide +kernel) rfl
theorem wini_SK : Jvm.Cond.initialized "CutPoints$Sketch" ∈ TT := TT_at 48 (by decide +kernel) rfl
theorem wini_GP : Jvm.Cond.initialized "CutPoints$Groups" ∈ TT := TT_at 49 (by decide +kernel) rfl
theorem wini_FL : Jvm.Cond.initialized "CutPoints$Flow" ∈ TT := TT_at 50 (by decide +kernel) rfl
theorem wini_CO : Jvm.Cond.initialized "CutPoints$Compass" ∈ TT := TT_at 51 (by decide +kernel) rfl
theorem wini_SP : Jvm.Cond.initialized "CutPoints$Splitter" ∈ TT := TT_at 52 (by decide +kernel) rfl
theorem wini_MO : Jvm.Cond.initialized "CutPointsModel" ∈ TT := TT_at 53 (by decide +kernel) rfl
theorem wini_JA : Jvm.Cond.initialized "java/util/Arrays" ∈ TT := TT_at 54 (by decide +kernel) rfl
theorem wini_JL : Jvm.Cond.initialized "java/lang/Long" ∈ TT := TT_at 55 (by decide +kernel) rfl
theorem wini_JM : Jvm.Cond.initialized "java/lang/Math" ∈ TT := TT_at 56 (by decide +kernel) rfl
theorem wini_JS : Jvm.Cond.initialized "java/lang/System" ∈ TT := TT_at 57 (by decide +kernel) rfl
theorem wini_JI : Jvm.Cond.initialized "java/lang/Integer" ∈ TT := TT_at 58 (by decide +kernel) rfl
theorem wcl_LW_7 : Jvm.Cond.classLink "CutPointsLaw" (7 : Nat) "CutPoints" ∈ TT := TT_at 59 (by decide +kernel) rfl
theorem winst_CP : Jvm.Cond.instantiable "CutPoints" (6 : Nat) ∈ TT := TT_at 60 (by decide +kernel) rfl
theorem wml_LW_9 : Jvm.Cond.methodLink "CutPointsLaw" (9 : Nat) ({ cls := "CutPoints", name := "<init>", desc := "()V" } : Jvm.MethodName) ∈ TT := TT_at 61 (by decide +kernel) rfl
theorem wim_CP_init : Jvm.Cond.instanceMethod ({ cls := "CutPoints", name := "<init>", desc := "()V" } : Jvm.MethodName) ∈ TT := TT_at 62 (by decide +kernel) rfl
theorem wcode_CP_init : Jvm.Cond.code ({ cls := "CutPoints", name := "<init>", desc := "()V" } : Jvm.MethodName) prog_1_method_1_code (1 : Nat) (Option.none : Option Jvm.ClassFile.FieldType) ∈ TT := TT_at 63 (by decide +kernel) rfl
theorem wml_CP_3 : Jvm.Cond.methodLink "CutPoints" (3 : Nat) ({ cls := "java/lang/Object", name := "<init>", desc := "()V" } : Jvm.MethodName) ∈ TT := TT_at 64 (by decide +kernel) rfl
theorem wim_OB_init : Jvm.Cond.instanceMethod ({ cls := "java/lang/Object", name := "<init>", desc := "()V" } : Jvm.MethodName) ∈ TT := TT_at 65 (by decide +kernel) rfl
theorem wcode_OB_init : Jvm.Cond.code ({ cls := "java/lang/Object", name := "<init>", desc := "()V" } : Jvm.MethodName) object_method_1_code (1 : Nat) (Option.none : Option Jvm.ClassFile.FieldType) ∈ TT := TT_at 66 (by decide +kernel) rfl
theorem wcl_CP_9 : Jvm.Cond.classLink "CutPoints" (9 : Nat) "CutPoints$Graph" ∈ TT := TT_at 67 (by decide +kernel) rfl
theorem winst_GR : Jvm.Cond.instantiable "CutPoints$Graph" (5 : Nat) ∈ TT := TT_at 68 (by decide +kernel) rfl
theorem wim_GR_init : Jvm.Cond.instanceMethod ({ cls := "CutPoints$Graph", name := "<init>", desc := "()V" } : Jvm.MethodName) ∈ TT := TT_at 70 (by decide +kernel) rfl
theorem wcode_GR_init : Jvm.Cond.code ({ cls := "CutPoints$Graph", name := "<init>", desc := "()V" } : Jvm.MethodName) prog_4_method_1_code (1 : Nat) (Option.none : Option Jvm.ClassFile.FieldType) ∈ TT := TT_at 71 (by decide +kernel) rfl
theorem wml_GR_3 : Jvm.Cond.methodLink "CutPoints$Graph" (3 : Nat) ({ cls := "java/lang/Object", name := "<init>", desc := "()V" } : Jvm.MethodName) ∈ TT := TT_at 72 (by decide +kernel) rfl
theorem wfl_GR_9 : Jvm.Cond.fieldLink "CutPoints$Graph" (9 : Nat) "CutPoints$Graph" "first" "[I" ∈ TT := TT_at 73 (by decide +kernel) rfl
theorem wfl_CO_34 : Jvm.Cond.fieldLink "CutPoints$Compass" (34 : Nat) "CutPoints$Graph" "first" "[I" ∈ TT := TT_at 74 (by decide +kernel) rfl
theorem wfl_FL_34 : Jvm.Cond.fieldLink "CutPoints$Flow" (34 : Nat) "CutPoints$Graph" "first" "[I" ∈ TT := TT_at 75 (by decide +kernel) rfl
theorem wfl_SK_72 : Jvm.Cond.fieldLink "CutPoints$Sketch" (72 : Nat) "CutPoints$Graph" "first" "[I" ∈ TT := TT_at 76 (by decide +kernel) rfl
theorem wfl_CP_170 : Jvm.Cond.fieldLink "CutPoints" (170 : Nat) "CutPoints$Graph" "first" "[I" ∈ TT := TT_at 77 (by decide +kernel) rfl
theorem wfl_GR_15 : Jvm.Cond.fieldLink "CutPoints$Graph" (15 : Nat) "CutPoints$Graph" "second" "[I" ∈ TT := TT_at 78 (by decide +kernel) rfl
theorem wfl_CO_25 : Jvm.Cond.fieldLink "CutPoints$Compass" (25 : Nat) "CutPoints$Graph" "second" "[I" ∈ TT := TT_at 79 (by decide +kernel) rfl
theorem wfl_FL_37 : Jvm.Cond.fieldLink "CutPoints$Flow" (37 : Nat) "CutPoints$Graph" "second" "[I" ∈ TT := TT_at 80 (by decide +kernel) rfl
theorem wfl_SK_75 : Jvm.Cond.fieldLink "CutPoints$Sketch" (75 : Nat) "CutPoints$Graph" "second" "[I" ∈ TT := TT_at 81 (by decide +kernel) rfl
theorem wfl_SK_32 : Jvm.Cond.fieldLink "CutPoints$Sketch" (32 : Nat) "CutPoints$Graph" "nodeCount" "I" ∈ TT := TT_at 82 (by decide +kernel) rfl
theorem wfl_CP_47 : Jvm.Cond.fieldLink "CutPoints" (47 : Nat) "CutPoints$Graph" "nodeCount" "I" ∈ TT := TT_at 83 (by decide +kernel) rfl
theorem wfl_GR_18 : Jvm.Cond.fieldLink "CutPoints$Graph" (18 : Nat) "CutPoints$Graph" "nodeCount" "I" ∈ TT := TT_at 84 (by decide +kernel) rfl
theorem wfl_CP_51 : Jvm.Cond.fieldLink "CutPoints" (51 : Nat) "CutPoints$Graph" "arcCount" "I" ∈ TT := TT_at 85 (by decide +kernel) rfl
theorem wfl_GR_22 : Jvm.Cond.fieldLink "CutPoints$Graph" (22 : Nat) "CutPoints$Graph" "arcCount" "I" ∈ TT := TT_at 86 (by decide +kernel) rfl
theorem wfl_CP_54 : Jvm.Cond.fieldLink "CutPoints" (54 : Nat) "CutPoints$Graph" "present" "J" ∈ TT := TT_at 87 (by decide +kernel) rfl
theorem wfl_FL_24 : Jvm.Cond.fieldLink "CutPoints$Flow" (24 : Nat) "CutPoints$Graph" "present" "J" ∈ TT := TT_at 88 (by decide +kernel) rfl
theorem wfl_GR_29 : Jvm.Cond.fieldLink "CutPoints$Graph" (29 : Nat) "CutPoints$Graph" "present" "J" ∈ TT := TT_at 89 (by decide +kernel) rfl
theorem warr_int : Jvm.Cond.arrayClass Jvm.ClassFile.FieldType.int ∈ TT := TT_at 101 (by decide +kernel) rfl
theorem wcl_CP_16 : Jvm.Cond.classLink "CutPoints" (16 : Nat) "CutPoints$Sketch" ∈ TT := TT_at 102 (by decide +kernel) rfl
theorem winst_SK : Jvm.Cond.instantiable "CutPoints$Sketch" (7 : Nat) ∈ TT := TT_at 103 (by decide +kernel) rfl
theorem wim_SK_init : Jvm.Cond.instanceMethod ({ cls := "CutPoints$Sketch", name := "<init>", desc := "()V" } : Jvm.MethodName) ∈ TT := TT_at 105 (by decide +kernel) rfl
theorem wcode_SK_init : Jvm.Cond.code ({ cls := "CutPoints$Sketch", name := "<init>", desc := "()V" } : Jvm.MethodName) prog_6_method_1_code (1 : Nat) (Option.none : Option Jvm.ClassFile.FieldType) ∈ TT := TT_at 106 (by decide +kernel) rfl
theorem wml_SK_3 : Jvm.Cond.methodLink "CutPoints$Sketch" (3 : Nat) ({ cls := "java/lang/Object", name := "<init>", desc := "()V" } : Jvm.MethodName) ∈ TT := TT_at 107 (by decide +kernel) rfl
theorem wcl_SK_25 : Jvm.Cond.classLink "CutPoints$Sketch" (25 : Nat) "CutPoints$Groups" ∈ TT := TT_at 108 (by decide +kernel) rfl
theorem winst_GP : Jvm.Cond.instantiable "CutPoints$Groups" (2 : Nat) ∈ TT := TT_at 109 (by decide +kernel) rfl
theorem wim_GP_init : Jvm.Cond.instanceMethod ({ cls := "CutPoints$Groups", name := "<init>", desc := "()V" } : Jvm.MethodName) ∈ TT := TT_at 111 (by decide +kernel) rfl
theorem wcode_GP_init : Jvm.Cond.code ({ cls := "CutPoints$Groups", name := "<init>", desc := "()V" } : Jvm.MethodName) prog_5_method_1_code (1 : Nat) (Option.none : Option Jvm.ClassFile.FieldType) ∈ TT := TT_at 112 (by decide +kernel) rfl
theorem wml_GP_3 : Jvm.Cond.methodLink "CutPoints$Groups" (3 : Nat) ({ cls := "java/lang/Object", name := "<init>", desc := "()V" } : Jvm.MethodName) ∈ TT := TT_at 113 (by decide +kernel) rfl
theorem wfl_GP_9 : Jvm.Cond.fieldLink "CutPoints$Groups" (9 : Nat) "CutPoints$Groups" "sets" "[J" ∈ TT := TT_at 114 (by decide +kernel) rfl
theorem wfl_SK_99 : Jvm.Cond.fieldLink "CutPoints$Sketch" (99 : Nat) "CutPoints$Groups" "sets" "[J" ∈ TT := TT_at 115 (by decide +kernel) rfl
theorem wfl_SP_76 : Jvm.Cond.fieldLink "CutPoints$Splitter" (76 : Nat) "CutPoints$Groups" "sets" "[J" ∈ TT := TT_at 116 (by decide +kernel) rfl
theorem wfl_GP_15 : Jvm.Cond.fieldLink "CutPoints$Groups" (15 : Nat) "CutPoints$Groups" "size" "I" ∈ TT := TT_at 117 (by decide +kernel) rfl
theorem wfl_SK_96 : Jvm.Cond.fieldLink "CutPoints$Sketch" (96 : Nat) "CutPoints$Groups" "size" "I" ∈ TT := TT_at 118 (by decide +kernel) rfl
theorem wfl_SP_73 : Jvm.Cond.fieldLink "CutPoints$Splitter" (73 : Nat) "CutPoints$Groups" "size" "I" ∈ TT := TT_at 119 (by decide +kernel) rfl
theorem wfl_CP_96 : Jvm.Cond.fieldLink "CutPoints" (96 : Nat) "CutPoints$Groups" "size" "I" ∈ TT := TT_at 120 (by decide +kernel) rfl
theorem warr_long : Jvm.Cond.arrayClass Jvm.ClassFile.FieldType.long ∈ TT := TT_at 126 (by decide +kernel) rfl
theorem wfl_SK_9 : Jvm.Cond.fieldLink "CutPoints$Sketch" (9 : Nat) "CutPoints$Sketch" "near" "[I" ∈ TT := TT_at 127 (by decide +kernel) rfl
theorem wfl_FL_48 : Jvm.Cond.fieldLink "CutPoints$Flow" (48 : Nat) "CutPoints$Sketch" "near" "[I" ∈ TT := TT_at 128 (by decide +kernel) rfl
theorem wfl_CP_150 : Jvm.Cond.fieldLink "CutPoints" (150 : Nat) "CutPoints$Sketch" "near" "[I" ∈ TT := TT_at 129 (by decide +kernel) rfl
theorem wfl_SK_15 : Jvm.Cond.fieldLink "CutPoints$Sketch" (15 : Nat) "CutPoints$Sketch" "firm" "[I" ∈ TT := TT_at 130 (by decide +kernel) rfl
theorem wfl_SK_18 : Jvm.Cond.fieldLink "CutPoints$Sketch" (18 : Nat) "CutPoints$Sketch" "rest" "[I" ∈ TT := TT_at 131 (by decide +kernel) rfl
theorem wfl_SK_21 : Jvm.Cond.fieldLink "CutPoints$Sketch" (21 : Nat) "CutPoints$Sketch" "at" "[J" ∈ TT := TT_at 132 (by decide +kernel) rfl
theorem wfl_SP_54 : Jvm.Cond.fieldLink "CutPoints$Splitter" (54 : Nat) "CutPoints$Sketch" "at" "[J" ∈ TT := TT_at 133 (by decide +kernel) rfl
theorem wfl_SK_28 : Jvm.Cond.fieldLink "CutPoints$Sketch" (28 : Nat) "CutPoints$Sketch" "blocks" "LCutPoints$Groups;" ∈ TT := TT_at 134 (by decide +kernel) rfl
theorem wfl_CP_92 : Jvm.Cond.fieldLink "CutPoints" (92 : Nat) "CutPoints$Sketch" "blocks" "LCutPoints$Groups;" ∈ TT := TT_at 135 (by decide +kernel) rfl
theorem wfl_SK_38 : Jvm.Cond.fieldLink "CutPoints$Sketch" (38 : Nat) "CutPoints$Sketch" "all" "I" ∈ TT := TT_at 136 (by decide +kernel) rfl
theorem wfl_SK_56 : Jvm.Cond.fieldLink "CutPoints$Sketch" (56 : Nat) "CutPoints$Sketch" "bridges" "J" ∈ TT := TT_at 137 (by decide +kernel) rfl
theorem wfl_CP_86 : Jvm.Cond.fieldLink "CutPoints" (86 : Nat) "CutPoints$Sketch" "bridges" "J" ∈ TT := TT_at 138 (by decide +kernel) rfl
theorem wcl_CP_26 : Jvm.Cond.classLink "CutPoints" (26 : Nat) "CutPoints$Flow" ∈ TT := TT_at 154 (by decide +kernel) rfl
theorem winst_FL : Jvm.Cond.instantiable "CutPoints$Flow" (4 : Nat) ∈ TT := TT_at 155 (by decide +kernel) rfl
theorem wim_FL_init : Jvm.Cond.instanceMethod ({ cls := "CutPoints$Flow", name := "<init>", desc := "()V" } : Jvm.MethodName) ∈ TT := TT_at 157 (by decide +kernel) rfl
theorem wcode_FL_init : Jvm.Cond.code ({ cls := "CutPoints$Flow", name := "<init>", desc := "()V" } : Jvm.MethodName) prog_3_method_1_code (1 : Nat) (Option.none : Option Jvm.ClassFile.FieldType) ∈ TT := TT_at 158 (by decide +kernel) rfl
theorem wml_FL_3 : Jvm.Cond.methodLink "CutPoints$Flow" (3 : Nat) ({ cls := "java/lang/Object", name := "<init>", desc := "()V" } : Jvm.MethodName) ∈ TT := TT_at 159 (by decide +kernel) rfl
theorem wfl_FL_11 : Jvm.Cond.fieldLink "CutPoints$Flow" (11 : Nat) "CutPoints$Flow" "room" "[I" ∈ TT := TT_at 160 (by decide +kernel) rfl
theorem wfl_FL_15 : Jvm.Cond.fieldLink "CutPoints$Flow" (15 : Nat) "CutPoints$Flow" "open" "[I" ∈ TT := TT_at 161 (by decide +kernel) rfl
theorem wfl_FL_18 : Jvm.Cond.fieldLink "CutPoints$Flow" (18 : Nat) "CutPoints$Flow" "before" "[I" ∈ TT := TT_at 162 (by decide +kernel) rfl
theorem wfl_FL_67 : Jvm.Cond.fieldLink "CutPoints$Flow" (67 : Nat) "CutPoints$Flow" "seen" "I" ∈ TT := TT_at 163 (by decide +kernel) rfl
theorem wfl_CP_147 : Jvm.Cond.fieldLink "CutPoints" (147 : Nat) "CutPoints$Flow" "seen" "I" ∈ TT := TT_at 164 (by decide +kernel) rfl
theorem wcl_CP_33 : Jvm.Cond.classLink "CutPoints" (33 : Nat) "CutPoints$Compass" ∈ TT := TT_at 174 (by decide +kernel) rfl
theorem winst_CO : Jvm.Cond.instantiable "CutPoints$Compass" (1 : Nat) ∈ TT := TT_at 175 (by decide +kernel) rfl
theorem wim_CO_init : Jvm.Cond.instanceMethod ({ cls := "CutPoints$Compass", name := "<init>", desc := "()V" } : Jvm.MethodName) ∈ TT := TT_at 177 (by decide +kernel) rfl
theorem wcode_CO_init : Jvm.Cond.code ({ cls := "CutPoints$Compass", name := "<init>", desc := "()V" } : Jvm.MethodName) prog_2_method_1_code (1 : Nat) (Option.none : Option Jvm.ClassFile.FieldType) ∈ TT := TT_at 178 (by decide +kernel) rfl
theorem wml_CO_3 : Jvm.Cond.methodLink "CutPoints$Compass" (3 : Nat) ({ cls := "java/lang/Object", name := "<init>", desc := "()V" } : Jvm.MethodName) ∈ TT := TT_at 179 (by decide +kernel) rfl
theorem wfl_CO_9 : Jvm.Cond.fieldLink "CutPoints$Compass" (9 : Nat) "CutPoints$Compass" "leads" "[I" ∈ TT := TT_at 180 (by decide +kernel) rfl
theorem wcl_CP_40 : Jvm.Cond.classLink "CutPoints" (40 : Nat) "CutPoints$Splitter" ∈ TT := TT_at 184 (by decide +kernel) rfl
theorem winst_SP : Jvm.Cond.instantiable "CutPoints$Splitter" (7 : Nat) ∈ TT := TT_at 185 (by decide +kernel) rfl
theorem wim_SP_init : Jvm.Cond.instanceMethod ({ cls := "CutPoints$Splitter", name := "<init>", desc := "()V" } : Jvm.MethodName) ∈ TT := TT_at 187 (by decide +kernel) rfl
theorem wcode_SP_init : Jvm.Cond.code ({ cls := "CutPoints$Splitter", name := "<init>", desc := "()V" } : Jvm.MethodName) prog_7_method_1_code (1 : Nat) (Option.none : Option Jvm.ClassFile.FieldType) ∈ TT := TT_at 188 (by decide +kernel) rfl
theorem wml_SP_5 : Jvm.Cond.methodLink "CutPoints$Splitter" (5 : Nat) ({ cls := "java/lang/Object", name := "<init>", desc := "()V" } : Jvm.MethodName) ∈ TT := TT_at 189 (by decide +kernel) rfl
theorem wcl_SP_11 : Jvm.Cond.classLink "CutPoints$Splitter" (11 : Nat) "CutPoints$Groups" ∈ TT := TT_at 190 (by decide +kernel) rfl
theorem wfl_SP_14 : Jvm.Cond.fieldLink "CutPoints$Splitter" (14 : Nat) "CutPoints$Splitter" "groups" "LCutPoints$Groups;" ∈ TT := TT_at 192 (by decide +kernel) rfl
theorem wfl_SP_18 : Jvm.Cond.fieldLink "CutPoints$Splitter" (18 : Nat) "CutPoints$Splitter" "pieces" "[J" ∈ TT := TT_at 193 (by decide +kernel) rfl
theorem wfl_SP_22 : Jvm.Cond.fieldLink "CutPoints$Splitter" (22 : Nat) "CutPoints$Splitter" "bounds" "[I" ∈ TT := TT_at 194 (by decide +kernel) rfl
theorem wfl_SP_41 : Jvm.Cond.fieldLink "CutPoints$Splitter" (41 : Nat) "CutPoints$Splitter" "pairCount" "I" ∈ TT := TT_at 195 (by decide +kernel) rfl
theorem wfl_SP_26 : Jvm.Cond.fieldLink "CutPoints$Splitter" (26 : Nat) "CutPoints$Splitter" "good" "[J" ∈ TT := TT_at 196 (by decide +kernel) rfl
theorem wfl_SP_37 : Jvm.Cond.fieldLink "CutPoints$Splitter" (37 : Nat) "CutPoints$Splitter" "goodCount" "I" ∈ TT := TT_at 197 (by decide +kernel) rfl
theorem wfl_CP_187 : Jvm.Cond.fieldLink "CutPoints" (187 : Nat) "CutPoints$Splitter" "goodCount" "I" ∈ TT := TT_at 198 (by decide +kernel) rfl
theorem wfl_SP_29 : Jvm.Cond.fieldLink "CutPoints$Splitter" (29 : Nat) "CutPoints$Splitter" "block" "J" ∈ TT := TT_at 199 (by decide +kernel) rfl
theorem wfl_CP_12 : Jvm.Cond.fieldLink "CutPoints" (12 : Nat) "CutPoints" "graph" "LCutPoints$Graph;" ∈ TT := TT_at 215 (by decide +kernel) rfl
theorem wfl_CP_19 : Jvm.Cond.fieldLink "CutPoints" (19 : Nat) "CutPoints" "now" "LCutPoints$Sketch;" ∈ TT := TT_at 216 (by decide +kernel) rfl
theorem wfl_CP_23 : Jvm.Cond.fieldLink "CutPoints" (23 : Nat) "CutPoints" "tried" "LCutPoints$Sketch;" ∈ TT := TT_at 217 (by decide +kernel) rfl
theorem wfl_CP_29 : Jvm.Cond.fieldLink "CutPoints" (29 : Nat) "CutPoints" "flow" "LCutPoints$Flow;" ∈ TT := TT_at 218 (by decide +kernel) rfl
theorem wfl_CP_36 : Jvm.Cond.fieldLink "CutPoints" (36 : Nat) "CutPoints" "compass" "LCutPoints$Compass;" ∈ TT := TT_at 219 (by decide +kernel) rfl
theorem wfl_CP_43 : Jvm.Cond.fieldLink "CutPoints" (43 : Nat) "CutPoints" "splitter" "LCutPoints$Splitter;" ∈ TT := TT_at 220 (by decide +kernel) rfl
theorem wml_LW_13 : Jvm.Cond.methodLink "CutPointsLaw" (13 : Nat) ({ cls := "CutPoints", name := "clear", desc := "()V" } : Jvm.MethodName) ∈ TT := TT_at 234 (by decide +kernel) rfl
theorem wim_CP_clear : Jvm.Cond.instanceMethod ({ cls := "CutPoints", name := "clear", desc := "()V" } : Jvm.MethodName) ∈ TT := TT_at 235 (by decide +kernel) rfl
theorem wsel_CP_clear : Jvm.Cond.selects "CutPoints" ({ cls := "CutPoints", name := "clear", desc := "()V" } : Jvm.MethodName) ({ cls := "CutPoints", name := "clear", desc := "()V" } : Jvm.MethodName) ∈ TT := TT_at 236 (by decide +kernel) rfl
theorem wcode_CP_clear : Jvm.Cond.code ({ cls := "CutPoints", name := "clear", desc := "()V" } : Jvm.MethodName) prog_1_method_2_code (1 : Nat) (Option.none : Option Jvm.ClassFile.FieldType) ∈ TT := TT_at 237 (by decide +kernel) rfl
theorem wml_CP_58 : Jvm.Cond.methodLink "CutPoints" (58 : Nat) ({ cls := "CutPoints", name := "redraw", desc := "()V" } : Jvm.MethodName) ∈ TT := TT_at 238 (by decide +kernel) rfl
theorem wim_CP_redraw : Jvm.Cond.instanceMethod ({ cls := "CutPoints", name := "redraw", desc := "()V" } : Jvm.MethodName) ∈ TT := TT_at 240 (by decide +kernel) rfl
theorem wcode_CP_redraw : Jvm.Cond.code ({ cls := "CutPoints", name := "redraw", desc := "()V" } : Jvm.MethodName) prog_1_method_21_code (1 : Nat) (Option.none : Option Jvm.ClassFile.FieldType) ∈ TT := TT_at 241 (by decide +kernel) rfl
theorem wml_CP_166 : Jvm.Cond.methodLink "CutPoints" (166 : Nat) ({ cls := "CutPoints$Sketch", name := "draw", desc := "(LCutPoints$Graph;J)V" } : Jvm.MethodName) ∈ TT := TT_at 242 (by decide +kernel) rfl
theorem wim_SK_draw : Jvm.Cond.instanceMethod ({ cls := "CutPoints$Sketch", name := "draw", desc := "(LCutPoints$Graph;J)V" } : Jvm.MethodName) ∈ TT := TT_at 243 (by decide +kernel) rfl
theorem wsel_SK_draw : Jvm.Cond.selects "CutPoints$Sketch" ({ cls := "CutPoints$Sketch", name := "draw", desc := "(LCutPoints$Graph;J)V" } : Jvm.MethodName) ({ cls := "CutPoints$Sketch", name := "draw", desc := "(LCutPoints$Graph;J)V" } : Jvm.MethodName) ∈ TT := TT_at 244 (by decide +kernel) rfl
theorem wcode_SK_draw : Jvm.Cond.code ({ cls := "CutPoints$Sketch", name := "draw", desc := "(LCutPoints$Graph;J)V" } : Jvm.MethodName) prog_6_method_2_code (4 : Nat) (Option.none : Option Jvm.ClassFile.FieldType) ∈ TT := TT_at 245 (by decide +kernel) rfl
theorem wml_SK_41 : Jvm.Cond.methodLink "CutPoints$Sketch" (41 : Nat) ({ cls := "CutPoints$Sketch", name := "fillRows", desc := "(LCutPoints$Graph;J[I)V" } : Jvm.MethodName) ∈ TT := TT_at 246 (by decide +kernel) rfl
theorem wst_SK_fillRows : Jvm.Cond.static ({ cls := "CutPoints$Sketch", name := "fillRows", desc := "(LCutPoints$Graph;J[I)V" } : Jvm.MethodName) ∈ TT := TT_at 247 (by decide +kernel) rfl
theorem wcode_SK_fillRows : Jvm.Cond.code ({ cls := "CutPoints$Sketch", name := "fillRows", desc := "(LCutPoints$Graph;J[I)V" } : Jvm.MethodName) prog_6_method_3_code (5 : Nat) (Option.none : Option Jvm.ClassFile.FieldType) ∈ TT := TT_at 248 (by decide +kernel) rfl
theorem wml_SK_62 : Jvm.Cond.methodLink "CutPoints$Sketch" (62 : Nat) ({ cls := "java/util/Arrays", name := "fill", desc := "([II)V" } : Jvm.MethodName) ∈ TT := TT_at 249 (by decide +kernel) rfl
theorem wst_JA_fill : Jvm.Cond.static ({ cls := "java/util/Arrays", name := "fill", desc := "([II)V" } : Jvm.MethodName) ∈ TT := TT_at 250 (by decide +kernel) rfl
theorem wcode_JA_fill : Jvm.Cond.code ({ cls := "java/util/Arrays", name := "fill", desc := "([II)V" } : Jvm.MethodName) prog_14_method_103_code (4 : Nat) (Option.none : Option Jvm.ClassFile.FieldType) ∈ TT := TT_at 251 (by decide +kernel) rfl
theorem wst_CP_hasBit : Jvm.Cond.static ({ cls := "CutPoints", name := "hasBit", desc := "(JI)Z" } : Jvm.MethodName) ∈ TT := TT_at 253 (by decide +kernel) rfl
theorem wcode_CP_hasBit : Jvm.Cond.code ({ cls := "CutPoints", name := "hasBit", desc := "(JI)Z" } : Jvm.MethodName) prog_1_method_23_code (3 : Nat) (Option.some Jvm.ClassFile.FieldType.boolean) ∈ TT := TT_at 254 (by decide +kernel) rfl
theorem wml_SK_45 : Jvm.Cond.methodLink "CutPoints$Sketch" (45 : Nat) ({ cls := "CutPoints$Sketch", name := "fillArcs", desc := "(LCutPoints$Graph;J)V" } : Jvm.MethodName) ∈ TT := TT_at 255 (by decide +kernel) rfl
theorem wim_SK_fillArcs : Jvm.Cond.instanceMethod ({ cls := "CutPoints$Sketch", name := "fillArcs", desc := "(LCutPoints$Graph;J)V" } : Jvm.MethodName) ∈ TT := TT_at 257 (by decide +kernel) rfl
theorem wcode_SK_fillArcs : Jvm.Cond.code ({ cls := "CutPoints$Sketch", name := "fillArcs", desc := "(LCutPoints$Graph;J)V" } : Jvm.MethodName) prog_6_method_4_code (5 : Nat) (Option.none : Option Jvm.ClassFile.FieldType) ∈ TT := TT_at 258 (by decide +kernel) rfl
theorem wml_SK_78 : Jvm.Cond.methodLink "CutPoints$Sketch" (78 : Nat) ({ cls := "java/util/Arrays", name := "fill", desc := "([JJ)V" } : Jvm.MethodName) ∈ TT := TT_at 259 (by decide +kernel) rfl
theorem wst_JA_fill_JJV : Jvm.Cond.static ({ cls := "java/util/Arrays", name := "fill", desc := "([JJ)V" } : Jvm.MethodName) ∈ TT := TT_at 260 (by decide +kernel) rfl
theorem wcode_JA_fill_JJV : Jvm.Cond.code ({ cls := "java/util/Arrays", name := "fill", desc := "([JJ)V" } : Jvm.MethodName) prog_14_method_101_code (5 : Nat) (Option.none : Option Jvm.ClassFile.FieldType) ∈ TT := TT_at 261 (by decide +kernel) rfl
theorem wml_SK_49 : Jvm.Cond.methodLink "CutPoints$Sketch" (49 : Nat) ({ cls := "CutPoints$Sketch", name := "findBlocks", desc := "()V" } : Jvm.MethodName) ∈ TT := TT_at 262 (by decide +kernel) rfl
theorem wim_SK_findBlocks : Jvm.Cond.instanceMethod ({ cls := "CutPoints$Sketch", name := "findBlocks", desc := "()V" } : Jvm.MethodName) ∈ TT := TT_at 264 (by decide +kernel) rfl
theorem wcode_SK_findBlocks : Jvm.Cond.code ({ cls := "CutPoints$Sketch", name := "findBlocks", desc := "()V" } : Jvm.MethodName) prog_6_method_5_code (5 : Nat) (Option.none : Option Jvm.ClassFile.FieldType) ∈ TT := TT_at 265 (by decide +kernel) rfl
theorem wml_SK_81 : Jvm.Cond.methodLink "CutPoints$Sketch" (81 : Nat) ({ cls := "CutPoints$Groups", name := "forget", desc := "()V" } : Jvm.MethodName) ∈ TT := TT_at 266 (by decide +kernel) rfl
theorem wim_GP_forget : Jvm.Cond.instanceMethod ({ cls := "CutPoints$Groups", name := "forget", desc := "()V" } : Jvm.MethodName) ∈ TT := TT_at 267 (by decide +kernel) rfl
theorem wsel_GP_forget : Jvm.Cond.selects "CutPoints$Groups" ({ cls := "CutPoints$Groups", name := "forget", desc := "()V" } : Jvm.MethodName) ({ cls := "CutPoints$Groups", name := "forget", desc := "()V" } : Jvm.MethodName) ∈ TT := TT_at 268 (by decide +kernel) rfl
theorem wcode_GP_forget : Jvm.Cond.code ({ cls := "CutPoints$Groups", name := "forget", desc := "()V" } : Jvm.MethodName) prog_5_method_2_code (1 : Nat) (Option.none : Option Jvm.ClassFile.FieldType) ∈ TT := TT_at 269 (by decide +kernel) rfl
theorem wst_CP_spread : Jvm.Cond.static ({ cls := "CutPoints", name := "spread", desc := "([III)I" } : Jvm.MethodName) ∈ TT := TT_at 271 (by decide +kernel) rfl
theorem wcode_CP_spread : Jvm.Cond.code ({ cls := "CutPoints", name := "spread", desc := "([III)I" } : Jvm.MethodName) prog_1_method_24_code (7 : Nat) (Option.some Jvm.ClassFile.FieldType.int) ∈ TT := TT_at 272 (by decide +kernel) rfl
theorem wml_CP_124 : Jvm.Cond.methodLink "CutPoints" (124 : Nat) ({ cls := "CutPoints", name := "hasBit", desc := "(JI)Z" } : Jvm.MethodName) ∈ TT := TT_at 273 (by decide +kernel) rfl
theorem wml_SK_88 : Jvm.Cond.methodLink "CutPoints$Sketch" (88 : Nat) ({ cls := "CutPoints$Sketch", name := "arcsAt", desc := "(I)J" } : Jvm.MethodName) ∈ TT := TT_at 274 (by decide +kernel) rfl
theorem wim_SK_arcsAt : Jvm.Cond.instanceMethod ({ cls := "CutPoints$Sketch", name := "arcsAt", desc := "(I)J" } : Jvm.MethodName) ∈ TT := TT_at 275 (by decide +kernel) rfl
theorem wsel_SK_arcsAt : Jvm.Cond.selects "CutPoints$Sketch" ({ cls := "CutPoints$Sketch", name := "arcsAt", desc := "(I)J" } : Jvm.MethodName) ({ cls := "CutPoints$Sketch", name := "arcsAt", desc := "(I)J" } : Jvm.MethodName) ∈ TT := TT_at 276 (by decide +kernel) rfl
theorem wcode_SK_arcsAt : Jvm.Cond.code ({ cls := "CutPoints$Sketch", name := "arcsAt", desc := "(I)J" } : Jvm.MethodName) prog_6_method_7_code (5 : Nat) (Option.some Jvm.ClassFile.FieldType.long) ∈ TT := TT_at 277 (by decide +kernel) rfl
theorem wml_SK_92 : Jvm.Cond.methodLink "CutPoints$Sketch" (92 : Nat) ({ cls := "CutPoints$Groups", name := "join", desc := "(J)V" } : Jvm.MethodName) ∈ TT := TT_at 278 (by decide +kernel) rfl
theorem wim_GP_join : Jvm.Cond.instanceMethod ({ cls := "CutPoints$Groups", name := "join", desc := "(J)V" } : Jvm.MethodName) ∈ TT := TT_at 279 (by decide +kernel) rfl
theorem wsel_GP_join : Jvm.Cond.selects "CutPoints$Groups" ({ cls := "CutPoints$Groups", name := "join", desc := "(J)V" } : Jvm.MethodName) ({ cls := "CutPoints$Groups", name := "join", desc := "(J)V" } : Jvm.MethodName) ∈ TT := TT_at 280 (by decide +kernel) rfl
theorem wcode_GP_join : Jvm.Cond.code ({ cls := "CutPoints$Groups", name := "join", desc := "(J)V" } : Jvm.MethodName) prog_5_method_3_code (7 : Nat) (Option.none : Option Jvm.ClassFile.FieldType) ∈ TT := TT_at 281 (by decide +kernel) rfl
theorem wml_SK_52 : Jvm.Cond.methodLink "CutPoints$Sketch" (52 : Nat) ({ cls := "CutPoints$Sketch", name := "loneArcs", desc := "()J" } : Jvm.MethodName) ∈ TT := TT_at 282 (by decide +kernel) rfl
theorem wim_SK_loneArcs : Jvm.Cond.instanceMethod ({ cls := "CutPoints$Sketch", name := "loneArcs", desc := "()J" } : Jvm.MethodName) ∈ TT := TT_at 284 (by decide +kernel) rfl
theorem wcode_SK_loneArcs : Jvm.Cond.code ({ cls := "CutPoints$Sketch", name := "loneArcs", desc := "()J" } : Jvm.MethodName) prog_6_method_6_code (4 : Nat) (Option.some Jvm.ClassFile.FieldType.long) ∈ TT := TT_at 285 (by decide +kernel) rfl
theorem wml_SK_102 : Jvm.Cond.methodLink "CutPoints$Sketch" (102 : Nat) ({ cls := "java/lang/Long", name := "bitCount", desc := "(J)I" } : Jvm.MethodName) ∈ TT := TT_at 286 (by decide +kernel) rfl
theorem wst_JL_bitCount : Jvm.Cond.static ({ cls := "java/lang/Long", name := "bitCount", desc := "(J)I" } : Jvm.MethodName) ∈ TT := TT_at 287 (by decide +kernel) rfl
theorem wcode_JL_bitCount : Jvm.Cond.code ({ cls := "java/lang/Long", name := "bitCount", desc := "(J)I" } : Jvm.MethodName) prog_11_method_50_code (2 : Nat) (Option.some Jvm.ClassFile.FieldType.int) ∈ TT := TT_at 288 (by decide +kernel) rfl
theorem wkl_JL_314 : Jvm.Cond.constantLong "java/lang/Long" (314 : Nat) (6148914691236517205 : Int64) ∈ TT := TT_at 289 (by decide +kernel) rfl
theorem wkl_JL_316 : Jvm.Cond.constantLong "java/lang/Long" (316 : Nat) (3689348814741910323 : Int64) ∈ TT := TT_at 290 (by decide +kernel) rfl
theorem wkl_JL_318 : Jvm.Cond.constantLong "java/lang/Long" (318 : Nat) (1085102592571150095 : Int64) ∈ TT := TT_at 291 (by decide +kernel) rfl
theorem wkl_SK_60 : Jvm.Cond.constantLong "CutPoints$Sketch" (60 : Nat) (-1 : Int64) ∈ TT := TT_at 292 (by decide +kernel) rfl
theorem wml_LW_17 : Jvm.Cond.methodLink "CutPointsLaw" (17 : Nat) ({ cls := "CutPoints", name := "node", desc := "()I" } : Jvm.MethodName) ∈ TT := TT_at 293 (by decide +kernel) rfl
theorem wim_CP_node : Jvm.Cond.instanceMethod ({ cls := "CutPoints", name := "node", desc := "()I" } : Jvm.MethodName) ∈ TT := TT_at 294 (by decide +kernel) rfl
theorem wsel_CP_node : Jvm.Cond.selects "CutPoints" ({ cls := "CutPoints", name := "node", desc := "()I" } : Jvm.MethodName) ({ cls := "CutPoints", name := "node", desc := "()I" } : Jvm.MethodName) ∈ TT := TT_at 295 (by decide +kernel) rfl
theorem wcode_CP_node : Jvm.Cond.code ({ cls := "CutPoints", name := "node", desc := "()I" } : Jvm.MethodName) prog_1_method_3_code (2 : Nat) (Option.some Jvm.ClassFile.FieldType.int) ∈ TT := TT_at 296 (by decide +kernel) rfl
theorem wml_LW_22 : Jvm.Cond.methodLink "CutPointsLaw" (22 : Nat) ({ cls := "CutPoints", name := "arc", desc := "(II)I" } : Jvm.MethodName) ∈ TT := TT_at 297 (by decide +kernel) rfl
theorem wim_CP_arc : Jvm.Cond.instanceMethod ({ cls := "CutPoints", name := "arc", desc := "(II)I" } : Jvm.MethodName) ∈ TT := TT_at 298 (by decide +kernel) rfl
theorem wsel_CP_arc : Jvm.Cond.selects "CutPoints" ({ cls := "CutPoints", name := "arc", desc := "(II)I" } : Jvm.MethodName) ({ cls := "CutPoints", name := "arc", desc := "(II)I" } : Jvm.MethodName) ∈ TT := TT_at 299 (by decide +kernel) rfl
theorem wcode_CP_arc : Jvm.Cond.code ({ cls := "CutPoints", name := "arc", desc := "(II)I" } : Jvm.MethodName) prog_1_method_4_code (5 : Nat) (Option.some Jvm.ClassFile.FieldType.int) ∈ TT := TT_at 300 (by decide +kernel) rfl
theorem wml_CP_61 : Jvm.Cond.methodLink "CutPoints" (61 : Nat) ({ cls := "CutPoints", name := "pairCode", desc := "(II)I" } : Jvm.MethodName) ∈ TT := TT_at 301 (by decide +kernel) rfl
theorem wim_CP_pairCode : Jvm.Cond.instanceMethod ({ cls := "CutPoints", name := "pairCode", desc := "(II)I" } : Jvm.MethodName) ∈ TT := TT_at 303 (by decide +kernel) rfl
theorem wcode_CP_pairCode : Jvm.Cond.code ({ cls := "CutPoints", name := "pairCode", desc := "(II)I" } : Jvm.MethodName) prog_1_method_22_code (3 : Nat) (Option.some Jvm.ClassFile.FieldType.int) ∈ TT := TT_at 304 (by decide +kernel) rfl
theorem wml_CP_115 : Jvm.Cond.methodLink "CutPoints" (115 : Nat) ({ cls := "CutPoints$Graph", name := "hasNode", desc := "(I)Z" } : Jvm.MethodName) ∈ TT := TT_at 305 (by decide +kernel) rfl
theorem wim_GR_hasNode : Jvm.Cond.instanceMethod ({ cls := "CutPoints$Graph", name := "hasNode", desc := "(I)Z" } : Jvm.MethodName) ∈ TT := TT_at 306 (by decide +kernel) rfl
theorem wsel_GR_hasNode : Jvm.Cond.selects "CutPoints$Graph" ({ cls := "CutPoints$Graph", name := "hasNode", desc := "(I)Z" } : Jvm.MethodName) ({ cls := "CutPoints$Graph", name := "hasNode", desc := "(I)Z" } : Jvm.MethodName) ∈ TT := TT_at 307 (by decide +kernel) rfl
theorem wcode_GR_hasNode : Jvm.Cond.code ({ cls := "CutPoints$Graph", name := "hasNode", desc := "(I)Z" } : Jvm.MethodName) prog_4_method_2_code (2 : Nat) (Option.some Jvm.ClassFile.FieldType.boolean) ∈ TT := TT_at 308 (by decide +kernel) rfl
theorem wml_CP_65 : Jvm.Cond.methodLink "CutPoints" (65 : Nat) ({ cls := "CutPoints$Graph", name := "lay", desc := "(III)V" } : Jvm.MethodName) ∈ TT := TT_at 309 (by decide +kernel) rfl
theorem wim_GR_lay : Jvm.Cond.instanceMethod ({ cls := "CutPoints$Graph", name := "lay", desc := "(III)V" } : Jvm.MethodName) ∈ TT := TT_at 310 (by decide +kernel) rfl
theorem wsel_GR_lay : Jvm.Cond.selects "CutPoints$Graph" ({ cls := "CutPoints$Graph", name := "lay", desc := "(III)V" } : Jvm.MethodName) ({ cls := "CutPoints$Graph", name := "lay", desc := "(III)V" } : Jvm.MethodName) ∈ TT := TT_at 311 (by decide +kernel) rfl
theorem wcode_GR_lay : Jvm.Cond.code ({ cls := "CutPoints$Graph", name := "lay", desc := "(III)V" } : Jvm.MethodName) prog_4_method_5_code (4 : Nat) (Option.none : Option Jvm.ClassFile.FieldType) ∈ TT := TT_at 312 (by decide +kernel) rfl
theorem wml_LW_27 : Jvm.Cond.methodLink "CutPointsLaw" (27 : Nat) ({ cls := "CutPoints", name := "turn", desc := "(I)I" } : Jvm.MethodName) ∈ TT := TT_at 313 (by decide +kernel) rfl
theorem wim_CP_turn : Jvm.Cond.instanceMethod ({ cls := "CutPoints", name := "turn", desc := "(I)I" } : Jvm.MethodName) ∈ TT := TT_at 314 (by decide +kernel) rfl
theorem wsel_CP_turn : Jvm.Cond.selects "CutPoints" ({ cls := "CutPoints", name := "turn", desc := "(I)I" } : Jvm.MethodName) ({ cls := "CutPoints", name := "turn", desc := "(I)I" } : Jvm.MethodName) ∈ TT := TT_at 315 (by decide +kernel) rfl
theorem wcode_CP_turn : Jvm.Cond.code ({ cls := "CutPoints", name := "turn", desc := "(I)I" } : Jvm.MethodName) prog_1_method_5_code (2 : Nat) (Option.some Jvm.ClassFile.FieldType.int) ∈ TT := TT_at 316 (by decide +kernel) rfl
theorem wml_CP_69 : Jvm.Cond.methodLink "CutPoints" (69 : Nat) ({ cls := "CutPoints$Graph", name := "hasArc", desc := "(I)Z" } : Jvm.MethodName) ∈ TT := TT_at 317 (by decide +kernel) rfl
theorem wim_GR_hasArc : Jvm.Cond.instanceMethod ({ cls := "CutPoints$Graph", name := "hasArc", desc := "(I)Z" } : Jvm.MethodName) ∈ TT := TT_at 318 (by decide +kernel) rfl
theorem wsel_GR_hasArc : Jvm.Cond.selects "CutPoints$Graph" ({ cls := "CutPoints$Graph", name := "hasArc", desc := "(I)Z" } : Jvm.MethodName) ({ cls := "CutPoints$Graph", name := "hasArc", desc := "(I)Z" } : Jvm.MethodName) ∈ TT := TT_at 319 (by decide +kernel) rfl
theorem wcode_GR_hasArc : Jvm.Cond.code ({ cls := "CutPoints$Graph", name := "hasArc", desc := "(I)Z" } : Jvm.MethodName) prog_4_method_3_code (2 : Nat) (Option.some Jvm.ClassFile.FieldType.boolean) ∈ TT := TT_at 320 (by decide +kernel) rfl
theorem wml_CP_73 : Jvm.Cond.methodLink "CutPoints" (73 : Nat) ({ cls := "CutPoints$Graph", name := "isThere", desc := "(I)Z" } : Jvm.MethodName) ∈ TT := TT_at 321 (by decide +kernel) rfl
theorem wim_GR_isThere : Jvm.Cond.instanceMethod ({ cls := "CutPoints$Graph", name := "isThere", desc := "(I)Z" } : Jvm.MethodName) ∈ TT := TT_at 322 (by decide +kernel) rfl
theorem wsel_GR_isThere : Jvm.Cond.selects "CutPoints$Graph" ({ cls := "CutPoints$Graph", name := "isThere", desc := "(I)Z" } : Jvm.MethodName) ({ cls := "CutPoints$Graph", name := "isThere", desc := "(I)Z" } : Jvm.MethodName) ∈ TT := TT_at 323 (by decide +kernel) rfl
theorem wcode_GR_isThere : Jvm.Cond.code ({ cls := "CutPoints$Graph", name := "isThere", desc := "(I)Z" } : Jvm.MethodName) prog_4_method_4_code (2 : Nat) (Option.some Jvm.ClassFile.FieldType.boolean) ∈ TT := TT_at 324 (by decide +kernel) rfl
theorem wml_GR_25 : Jvm.Cond.methodLink "CutPoints$Graph" (25 : Nat) ({ cls := "CutPoints$Graph", name := "hasArc", desc := "(I)Z" } : Jvm.MethodName) ∈ TT := TT_at 325 (by decide +kernel) rfl
theorem wml_LW_32 : Jvm.Cond.methodLink "CutPointsLaw" (32 : Nat) ({ cls := "CutPoints", name := "count", desc := "(I)I" } : Jvm.MethodName) ∈ TT := TT_at 327 (by decide +kernel) rfl
theorem wim_CP_count : Jvm.Cond.instanceMethod ({ cls := "CutPoints", name := "count", desc := "(I)I" } : Jvm.MethodName) ∈ TT := TT_at 328 (by decide +kernel) rfl
theorem wsel_CP_count : Jvm.Cond.selects "CutPoints" ({ cls := "CutPoints", name := "count", desc := "(I)I" } : Jvm.MethodName) ({ cls := "CutPoints", name := "count", desc := "(I)I" } : Jvm.MethodName) ∈ TT := TT_at 329 (by decide +kernel) rfl
theorem wcode_CP_count : Jvm.Cond.code ({ cls := "CutPoints", name := "count", desc := "(I)I" } : Jvm.MethodName) prog_1_method_6_code (2 : Nat) (Option.some Jvm.ClassFile.FieldType.int) ∈ TT := TT_at 330 (by decide +kernel) rfl
theorem wml_CP_76 : Jvm.Cond.methodLink "CutPoints" (76 : Nat) ({ cls := "java/lang/Long", name := "bitCount", desc := "(J)I" } : Jvm.MethodName) ∈ TT := TT_at 331 (by decide +kernel) rfl
theorem wml_CP_82 : Jvm.Cond.methodLink "CutPoints" (82 : Nat) ({ cls := "CutPoints$Sketch", name := "countParts", desc := "()I" } : Jvm.MethodName) ∈ TT := TT_at 332 (by decide +kernel) rfl
theorem wim_SK_countParts : Jvm.Cond.instanceMethod ({ cls := "CutPoints$Sketch", name := "countParts", desc := "()I" } : Jvm.MethodName) ∈ TT := TT_at 333 (by decide +kernel) rfl
theorem wsel_SK_countParts : Jvm.Cond.selects "CutPoints$Sketch" ({ cls := "CutPoints$Sketch", name := "countParts", desc := "()I" } : Jvm.MethodName) ({ cls := "CutPoints$Sketch", name := "countParts", desc := "()I" } : Jvm.MethodName) ∈ TT := TT_at 334 (by decide +kernel) rfl
theorem wcode_SK_countParts : Jvm.Cond.code ({ cls := "CutPoints$Sketch", name := "countParts", desc := "()I" } : Jvm.MethodName) prog_6_method_10_code (1 : Nat) (Option.some Jvm.ClassFile.FieldType.int) ∈ TT := TT_at 335 (by decide +kernel) rfl
theorem wst_CP_countPieces : Jvm.Cond.static ({ cls := "CutPoints", name := "countPieces", desc := "([II)I" } : Jvm.MethodName) ∈ TT := TT_at 337 (by decide +kernel) rfl
theorem wcode_CP_countPieces : Jvm.Cond.code ({ cls := "CutPoints", name := "countPieces", desc := "([II)I" } : Jvm.MethodName) prog_1_method_25_code (5 : Nat) (Option.some Jvm.ClassFile.FieldType.int) ∈ TT := TT_at 338 (by decide +kernel) rfl
theorem wml_CP_190 : Jvm.Cond.methodLink "CutPoints" (190 : Nat) ({ cls := "CutPoints", name := "spread", desc := "([III)I" } : Jvm.MethodName) ∈ TT := TT_at 339 (by decide +kernel) rfl
theorem wml_CP_89 : Jvm.Cond.methodLink "CutPoints" (89 : Nat) ({ cls := "CutPoints$Sketch", name := "countCutNodes", desc := "()I" } : Jvm.MethodName) ∈ TT := TT_at 340 (by decide +kernel) rfl
theorem wim_SK_countCutNodes : Jvm.Cond.instanceMethod ({ cls := "CutPoints$Sketch", name := "countCutNodes", desc := "()I" } : Jvm.MethodName) ∈ TT := TT_at 341 (by decide +kernel) rfl
theorem wsel_SK_countCutNodes : Jvm.Cond.selects "CutPoints$Sketch" ({ cls := "CutPoints$Sketch", name := "countCutNodes", desc := "()I" } : Jvm.MethodName) ({ cls := "CutPoints$Sketch", name := "countCutNodes", desc := "()I" } : Jvm.MethodName) ∈ TT := TT_at 342 (by decide +kernel) rfl
theorem wcode_SK_countCutNodes : Jvm.Cond.code ({ cls := "CutPoints$Sketch", name := "countCutNodes", desc := "()I" } : Jvm.MethodName) prog_6_method_13_code (3 : Nat) (Option.some Jvm.ClassFile.FieldType.int) ∈ TT := TT_at 343 (by decide +kernel) rfl
theorem wml_SK_116 : Jvm.Cond.methodLink "CutPoints$Sketch" (116 : Nat) ({ cls := "CutPoints$Sketch", name := "countFalls", desc := "(I)I" } : Jvm.MethodName) ∈ TT := TT_at 344 (by decide +kernel) rfl
theorem wim_SK_countFalls : Jvm.Cond.instanceMethod ({ cls := "CutPoints$Sketch", name := "countFalls", desc := "(I)I" } : Jvm.MethodName) ∈ TT := TT_at 345 (by decide +kernel) rfl
theorem wsel_SK_countFalls : Jvm.Cond.selects "CutPoints$Sketch" ({ cls := "CutPoints$Sketch", name := "countFalls", desc := "(I)I" } : Jvm.MethodName) ({ cls := "CutPoints$Sketch", name := "countFalls", desc := "(I)I" } : Jvm.MethodName) ∈ TT := TT_at 346 (by decide +kernel) rfl
theorem wcode_SK_countFalls : Jvm.Cond.code ({ cls := "CutPoints$Sketch", name := "countFalls", desc := "(I)I" } : Jvm.MethodName) prog_6_method_12_code (2 : Nat) (Option.some Jvm.ClassFile.FieldType.int) ∈ TT := TT_at 347 (by decide +kernel) rfl
theorem wml_SK_112 : Jvm.Cond.methodLink "CutPoints$Sketch" (112 : Nat) ({ cls := "CutPoints$Sketch", name := "partOf", desc := "(I)I" } : Jvm.MethodName) ∈ TT := TT_at 348 (by decide +kernel) rfl
theorem wim_SK_partOf : Jvm.Cond.instanceMethod ({ cls := "CutPoints$Sketch", name := "partOf", desc := "(I)I" } : Jvm.MethodName) ∈ TT := TT_at 349 (by decide +kernel) rfl
theorem wsel_SK_partOf : Jvm.Cond.selects "CutPoints$Sketch" ({ cls := "CutPoints$Sketch", name := "partOf", desc := "(I)I" } : Jvm.MethodName) ({ cls := "CutPoints$Sketch", name := "partOf", desc := "(I)I" } : Jvm.MethodName) ∈ TT := TT_at 350 (by decide +kernel) rfl
theorem wcode_SK_partOf : Jvm.Cond.code ({ cls := "CutPoints$Sketch", name := "partOf", desc := "(I)I" } : Jvm.MethodName) prog_6_method_8_code (2 : Nat) (Option.some Jvm.ClassFile.FieldType.int) ∈ TT := TT_at 351 (by decide +kernel) rfl
theorem wml_CP_101 : Jvm.Cond.methodLink "CutPoints" (101 : Nat) ({ cls := "CutPoints$Sketch", name := "countTwins", desc := "()I" } : Jvm.MethodName) ∈ TT := TT_at 352 (by decide +kernel) rfl
theorem wim_SK_countTwins : Jvm.Cond.instanceMethod ({ cls := "CutPoints$Sketch", name := "countTwins", desc := "()I" } : Jvm.MethodName) ∈ TT := TT_at 353 (by decide +kernel) rfl
theorem wsel_SK_countTwins : Jvm.Cond.selects "CutPoints$Sketch" ({ cls := "CutPoints$Sketch", name := "countTwins", desc := "()I" } : Jvm.MethodName) ({ cls := "CutPoints$Sketch", name := "countTwins", desc := "()I" } : Jvm.MethodName) ∈ TT := TT_at 354 (by decide +kernel) rfl
theorem wcode_SK_countTwins : Jvm.Cond.code ({ cls := "CutPoints$Sketch", name := "countTwins", desc := "()I" } : Jvm.MethodName) prog_6_method_11_code (1 : Nat) (Option.some Jvm.ClassFile.FieldType.int) ∈ TT := TT_at 355 (by decide +kernel) rfl
theorem wml_CP_104 : Jvm.Cond.methodLink "CutPoints" (104 : Nat) ({ cls := "CutPoints$Sketch", name := "countNeeded", desc := "()I" } : Jvm.MethodName) ∈ TT := TT_at 356 (by decide +kernel) rfl
theorem wim_SK_countNeeded : Jvm.Cond.instanceMethod ({ cls := "CutPoints$Sketch", name := "countNeeded", desc := "()I" } : Jvm.MethodName) ∈ TT := TT_at 357 (by decide +kernel) rfl
theorem wsel_SK_countNeeded : Jvm.Cond.selects "CutPoints$Sketch" ({ cls := "CutPoints$Sketch", name := "countNeeded", desc := "()I" } : Jvm.MethodName) ({ cls := "CutPoints$Sketch", name := "countNeeded", desc := "()I" } : Jvm.MethodName) ∈ TT := TT_at 358 (by decide +kernel) rfl
theorem wcode_SK_countNeeded : Jvm.Cond.code ({ cls := "CutPoints$Sketch", name := "countNeeded", desc := "()I" } : Jvm.MethodName) prog_6_method_15_code (6 : Nat) (Option.some Jvm.ClassFile.FieldType.int) ∈ TT := TT_at 359 (by decide +kernel) rfl
theorem wml_SK_119 : Jvm.Cond.methodLink "CutPoints$Sketch" (119 : Nat) ({ cls := "CutPoints$Sketch", name := "twinsOf", desc := "(I)I" } : Jvm.MethodName) ∈ TT := TT_at 360 (by decide +kernel) rfl
theorem wim_SK_twinsOf : Jvm.Cond.instanceMethod ({ cls := "CutPoints$Sketch", name := "twinsOf", desc := "(I)I" } : Jvm.MethodName) ∈ TT := TT_at 361 (by decide +kernel) rfl
theorem wsel_SK_twinsOf : Jvm.Cond.selects "CutPoints$Sketch" ({ cls := "CutPoints$Sketch", name := "twinsOf", desc := "(I)I" } : Jvm.MethodName) ({ cls := "CutPoints$Sketch", name := "twinsOf", desc := "(I)I" } : Jvm.MethodName) ∈ TT := TT_at 362 (by decide +kernel) rfl
theorem wcode_SK_twinsOf : Jvm.Cond.code ({ cls := "CutPoints$Sketch", name := "twinsOf", desc := "(I)I" } : Jvm.MethodName) prog_6_method_9_code (2 : Nat) (Option.some Jvm.ClassFile.FieldType.int) ∈ TT := TT_at 363 (by decide +kernel) rfl
theorem wml_SK_122 : Jvm.Cond.methodLink "CutPoints$Sketch" (122 : Nat) ({ cls := "java/lang/Math", name := "max", desc := "(II)I" } : Jvm.MethodName) ∈ TT := TT_at 364 (by decide +kernel) rfl
theorem wst_JM_max : Jvm.Cond.static ({ cls := "java/lang/Math", name := "max", desc := "(II)I" } : Jvm.MethodName) ∈ TT := TT_at 365 (by decide +kernel) rfl
theorem wcode_JM_max : Jvm.Cond.code ({ cls := "java/lang/Math", name := "max", desc := "(II)I" } : Jvm.MethodName) prog_12_method_65_code (2 : Nat) (Option.some Jvm.ClassFile.FieldType.int) ∈ TT := TT_at 366 (by decide +kernel) rfl
theorem wml_CP_107 : Jvm.Cond.methodLink "CutPoints" (107 : Nat) ({ cls := "CutPoints$Sketch", name := "wear", desc := "()I" } : Jvm.MethodName) ∈ TT := TT_at 367 (by decide +kernel) rfl
theorem wim_SK_wear : Jvm.Cond.instanceMethod ({ cls := "CutPoints$Sketch", name := "wear", desc := "()I" } : Jvm.MethodName) ∈ TT := TT_at 368 (by decide +kernel) rfl
theorem wsel_SK_wear : Jvm.Cond.selects "CutPoints$Sketch" ({ cls := "CutPoints$Sketch", name := "wear", desc := "()I" } : Jvm.MethodName) ({ cls := "CutPoints$Sketch", name := "wear", desc := "()I" } : Jvm.MethodName) ∈ TT := TT_at 369 (by decide +kernel) rfl
theorem wcode_SK_wear : Jvm.Cond.code ({ cls := "CutPoints$Sketch", name := "wear", desc := "()I" } : Jvm.MethodName) prog_6_method_16_code (4 : Nat) (Option.some Jvm.ClassFile.FieldType.int) ∈ TT := TT_at 370 (by decide +kernel) rfl
theorem wml_SK_128 : Jvm.Cond.methodLink "CutPoints$Sketch" (128 : Nat) ({ cls := "java/lang/System", name := "arraycopy", desc := "(Ljava/lang/Object;ILjava/lang/Object;II)V" } : Jvm.MethodName) ∈ TT := TT_at 371 (by decide +kernel) rfl
theorem wst_JS_arraycopy : Jvm.Cond.static ({ cls := "java/lang/System", name := "arraycopy", desc := "(Ljava/lang/Object;ILjava/lang/Object;II)V" } : Jvm.MethodName) ∈ TT := TT_at 372 (by decide +kernel) rfl
theorem wnat_JS_arraycopy : Jvm.Cond.native ({ cls := "java/lang/System", name := "arraycopy", desc := "(Ljava/lang/Object;ILjava/lang/Object;II)V" } : Jvm.MethodName) ∈ TT := TT_at 373 (by decide +kernel) rfl
theorem wml_SK_134 : Jvm.Cond.methodLink "CutPoints$Sketch" (134 : Nat) ({ cls := "CutPoints$Sketch", name := "thinNode", desc := "(I)I" } : Jvm.MethodName) ∈ TT := TT_at 374 (by decide +kernel) rfl
theorem wim_SK_thinNode : Jvm.Cond.instanceMethod ({ cls := "CutPoints$Sketch", name := "thinNode", desc := "(I)I" } : Jvm.MethodName) ∈ TT := TT_at 376 (by decide +kernel) rfl
theorem wcode_SK_thinNode : Jvm.Cond.code ({ cls := "CutPoints$Sketch", name := "thinNode", desc := "(I)I" } : Jvm.MethodName) prog_6_method_17_code (3 : Nat) (Option.some Jvm.ClassFile.FieldType.int) ∈ TT := TT_at 377 (by decide +kernel) rfl
theorem wml_SK_141 : Jvm.Cond.methodLink "CutPoints$Sketch" (141 : Nat) ({ cls := "java/lang/Integer", name := "bitCount", desc := "(I)I" } : Jvm.MethodName) ∈ TT := TT_at 378 (by decide +kernel) rfl
theorem wst_JI_bitCount : Jvm.Cond.static ({ cls := "java/lang/Integer", name := "bitCount", desc := "(I)I" } : Jvm.MethodName) ∈ TT := TT_at 379 (by decide +kernel) rfl
theorem wcode_JI_bitCount : Jvm.Cond.code ({ cls := "java/lang/Integer", name := "bitCount", desc := "(I)I" } : Jvm.MethodName) prog_10_method_49_code (1 : Nat) (Option.some Jvm.ClassFile.FieldType.int) ∈ TT := TT_at 380 (by decide +kernel) rfl
theorem wk_JI_265 : Jvm.Cond.constant "java/lang/Integer" (265 : Nat) (1431655765 : Int32) ∈ TT := TT_at 381 (by decide +kernel) rfl
theorem wk_JI_266 : Jvm.Cond.constant "java/lang/Integer" (266 : Nat) (858993459 : Int32) ∈ TT := TT_at 382 (by decide +kernel) rfl
theorem wk_JI_267 : Jvm.Cond.constant "java/lang/Integer" (267 : Nat) (252645135 : Int32) ∈ TT := TT_at 383 (by decide +kernel) rfl
theorem wml_SK_137 : Jvm.Cond.methodLink "CutPoints$Sketch" (137 : Nat) ({ cls := "CutPoints$Sketch", name := "linkAll", desc := "(I)V" } : Jvm.MethodName) ∈ TT := TT_at 384 (by decide +kernel) rfl
theorem wim_SK_linkAll : Jvm.Cond.instanceMethod ({ cls := "CutPoints$Sketch", name := "linkAll", desc := "(I)V" } : Jvm.MethodName) ∈ TT := TT_at 386 (by decide +kernel) rfl
theorem wcode_SK_linkAll : Jvm.Cond.code ({ cls := "CutPoints$Sketch", name := "linkAll", desc := "(I)V" } : Jvm.MethodName) prog_6_method_18_code (3 : Nat) (Option.none : Option Jvm.ClassFile.FieldType) ∈ TT := TT_at 387 (by decide +kernel) rfl
theorem wml_CP_110 : Jvm.Cond.methodLink "CutPoints" (110 : Nat) ({ cls := "java/lang/Integer", name := "bitCount", desc := "(I)I" } : Jvm.MethodName) ∈ TT := TT_at 388 (by decide +kernel) rfl
theorem wml_LW_36 : Jvm.Cond.methodLink "CutPointsLaw" (36 : Nat) ({ cls := "CutPoints", name := "part", desc := "(I)I" } : Jvm.MethodName) ∈ TT := TT_at 389 (by decide +kernel) rfl
theorem wim_CP_part : Jvm.Cond.instanceMethod ({ cls := "CutPoints", name := "part", desc := "(I)I" } : Jvm.MethodName) ∈ TT := TT_at 390 (by decide +kernel) rfl
theorem wsel_CP_part : Jvm.Cond.selects "CutPoints" ({ cls := "CutPoints", name := "part", desc := "(I)I" } : Jvm.MethodName) ({ cls := "CutPoints", name := "part", desc := "(I)I" } : Jvm.MethodName) ∈ TT := TT_at 391 (by decide +kernel) rfl
theorem wcode_CP_part : Jvm.Cond.code ({ cls := "CutPoints", name := "part", desc := "(I)I" } : Jvm.MethodName) prog_1_method_7_code (2 : Nat) (Option.some Jvm.ClassFile.FieldType.int) ∈ TT := TT_at 392 (by decide +kernel) rfl
theorem wml_CP_118 : Jvm.Cond.methodLink "CutPoints" (118 : Nat) ({ cls := "CutPoints$Sketch", name := "partOf", desc := "(I)I" } : Jvm.MethodName) ∈ TT := TT_at 393 (by decide +kernel) rfl
theorem wml_CP_121 : Jvm.Cond.methodLink "CutPoints" (121 : Nat) ({ cls := "java/lang/Integer", name := "numberOfTrailingZeros", desc := "(I)I" } : Jvm.MethodName) ∈ TT := TT_at 394 (by decide +kernel) rfl
theorem wst_JI_numberOfTrailingZeros : Jvm.Cond.static ({ cls := "java/lang/Integer", name := "numberOfTrailingZeros", desc := "(I)I" } : Jvm.MethodName) ∈ TT := TT_at 395 (by decide +kernel) rfl
theorem wcode_JI_numberOfTrailingZeros : Jvm.Cond.code ({ cls := "java/lang/Integer", name := "numberOfTrailingZeros", desc := "(I)I" } : Jvm.MethodName) prog_10_method_48_code (2 : Nat) (Option.some Jvm.ClassFile.FieldType.int) ∈ TT := TT_at 396 (by decide +kernel) rfl
theorem wk_JI_264 : Jvm.Cond.constant "java/lang/Integer" (264 : Nat) (65536 : Int32) ∈ TT := TT_at 397 (by decide +kernel) rfl
theorem wml_LW_40 : Jvm.Cond.methodLink "CutPointsLaw" (40 : Nat) ({ cls := "CutPoints", name := "bridge", desc := "(I)I" } : Jvm.MethodName) ∈ TT := TT_at 398 (by decide +kernel) rfl
theorem wim_CP_bridge : Jvm.Cond.instanceMethod ({ cls := "CutPoints", name := "bridge", desc := "(I)I" } : Jvm.MethodName) ∈ TT := TT_at 399 (by decide +kernel) rfl
theorem wsel_CP_bridge : Jvm.Cond.selects "CutPoints" ({ cls := "CutPoints", name := "bridge", desc := "(I)I" } : Jvm.MethodName) ({ cls := "CutPoints", name := "bridge", desc := "(I)I" } : Jvm.MethodName) ∈ TT := TT_at 400 (by decide +kernel) rfl
theorem wcode_CP_bridge : Jvm.Cond.code ({ cls := "CutPoints", name := "bridge", desc := "(I)I" } : Jvm.MethodName) prog_1_method_8_code (2 : Nat) (Option.some Jvm.ClassFile.FieldType.int) ∈ TT := TT_at 401 (by decide +kernel) rfl
theorem wml_LW_44 : Jvm.Cond.methodLink "CutPointsLaw" (44 : Nat) ({ cls := "CutPoints", name := "falls", desc := "(I)I" } : Jvm.MethodName) ∈ TT := TT_at 402 (by decide +kernel) rfl
theorem wim_CP_falls : Jvm.Cond.instanceMethod ({ cls := "CutPoints", name := "falls", desc := "(I)I" } : Jvm.MethodName) ∈ TT := TT_at 403 (by decide +kernel) rfl
theorem wsel_CP_falls : Jvm.Cond.selects "CutPoints" ({ cls := "CutPoints", name := "falls", desc := "(I)I" } : Jvm.MethodName) ({ cls := "CutPoints", name := "falls", desc := "(I)I" } : Jvm.MethodName) ∈ TT := TT_at 404 (by decide +kernel) rfl
theorem wcode_CP_falls : Jvm.Cond.code ({ cls := "CutPoints", name := "falls", desc := "(I)I" } : Jvm.MethodName) prog_1_method_9_code (2 : Nat) (Option.some Jvm.ClassFile.FieldType.int) ∈ TT := TT_at 405 (by decide +kernel) rfl
theorem wml_CP_128 : Jvm.Cond.methodLink "CutPoints" (128 : Nat) ({ cls := "CutPoints$Sketch", name := "countFalls", desc := "(I)I" } : Jvm.MethodName) ∈ TT := TT_at 406 (by decide +kernel) rfl
theorem wml_LW_48 : Jvm.Cond.methodLink "CutPointsLaw" (48 : Nat) ({ cls := "CutPoints", name := "block", desc := "(I)I" } : Jvm.MethodName) ∈ TT := TT_at 407 (by decide +kernel) rfl
theorem wim_CP_block : Jvm.Cond.instanceMethod ({ cls := "CutPoints", name := "block", desc := "(I)I" } : Jvm.MethodName) ∈ TT := TT_at 408 (by decide +kernel) rfl
theorem wsel_CP_block : Jvm.Cond.selects "CutPoints" ({ cls := "CutPoints", name := "block", desc := "(I)I" } : Jvm.MethodName) ({ cls := "CutPoints", name := "block", desc := "(I)I" } : Jvm.MethodName) ∈ TT := TT_at 409 (by decide +kernel) rfl
theorem wcode_CP_block : Jvm.Cond.code ({ cls := "CutPoints", name := "block", desc := "(I)I" } : Jvm.MethodName) prog_1_method_10_code (2 : Nat) (Option.some Jvm.ClassFile.FieldType.int) ∈ TT := TT_at 410 (by decide +kernel) rfl
theorem wml_CP_131 : Jvm.Cond.methodLink "CutPoints" (131 : Nat) ({ cls := "CutPoints$Groups", name := "holding", desc := "(I)J" } : Jvm.MethodName) ∈ TT := TT_at 411 (by decide +kernel) rfl
theorem wim_GP_holding : Jvm.Cond.instanceMethod ({ cls := "CutPoints$Groups", name := "holding", desc := "(I)J" } : Jvm.MethodName) ∈ TT := TT_at 412 (by decide +kernel) rfl
theorem wsel_GP_holding : Jvm.Cond.selects "CutPoints$Groups" ({ cls := "CutPoints$Groups", name := "holding", desc := "(I)J" } : Jvm.MethodName) ({ cls := "CutPoints$Groups", name := "holding", desc := "(I)J" } : Jvm.MethodName) ∈ TT := TT_at 413 (by decide +kernel) rfl
theorem wcode_GP_holding : Jvm.Cond.code ({ cls := "CutPoints$Groups", name := "holding", desc := "(I)J" } : Jvm.MethodName) prog_5_method_4_code (3 : Nat) (Option.some Jvm.ClassFile.FieldType.long) ∈ TT := TT_at 414 (by decide +kernel) rfl
theorem wml_CP_135 : Jvm.Cond.methodLink "CutPoints" (135 : Nat) ({ cls := "java/lang/Long", name := "numberOfTrailingZeros", desc := "(J)I" } : Jvm.MethodName) ∈ TT := TT_at 416 (by decide +kernel) rfl
theorem wst_JL_numberOfTrailingZeros : Jvm.Cond.static ({ cls := "java/lang/Long", name := "numberOfTrailingZeros", desc := "(J)I" } : Jvm.MethodName) ∈ TT := TT_at 417 (by decide +kernel) rfl
theorem wcode_JL_numberOfTrailingZeros : Jvm.Cond.code ({ cls := "java/lang/Long", name := "numberOfTrailingZeros", desc := "(J)I" } : Jvm.MethodName) prog_11_method_49_code (3 : Nat) (Option.some Jvm.ClassFile.FieldType.int) ∈ TT := TT_at 418 (by decide +kernel) rfl
theorem wml_JL_311 : Jvm.Cond.methodLink "java/lang/Long" (311 : Nat) ({ cls := "java/lang/Integer", name := "numberOfTrailingZeros", desc := "(I)I" } : Jvm.MethodName) ∈ TT := TT_at 419 (by decide +kernel) rfl
theorem wml_LW_52 : Jvm.Cond.methodLink "CutPointsLaw" (52 : Nat) ({ cls := "CutPoints", name := "twin", desc := "(I)I" } : Jvm.MethodName) ∈ TT := TT_at 420 (by decide +kernel) rfl
theorem wim_CP_twin : Jvm.Cond.instanceMethod ({ cls := "CutPoints", name := "twin", desc := "(I)I" } : Jvm.MethodName) ∈ TT := TT_at 421 (by decide +kernel) rfl
theorem wsel_CP_twin : Jvm.Cond.selects "CutPoints" ({ cls := "CutPoints", name := "twin", desc := "(I)I" } : Jvm.MethodName) ({ cls := "CutPoints", name := "twin", desc := "(I)I" } : Jvm.MethodName) ∈ TT := TT_at 422 (by decide +kernel) rfl
theorem wcode_CP_twin : Jvm.Cond.code ({ cls := "CutPoints", name := "twin", desc := "(I)I" } : Jvm.MethodName) prog_1_method_11_code (2 : Nat) (Option.some Jvm.ClassFile.FieldType.int) ∈ TT := TT_at 423 (by decide +kernel) rfl
theorem wml_CP_137 : Jvm.Cond.methodLink "CutPoints" (137 : Nat) ({ cls := "CutPoints$Sketch", name := "twinsOf", desc := "(I)I" } : Jvm.MethodName) ∈ TT := TT_at 424 (by decide +kernel) rfl
theorem wml_LW_56 : Jvm.Cond.methodLink "CutPointsLaw" (56 : Nat) ({ cls := "CutPoints", name := "arcs", desc := "(II)I" } : Jvm.MethodName) ∈ TT := TT_at 425 (by decide +kernel) rfl
theorem wim_CP_arcs : Jvm.Cond.instanceMethod ({ cls := "CutPoints", name := "arcs", desc := "(II)I" } : Jvm.MethodName) ∈ TT := TT_at 426 (by decide +kernel) rfl
theorem wsel_CP_arcs : Jvm.Cond.selects "CutPoints" ({ cls := "CutPoints", name := "arcs", desc := "(II)I" } : Jvm.MethodName) ({ cls := "CutPoints", name := "arcs", desc := "(II)I" } : Jvm.MethodName) ∈ TT := TT_at 427 (by decide +kernel) rfl
theorem wcode_CP_arcs : Jvm.Cond.code ({ cls := "CutPoints", name := "arcs", desc := "(II)I" } : Jvm.MethodName) prog_1_method_12_code (4 : Nat) (Option.some Jvm.ClassFile.FieldType.int) ∈ TT := TT_at 428 (by decide +kernel) rfl
theorem wml_CP_140 : Jvm.Cond.methodLink "CutPoints" (140 : Nat) ({ cls := "CutPoints$Flow", name := "layArcs", desc := "(LCutPoints$Graph;)V" } : Jvm.MethodName) ∈ TT := TT_at 429 (by decide +kernel) rfl
theorem wim_FL_layArcs : Jvm.Cond.instanceMethod ({ cls := "CutPoints$Flow", name := "layArcs", desc := "(LCutPoints$Graph;)V" } : Jvm.MethodName) ∈ TT := TT_at 430 (by decide +kernel) rfl
theorem wsel_FL_layArcs : Jvm.Cond.selects "CutPoints$Flow" ({ cls := "CutPoints$Flow", name := "layArcs", desc := "(LCutPoints$Graph;)V" } : Jvm.MethodName) ({ cls := "CutPoints$Flow", name := "layArcs", desc := "(LCutPoints$Graph;)V" } : Jvm.MethodName) ∈ TT := TT_at 431 (by decide +kernel) rfl
theorem wcode_FL_layArcs : Jvm.Cond.code ({ cls := "CutPoints$Flow", name := "layArcs", desc := "(LCutPoints$Graph;)V" } : Jvm.MethodName) prog_3_method_3_code (3 : Nat) (Option.none : Option Jvm.ClassFile.FieldType) ∈ TT := TT_at 432 (by decide +kernel) rfl
theorem wml_FL_21 : Jvm.Cond.methodLink "CutPoints$Flow" (21 : Nat) ({ cls := "CutPoints$Flow", name := "forget", desc := "()V" } : Jvm.MethodName) ∈ TT := TT_at 433 (by decide +kernel) rfl
theorem wim_FL_forget : Jvm.Cond.instanceMethod ({ cls := "CutPoints$Flow", name := "forget", desc := "()V" } : Jvm.MethodName) ∈ TT := TT_at 435 (by decide +kernel) rfl
theorem wcode_FL_forget : Jvm.Cond.code ({ cls := "CutPoints$Flow", name := "forget", desc := "()V" } : Jvm.MethodName) prog_3_method_6_code (1 : Nat) (Option.none : Option Jvm.ClassFile.FieldType) ∈ TT := TT_at 436 (by decide +kernel) rfl
theorem wml_FL_61 : Jvm.Cond.methodLink "CutPoints$Flow" (61 : Nat) ({ cls := "java/util/Arrays", name := "fill", desc := "([II)V" } : Jvm.MethodName) ∈ TT := TT_at 437 (by decide +kernel) rfl
theorem wml_FL_40 : Jvm.Cond.methodLink "CutPoints$Flow" (40 : Nat) ({ cls := "CutPoints$Flow", name := "change", desc := "(III)V" } : Jvm.MethodName) ∈ TT := TT_at 439 (by decide +kernel) rfl
theorem wim_FL_change : Jvm.Cond.instanceMethod ({ cls := "CutPoints$Flow", name := "change", desc := "(III)V" } : Jvm.MethodName) ∈ TT := TT_at 441 (by decide +kernel) rfl
theorem wcode_FL_change : Jvm.Cond.code ({ cls := "CutPoints$Flow", name := "change", desc := "(III)V" } : Jvm.MethodName) prog_3_method_7_code (5 : Nat) (Option.none : Option Jvm.ClassFile.FieldType) ∈ TT := TT_at 442 (by decide +kernel) rfl
theorem wml_CP_144 : Jvm.Cond.methodLink "CutPoints" (144 : Nat) ({ cls := "CutPoints$Flow", name := "fill", desc := "(II)I" } : Jvm.MethodName) ∈ TT := TT_at 443 (by decide +kernel) rfl
theorem wim_FL_fill : Jvm.Cond.instanceMethod ({ cls := "CutPoints$Flow", name := "fill", desc := "(II)I" } : Jvm.MethodName) ∈ TT := TT_at 444 (by decide +kernel) rfl
theorem wsel_FL_fill : Jvm.Cond.selects "CutPoints$Flow" ({ cls := "CutPoints$Flow", name := "fill", desc := "(II)I" } : Jvm.MethodName) ({ cls := "CutPoints$Flow", name := "fill", desc := "(II)I" } : Jvm.MethodName) ∈ TT := TT_at 445 (by decide +kernel) rfl
theorem wcode_FL_fill : Jvm.Cond.code ({ cls := "CutPoints$Flow", name := "fill", desc := "(II)I" } : Jvm.MethodName) prog_3_method_5_code (4 : Nat) (Option.some Jvm.ClassFile.FieldType.int) ∈ TT := TT_at 446 (by decide +kernel) rfl
theorem wml_FL_53 : Jvm.Cond.methodLink "CutPoints$Flow" (53 : Nat) ({ cls := "CutPoints$Flow", name := "search", desc := "(II)Z" } : Jvm.MethodName) ∈ TT := TT_at 447 (by decide +kernel) rfl
theorem wim_FL_search : Jvm.Cond.instanceMethod ({ cls := "CutPoints$Flow", name := "search", desc := "(II)Z" } : Jvm.MethodName) ∈ TT := TT_at 449 (by decide +kernel) rfl
theorem wcode_FL_search : Jvm.Cond.code ({ cls := "CutPoints$Flow", name := "search", desc := "(II)Z" } : Jvm.MethodName) prog_3_method_8_code (6 : Nat) (Option.some Jvm.ClassFile.FieldType.boolean) ∈ TT := TT_at 450 (by decide +kernel) rfl
theorem wml_FL_71 : Jvm.Cond.methodLink "CutPoints$Flow" (71 : Nat) ({ cls := "CutPoints$Flow", name := "comeFrom", desc := "(II)V" } : Jvm.MethodName) ∈ TT := TT_at 451 (by decide +kernel) rfl
theorem wim_FL_comeFrom : Jvm.Cond.instanceMethod ({ cls := "CutPoints$Flow", name := "comeFrom", desc := "(II)V" } : Jvm.MethodName) ∈ TT := TT_at 453 (by decide +kernel) rfl
theorem wcode_FL_comeFrom : Jvm.Cond.code ({ cls := "CutPoints$Flow", name := "comeFrom", desc := "(II)V" } : Jvm.MethodName) prog_3_method_9_code (4 : Nat) (Option.none : Option Jvm.ClassFile.FieldType) ∈ TT := TT_at 454 (by decide +kernel) rfl
theorem wml_FL_57 : Jvm.Cond.methodLink "CutPoints$Flow" (57 : Nat) ({ cls := "CutPoints$Flow", name := "push", desc := "(II)V" } : Jvm.MethodName) ∈ TT := TT_at 455 (by decide +kernel) rfl
theorem wim_FL_push : Jvm.Cond.instanceMethod ({ cls := "CutPoints$Flow", name := "push", desc := "(II)V" } : Jvm.MethodName) ∈ TT := TT_at 457 (by decide +kernel) rfl
theorem wcode_FL_push : Jvm.Cond.code ({ cls := "CutPoints$Flow", name := "push", desc := "(II)V" } : Jvm.MethodName) prog_3_method_10_code (6 : Nat) (Option.none : Option Jvm.ClassFile.FieldType) ∈ TT := TT_at 458 (by decide +kernel) rfl
theorem wml_LW_60 : Jvm.Cond.methodLink "CutPointsLaw" (60 : Nat) ({ cls := "CutPoints", name := "side", desc := "(II)I" } : Jvm.MethodName) ∈ TT := TT_at 459 (by decide +kernel) rfl
theorem wim_CP_side : Jvm.Cond.instanceMethod ({ cls := "CutPoints", name := "side", desc := "(II)I" } : Jvm.MethodName) ∈ TT := TT_at 460 (by decide +kernel) rfl
theorem wsel_CP_side : Jvm.Cond.selects "CutPoints" ({ cls := "CutPoints", name := "side", desc := "(II)I" } : Jvm.MethodName) ({ cls := "CutPoints", name := "side", desc := "(II)I" } : Jvm.MethodName) ∈ TT := TT_at 461 (by decide +kernel) rfl
theorem wcode_CP_side : Jvm.Cond.code ({ cls := "CutPoints", name := "side", desc := "(II)I" } : Jvm.MethodName) prog_1_method_13_code (4 : Nat) (Option.some Jvm.ClassFile.FieldType.int) ∈ TT := TT_at 462 (by decide +kernel) rfl
theorem wml_LW_64 : Jvm.Cond.methodLink "CutPointsLaw" (64 : Nat) ({ cls := "CutPoints", name := "nodes", desc := "(II)I" } : Jvm.MethodName) ∈ TT := TT_at 463 (by decide +kernel) rfl
theorem wim_CP_nodes : Jvm.Cond.instanceMethod ({ cls := "CutPoints", name := "nodes", desc := "(II)I" } : Jvm.MethodName) ∈ TT := TT_at 464 (by decide +kernel) rfl
theorem wsel_CP_nodes : Jvm.Cond.selects "CutPoints" ({ cls := "CutPoints", name := "nodes", desc := "(II)I" } : Jvm.MethodName) ({ cls := "CutPoints", name := "nodes", desc := "(II)I" } : Jvm.MethodName) ∈ TT := TT_at 465 (by decide +kernel) rfl
theorem wcode_CP_nodes : Jvm.Cond.code ({ cls := "CutPoints", name := "nodes", desc := "(II)I" } : Jvm.MethodName) prog_1_method_14_code (4 : Nat) (Option.some Jvm.ClassFile.FieldType.int) ∈ TT := TT_at 466 (by decide +kernel) rfl
theorem wml_CP_154 : Jvm.Cond.methodLink "CutPoints" (154 : Nat) ({ cls := "CutPoints$Flow", name := "layNodes", desc := "(LCutPoints$Sketch;)V" } : Jvm.MethodName) ∈ TT := TT_at 467 (by decide +kernel) rfl
theorem wim_FL_layNodes : Jvm.Cond.instanceMethod ({ cls := "CutPoints$Flow", name := "layNodes", desc := "(LCutPoints$Sketch;)V" } : Jvm.MethodName) ∈ TT := TT_at 468 (by decide +kernel) rfl
theorem wsel_FL_layNodes : Jvm.Cond.selects "CutPoints$Flow" ({ cls := "CutPoints$Flow", name := "layNodes", desc := "(LCutPoints$Sketch;)V" } : Jvm.MethodName) ({ cls := "CutPoints$Flow", name := "layNodes", desc := "(LCutPoints$Sketch;)V" } : Jvm.MethodName) ∈ TT := TT_at 469 (by decide +kernel) rfl
theorem wcode_FL_layNodes : Jvm.Cond.code ({ cls := "CutPoints$Flow", name := "layNodes", desc := "(LCutPoints$Sketch;)V" } : Jvm.MethodName) prog_3_method_4_code (4 : Nat) (Option.none : Option Jvm.ClassFile.FieldType) ∈ TT := TT_at 470 (by decide +kernel) rfl
theorem wml_FL_44 : Jvm.Cond.methodLink "CutPoints$Flow" (44 : Nat) ({ cls := "CutPoints$Flow", name := "outOf", desc := "(I)I" } : Jvm.MethodName) ∈ TT := TT_at 471 (by decide +kernel) rfl
theorem wst_FL_outOf : Jvm.Cond.static ({ cls := "CutPoints$Flow", name := "outOf", desc := "(I)I" } : Jvm.MethodName) ∈ TT := TT_at 472 (by decide +kernel) rfl
theorem wcode_FL_outOf : Jvm.Cond.code ({ cls := "CutPoints$Flow", name := "outOf", desc := "(I)I" } : Jvm.MethodName) prog_3_method_2_code (1 : Nat) (Option.some Jvm.ClassFile.FieldType.int) ∈ TT := TT_at 473 (by decide +kernel) rfl
theorem wml_CP_158 : Jvm.Cond.methodLink "CutPoints" (158 : Nat) ({ cls := "CutPoints$Flow", name := "outOf", desc := "(I)I" } : Jvm.MethodName) ∈ TT := TT_at 474 (by decide +kernel) rfl
theorem wml_LW_68 : Jvm.Cond.methodLink "CutPointsLaw" (68 : Nat) ({ cls := "CutPoints", name := "between", desc := "(II)I" } : Jvm.MethodName) ∈ TT := TT_at 475 (by decide +kernel) rfl
theorem wim_CP_between : Jvm.Cond.instanceMethod ({ cls := "CutPoints", name := "between", desc := "(II)I" } : Jvm.MethodName) ∈ TT := TT_at 476 (by decide +kernel) rfl
theorem wsel_CP_between : Jvm.Cond.selects "CutPoints" ({ cls := "CutPoints", name := "between", desc := "(II)I" } : Jvm.MethodName) ({ cls := "CutPoints", name := "between", desc := "(II)I" } : Jvm.MethodName) ∈ TT := TT_at 477 (by decide +kernel) rfl
theorem wcode_CP_between : Jvm.Cond.code ({ cls := "CutPoints", name := "between", desc := "(II)I" } : Jvm.MethodName) prog_1_method_15_code (4 : Nat) (Option.some Jvm.ClassFile.FieldType.int) ∈ TT := TT_at 478 (by decide +kernel) rfl
theorem wml_CP_161 : Jvm.Cond.methodLink "CutPoints" (161 : Nat) ({ cls := "CutPoints$Sketch", name := "countBetween", desc := "(II)I" } : Jvm.MethodName) ∈ TT := TT_at 479 (by decide +kernel) rfl
theorem wim_SK_countBetween : Jvm.Cond.instanceMethod ({ cls := "CutPoints$Sketch", name := "countBetween", desc := "(II)I" } : Jvm.MethodName) ∈ TT := TT_at 480 (by decide +kernel) rfl
theorem wsel_SK_countBetween : Jvm.Cond.selects "CutPoints$Sketch" ({ cls := "CutPoints$Sketch", name := "countBetween", desc := "(II)I" } : Jvm.MethodName) ({ cls := "CutPoints$Sketch", name := "countBetween", desc := "(II)I" } : Jvm.MethodName) ∈ TT := TT_at 481 (by decide +kernel) rfl
theorem wcode_SK_countBetween : Jvm.Cond.code ({ cls := "CutPoints$Sketch", name := "countBetween", desc := "(II)I" } : Jvm.MethodName) prog_6_method_14_code (6 : Nat) (Option.some Jvm.ClassFile.FieldType.int) ∈ TT := TT_at 482 (by decide +kernel) rfl
theorem wml_LW_72 : Jvm.Cond.methodLink "CutPointsLaw" (72 : Nat) ({ cls := "CutPoints", name := "mends", desc := "(II)I" } : Jvm.MethodName) ∈ TT := TT_at 483 (by decide +kernel) rfl
theorem wim_CP_mends : Jvm.Cond.instanceMethod ({ cls := "CutPoints", name := "mends", desc := "(II)I" } : Jvm.MethodName) ∈ TT := TT_at 484 (by decide +kernel) rfl
theorem wsel_CP_mends : Jvm.Cond.selects "CutPoints" ({ cls := "CutPoints", name := "mends", desc := "(II)I" } : Jvm.MethodName) ({ cls := "CutPoints", name := "mends", desc := "(II)I" } : Jvm.MethodName) ∈ TT := TT_at 485 (by decide +kernel) rfl
theorem wcode_CP_mends : Jvm.Cond.code ({ cls := "CutPoints", name := "mends", desc := "(II)I" } : Jvm.MethodName) prog_1_method_16_code (4 : Nat) (Option.some Jvm.ClassFile.FieldType.int) ∈ TT := TT_at 486 (by decide +kernel) rfl
theorem wkl_CP_164 : Jvm.Cond.constantLong "CutPoints" (164 : Nat) (1099511627776 : Int64) ∈ TT := TT_at 487 (by decide +kernel) rfl
theorem wml_LW_76 : Jvm.Cond.methodLink "CutPointsLaw" (76 : Nat) ({ cls := "CutPoints", name := "way", desc := "(I)I" } : Jvm.MethodName) ∈ TT := TT_at 488 (by decide +kernel) rfl
theorem wim_CP_way : Jvm.Cond.instanceMethod ({ cls := "CutPoints", name := "way", desc := "(I)I" } : Jvm.MethodName) ∈ TT := TT_at 489 (by decide +kernel) rfl
theorem wsel_CP_way : Jvm.Cond.selects "CutPoints" ({ cls := "CutPoints", name := "way", desc := "(I)I" } : Jvm.MethodName) ({ cls := "CutPoints", name := "way", desc := "(I)I" } : Jvm.MethodName) ∈ TT := TT_at 490 (by decide +kernel) rfl
theorem wcode_CP_way : Jvm.Cond.code ({ cls := "CutPoints", name := "way", desc := "(I)I" } : Jvm.MethodName) prog_1_method_17_code (4 : Nat) (Option.some Jvm.ClassFile.FieldType.int) ∈ TT := TT_at 491 (by decide +kernel) rfl
theorem wml_CP_173 : Jvm.Cond.methodLink "CutPoints" (173 : Nat) ({ cls := "CutPoints$Sketch", name := "arcsAt", desc := "(I)J" } : Jvm.MethodName) ∈ TT := TT_at 492 (by decide +kernel) rfl
theorem wml_CP_176 : Jvm.Cond.methodLink "CutPoints" (176 : Nat) ({ cls := "CutPoints$Compass", name := "goesForth", desc := "(LCutPoints$Graph;JI)Z" } : Jvm.MethodName) ∈ TT := TT_at 493 (by decide +kernel) rfl
theorem wim_CO_goesForth : Jvm.Cond.instanceMethod ({ cls := "CutPoints$Compass", name := "goesForth", desc := "(LCutPoints$Graph;JI)Z" } : Jvm.MethodName) ∈ TT := TT_at 494 (by decide +kernel) rfl
theorem wsel_CO_goesForth : Jvm.Cond.selects "CutPoints$Compass" ({ cls := "CutPoints$Compass", name := "goesForth", desc := "(LCutPoints$Graph;JI)Z" } : Jvm.MethodName) ({ cls := "CutPoints$Compass", name := "goesForth", desc := "(LCutPoints$Graph;JI)Z" } : Jvm.MethodName) ∈ TT := TT_at 495 (by decide +kernel) rfl
theorem wcode_CO_goesForth : Jvm.Cond.code ({ cls := "CutPoints$Compass", name := "goesForth", desc := "(LCutPoints$Graph;JI)Z" } : Jvm.MethodName) prog_2_method_2_code (12 : Nat) (Option.some Jvm.ClassFile.FieldType.boolean) ∈ TT := TT_at 496 (by decide +kernel) rfl
theorem wkl_CO_19 : Jvm.Cond.constantLong "CutPoints$Compass" (19 : Nat) (-1 : Int64) ∈ TT := TT_at 498 (by decide +kernel) rfl
theorem wml_CO_21 : Jvm.Cond.methodLink "CutPoints$Compass" (21 : Nat) ({ cls := "CutPoints$Compass", name := "fillLeads", desc := "(LCutPoints$Graph;JJ)V" } : Jvm.MethodName) ∈ TT := TT_at 499 (by decide +kernel) rfl
theorem wim_CO_fillLeads : Jvm.Cond.instanceMethod ({ cls := "CutPoints$Compass", name := "fillLeads", desc := "(LCutPoints$Graph;JJ)V" } : Jvm.MethodName) ∈ TT := TT_at 501 (by decide +kernel) rfl
theorem wcode_CO_fillLeads : Jvm.Cond.code ({ cls := "CutPoints$Compass", name := "fillLeads", desc := "(LCutPoints$Graph;JJ)V" } : Jvm.MethodName) prog_2_method_3_code (7 : Nat) (Option.none : Option Jvm.ClassFile.FieldType) ∈ TT := TT_at 502 (by decide +kernel) rfl
theorem wml_CO_37 : Jvm.Cond.methodLink "CutPoints$Compass" (37 : Nat) ({ cls := "java/util/Arrays", name := "fill", desc := "([II)V" } : Jvm.MethodName) ∈ TT := TT_at 503 (by decide +kernel) rfl
theorem wml_LW_80 : Jvm.Cond.methodLink "CutPointsLaw" (80 : Nat) ({ cls := "CutPoints", name := "together", desc := "(II)I" } : Jvm.MethodName) ∈ TT := TT_at 505 (by decide +kernel) rfl
theorem wim_CP_together : Jvm.Cond.instanceMethod ({ cls := "CutPoints", name := "together", desc := "(II)I" } : Jvm.MethodName) ∈ TT := TT_at 506 (by decide +kernel) rfl
theorem wsel_CP_together : Jvm.Cond.selects "CutPoints" ({ cls := "CutPoints", name := "together", desc := "(II)I" } : Jvm.MethodName) ({ cls := "CutPoints", name := "together", desc := "(II)I" } : Jvm.MethodName) ∈ TT := TT_at 507 (by decide +kernel) rfl
theorem wcode_CP_together : Jvm.Cond.code ({ cls := "CutPoints", name := "together", desc := "(II)I" } : Jvm.MethodName) prog_1_method_18_code (5 : Nat) (Option.some Jvm.ClassFile.FieldType.int) ∈ TT := TT_at 508 (by decide +kernel) rfl
theorem wml_CP_180 : Jvm.Cond.methodLink "CutPoints" (180 : Nat) ({ cls := "CutPoints$Splitter", name := "findGood", desc := "(LCutPoints$Sketch;J)V" } : Jvm.MethodName) ∈ TT := TT_at 509 (by decide +kernel) rfl
theorem wim_SP_findGood : Jvm.Cond.instanceMethod ({ cls := "CutPoints$Splitter", name := "findGood", desc := "(LCutPoints$Sketch;J)V" } : Jvm.MethodName) ∈ TT := TT_at 510 (by decide +kernel) rfl
theorem wsel_SP_findGood : Jvm.Cond.selects "CutPoints$Splitter" ({ cls := "CutPoints$Splitter", name := "findGood", desc := "(LCutPoints$Sketch;J)V" } : Jvm.MethodName) ({ cls := "CutPoints$Splitter", name := "findGood", desc := "(LCutPoints$Sketch;J)V" } : Jvm.MethodName) ∈ TT := TT_at 511 (by decide +kernel) rfl
theorem wcode_SP_findGood : Jvm.Cond.code ({ cls := "CutPoints$Splitter", name := "findGood", desc := "(LCutPoints$Sketch;J)V" } : Jvm.MethodName) prog_7_method_2_code (5 : Nat) (Option.none : Option Jvm.ClassFile.FieldType) ∈ TT := TT_at 512 (by decide +kernel) rfl
theorem wml_SP_33 : Jvm.Cond.methodLink "CutPoints$Splitter" (33 : Nat) ({ cls := "CutPoints$Splitter", name := "findPieces", desc := "(LCutPoints$Sketch;)V" } : Jvm.MethodName) ∈ TT := TT_at 513 (by decide +kernel) rfl
theorem wim_SP_findPieces : Jvm.Cond.instanceMethod ({ cls := "CutPoints$Splitter", name := "findPieces", desc := "(LCutPoints$Sketch;)V" } : Jvm.MethodName) ∈ TT := TT_at 515 (by decide +kernel) rfl
theorem wcode_SP_findPieces : Jvm.Cond.code ({ cls := "CutPoints$Splitter", name := "findPieces", desc := "(LCutPoints$Sketch;)V" } : Jvm.MethodName) prog_7_method_4_code (4 : Nat) (Option.none : Option Jvm.ClassFile.FieldType) ∈ TT := TT_at 516 (by decide +kernel) rfl
theorem wml_SP_59 : Jvm.Cond.methodLink "CutPoints$Splitter" (59 : Nat) ({ cls := "CutPoints$Splitter", name := "cutAt", desc := "(LCutPoints$Sketch;II)V" } : Jvm.MethodName) ∈ TT := TT_at 517 (by decide +kernel) rfl
theorem wim_SP_cutAt : Jvm.Cond.instanceMethod ({ cls := "CutPoints$Splitter", name := "cutAt", desc := "(LCutPoints$Sketch;II)V" } : Jvm.MethodName) ∈ TT := TT_at 519 (by decide +kernel) rfl
theorem wcode_SP_cutAt : Jvm.Cond.code ({ cls := "CutPoints$Splitter", name := "cutAt", desc := "(LCutPoints$Sketch;II)V" } : Jvm.MethodName) prog_7_method_5_code (7 : Nat) (Option.none : Option Jvm.ClassFile.FieldType) ∈ TT := TT_at 520 (by decide +kernel) rfl
theorem wml_SP_66 : Jvm.Cond.methodLink "CutPoints$Splitter" (66 : Nat) ({ cls := "CutPoints$Groups", name := "forget", desc := "()V" } : Jvm.MethodName) ∈ TT := TT_at 521 (by decide +kernel) rfl
theorem wml_SP_69 : Jvm.Cond.methodLink "CutPoints$Splitter" (69 : Nat) ({ cls := "CutPoints$Groups", name := "join", desc := "(J)V" } : Jvm.MethodName) ∈ TT := TT_at 522 (by decide +kernel) rfl
theorem wml_SP_63 : Jvm.Cond.methodLink "CutPoints$Splitter" (63 : Nat) ({ cls := "CutPoints$Splitter", name := "keepPieces", desc := "()V" } : Jvm.MethodName) ∈ TT := TT_at 524 (by decide +kernel) rfl
theorem wim_SP_keepPieces : Jvm.Cond.instanceMethod ({ cls := "CutPoints$Splitter", name := "keepPieces", desc := "()V" } : Jvm.MethodName) ∈ TT := TT_at 526 (by decide +kernel) rfl
theorem wcode_SP_keepPieces : Jvm.Cond.code ({ cls := "CutPoints$Splitter", name := "keepPieces", desc := "()V" } : Jvm.MethodName) prog_7_method_6_code (3 : Nat) (Option.none : Option Jvm.ClassFile.FieldType) ∈ TT := TT_at 527 (by decide +kernel) rfl
theorem wml_SP_44 : Jvm.Cond.methodLink "CutPoints$Splitter" (44 : Nat) ({ cls := "CutPoints$Splitter", name := "keepGood", desc := "(II)V" } : Jvm.MethodName) ∈ TT := TT_at 528 (by decide +kernel) rfl
theorem wim_SP_keepGood : Jvm.Cond.instanceMethod ({ cls := "CutPoints$Splitter", name := "keepGood", desc := "(II)V" } : Jvm.MethodName) ∈ TT := TT_at 530 (by decide +kernel) rfl
theorem wcode_SP_keepGood : Jvm.Cond.code ({ cls := "CutPoints$Splitter", name := "keepGood", desc := "(II)V" } : Jvm.MethodName) prog_7_method_7_code (6 : Nat) (Option.none : Option Jvm.ClassFile.FieldType) ∈ TT := TT_at 531 (by decide +kernel) rfl
theorem wml_SP_79 : Jvm.Cond.methodLink "CutPoints$Splitter" (79 : Nat) ({ cls := "java/lang/Long", name := "bitCount", desc := "(J)I" } : Jvm.MethodName) ∈ TT := TT_at 532 (by decide +kernel) rfl
theorem wkl_SP_52 : Jvm.Cond.constantLong "CutPoints$Splitter" (52 : Nat) (-1 : Int64) ∈ TT := TT_at 533 (by decide +kernel) rfl
theorem wml_SP_85 : Jvm.Cond.methodLink "CutPoints$Splitter" (85 : Nat) ({ cls := "CutPoints$Splitter", name := "isCrossed", desc := "(J)Z" } : Jvm.MethodName) ∈ TT := TT_at 534 (by decide +kernel) rfl
theorem wim_SP_isCrossed : Jvm.Cond.instanceMethod ({ cls := "CutPoints$Splitter", name := "isCrossed", desc := "(J)Z" } : Jvm.MethodName) ∈ TT := TT_at 536 (by decide +kernel) rfl
theorem wcode_SP_isCrossed : Jvm.Cond.code ({ cls := "CutPoints$Splitter", name := "isCrossed", desc := "(J)Z" } : Jvm.MethodName) prog_7_method_8_code (4 : Nat) (Option.some Jvm.ClassFile.FieldType.boolean) ∈ TT := TT_at 537 (by decide +kernel) rfl
theorem wml_SP_89 : Jvm.Cond.methodLink "CutPoints$Splitter" (89 : Nat) ({ cls := "CutPoints$Splitter", name := "isCrossedAt", desc := "(JII)Z" } : Jvm.MethodName) ∈ TT := TT_at 538 (by decide +kernel) rfl
theorem wim_SP_isCrossedAt : Jvm.Cond.instanceMethod ({ cls := "CutPoints$Splitter", name := "isCrossedAt", desc := "(JII)Z" } : Jvm.MethodName) ∈ TT := TT_at 540 (by decide +kernel) rfl
theorem wcode_SP_isCrossedAt : Jvm.Cond.code ({ cls := "CutPoints$Splitter", name := "isCrossedAt", desc := "(JII)Z" } : Jvm.MethodName) prog_7_method_9_code (9 : Nat) (Option.some Jvm.ClassFile.FieldType.boolean) ∈ TT := TT_at 541 (by decide +kernel) rfl
theorem wml_SP_93 : Jvm.Cond.methodLink "CutPoints$Splitter" (93 : Nat) ({ cls := "java/lang/Math", name := "min", desc := "(II)I" } : Jvm.MethodName) ∈ TT := TT_at 542 (by decide +kernel) rfl
theorem wst_JM_min : Jvm.Cond.static ({ cls := "java/lang/Math", name := "min", desc := "(II)I" } : Jvm.MethodName) ∈ TT := TT_at 543 (by decide +kernel) rfl
theorem wcode_JM_min : Jvm.Cond.code ({ cls := "java/lang/Math", name := "min", desc := "(II)I" } : Jvm.MethodName) prog_12_method_69_code (2 : Nat) (Option.some Jvm.ClassFile.FieldType.int) ∈ TT := TT_at 544 (by decide +kernel) rfl
theorem wml_CP_184 : Jvm.Cond.methodLink "CutPoints" (184 : Nat) ({ cls := "CutPoints$Splitter", name := "joinedWith", desc := "(I)J" } : Jvm.MethodName) ∈ TT := TT_at 545 (by decide +kernel) rfl
theorem wim_SP_joinedWith : Jvm.Cond.instanceMethod ({ cls := "CutPoints$Splitter", name := "joinedWith", desc := "(I)J" } : Jvm.MethodName) ∈ TT := TT_at 546 (by decide +kernel) rfl
theorem wsel_SP_joinedWith : Jvm.Cond.selects "CutPoints$Splitter" ({ cls := "CutPoints$Splitter", name := "joinedWith", desc := "(I)J" } : Jvm.MethodName) ({ cls := "CutPoints$Splitter", name := "joinedWith", desc := "(I)J" } : Jvm.MethodName) ∈ TT := TT_at 547 (by decide +kernel) rfl
theorem wcode_SP_joinedWith : Jvm.Cond.code ({ cls := "CutPoints$Splitter", name := "joinedWith", desc := "(I)J" } : Jvm.MethodName) prog_7_method_3_code (5 : Nat) (Option.some Jvm.ClassFile.FieldType.long) ∈ TT := TT_at 548 (by decide +kernel) rfl
theorem wml_LW_84 : Jvm.Cond.methodLink "CutPointsLaw" (84 : Nat) ({ cls := "CutPoints", name := "splits", desc := "(II)I" } : Jvm.MethodName) ∈ TT := TT_at 549 (by decide +kernel) rfl
theorem wim_CP_splits : Jvm.Cond.instanceMethod ({ cls := "CutPoints", name := "splits", desc := "(II)I" } : Jvm.MethodName) ∈ TT := TT_at 550 (by decide +kernel) rfl
theorem wsel_CP_splits : Jvm.Cond.selects "CutPoints" ({ cls := "CutPoints", name := "splits", desc := "(II)I" } : Jvm.MethodName) ({ cls := "CutPoints", name := "splits", desc := "(II)I" } : Jvm.MethodName) ∈ TT := TT_at 551 (by decide +kernel) rfl
theorem wcode_CP_splits : Jvm.Cond.code ({ cls := "CutPoints", name := "splits", desc := "(II)I" } : Jvm.MethodName) prog_1_method_19_code (7 : Nat) (Option.some Jvm.ClassFile.FieldType.int) ∈ TT := TT_at 552 (by decide +kernel) rfl
theorem wml_LW_88 : Jvm.Cond.methodLink "CutPointsLaw" (88 : Nat) ({ cls := "CutPoints", name := "worn", desc := "()I" } : Jvm.MethodName) ∈ TT := TT_at 553 (by decide +kernel) rfl
theorem wim_CP_worn : Jvm.Cond.instanceMethod ({ cls := "CutPoints", name := "worn", desc := "()I" } : Jvm.MethodName) ∈ TT := TT_at 554 (by decide +kernel) rfl
theorem wsel_CP_worn : Jvm.Cond.selects "CutPoints" ({ cls := "CutPoints", name := "worn", desc := "()I" } : Jvm.MethodName) ({ cls := "CutPoints", name := "worn", desc := "()I" } : Jvm.MethodName) ∈ TT := TT_at 555 (by decide +kernel) rfl
theorem wcode_CP_worn : Jvm.Cond.code ({ cls := "CutPoints", name := "worn", desc := "()I" } : Jvm.MethodName) prog_1_method_20_code (1 : Nat) (Option.some Jvm.ClassFile.FieldType.int) ∈ TT := TT_at 556 (by decide +kernel) rfl
theorem wcl_LW_10 : Jvm.Cond.classLink "CutPointsLaw" (10 : Nat) "CutPointsModel" ∈ TT := TT_at 557 (by decide +kernel) rfl
theorem winst_MO : Jvm.Cond.instantiable "CutPointsModel" (15 : Nat) ∈ TT := TT_at 558 (by decide +kernel) rfl
theorem wml_LW_12 : Jvm.Cond.methodLink "CutPointsLaw" (12 : Nat) ({ cls := "CutPointsModel", name := "<init>", desc := "()V" } : Jvm.MethodName) ∈ TT := TT_at 559 (by decide +kernel) rfl
theorem wim_MO_init : Jvm.Cond.instanceMethod ({ cls := "CutPointsModel", name := "<init>", desc := "()V" } : Jvm.MethodName) ∈ TT := TT_at 560 (by decide +kernel) rfl
theorem wcode_MO_init : Jvm.Cond.code ({ cls := "CutPointsModel", name := "<init>", desc := "()V" } : Jvm.MethodName) prog_9_method_1_code (1 : Nat) (Option.none : Option Jvm.ClassFile.FieldType) ∈ TT := TT_at 561 (by decide +kernel) rfl
theorem wml_MO_1 : Jvm.Cond.methodLink "CutPointsModel" (1 : Nat) ({ cls := "java/lang/Object", name := "<init>", desc := "()V" } : Jvm.MethodName) ∈ TT := TT_at 562 (by decide +kernel) rfl
theorem wfl_MO_38 : Jvm.Cond.fieldLink "CutPointsModel" (38 : Nat) "CutPointsModel" "thrown" "I" ∈ TT := TT_at 563 (by decide +kernel) rfl
theorem wfl_MO_42 : Jvm.Cond.fieldLink "CutPointsModel" (42 : Nat) "CutPointsModel" "nodes" "I" ∈ TT := TT_at 564 (by decide +kernel) rfl
theorem wfl_MO_45 : Jvm.Cond.fieldLink "CutPointsModel" (45 : Nat) "CutPointsModel" "arcs" "I" ∈ TT := TT_at 565 (by decide +kernel) rfl
theorem wfl_MO_7 : Jvm.Cond.fieldLink "CutPointsModel" (7 : Nat) "CutPointsModel" "first" "[I" ∈ TT := TT_at 566 (by decide +kernel) rfl
theorem wfl_MO_13 : Jvm.Cond.fieldLink "CutPointsModel" (13 : Nat) "CutPointsModel" "second" "[I" ∈ TT := TT_at 567 (by decide +kernel) rfl
theorem wfl_MO_16 : Jvm.Cond.fieldLink "CutPointsModel" (16 : Nat) "CutPointsModel" "there" "[Z" ∈ TT := TT_at 568 (by decide +kernel) rfl
theorem wfl_MO_20 : Jvm.Cond.fieldLink "CutPointsModel" (20 : Nat) "CutPointsModel" "near" "[I" ∈ TT := TT_at 569 (by decide +kernel) rfl
theorem wfl_MO_23 : Jvm.Cond.fieldLink "CutPointsModel" (23 : Nat) "CutPointsModel" "twins" "[I" ∈ TT := TT_at 570 (by decide +kernel) rfl
theorem wfl_MO_116 : Jvm.Cond.fieldLink "CutPointsModel" (116 : Nat) "CutPointsModel" "best" "I" ∈ TT := TT_at 571 (by decide +kernel) rfl
theorem wfl_MO_26 : Jvm.Cond.fieldLink "CutPointsModel" (26 : Nat) "CutPointsModel" "told" "[I" ∈ TT := TT_at 572 (by decide +kernel) rfl
theorem wfl_MO_29 : Jvm.Cond.fieldLink "CutPointsModel" (29 : Nat) "CutPointsModel" "ofBlock" "[I" ∈ TT := TT_at 573 (by decide +kernel) rfl
theorem wfl_MO_132 : Jvm.Cond.fieldLink "CutPointsModel" (132 : Nat) "CutPointsModel" "blockSize" "I" ∈ TT := TT_at 574 (by decide +kernel) rfl
theorem wfl_MO_32 : Jvm.Cond.fieldLink "CutPointsModel" (32 : Nat) "CutPointsModel" "split" "[I" ∈ TT := TT_at 575 (by decide +kernel) rfl
theorem wfl_MO_35 : Jvm.Cond.fieldLink "CutPointsModel" (35 : Nat) "CutPointsModel" "good" "[Z" ∈ TT := TT_at 576 (by decide +kernel) rfl
theorem wfl_MO_135 : Jvm.Cond.fieldLink "CutPointsModel" (135 : Nat) "CutPointsModel" "splits" "I" ∈ TT := TT_at 577 (by decide +kernel) rfl
theorem warr_boolean : Jvm.Cond.arrayClass Jvm.ClassFile.FieldType.boolean ∈ TT := TT_at 609 (by decide +kernel) rfl
theorem wml_LW_16 : Jvm.Cond.methodLink "CutPointsLaw" (16 : Nat) ({ cls := "CutPointsModel", name := "clear", desc := "()V" } : Jvm.MethodName) ∈ TT := TT_at 610 (by decide +kernel) rfl
theorem wim_MO_clear : Jvm.Cond.instanceMethod ({ cls := "CutPointsModel", name := "clear", desc := "()V" } : Jvm.MethodName) ∈ TT := TT_at 611 (by decide +kernel) rfl
theorem wsel_MO_clear : Jvm.Cond.selects "CutPointsModel" ({ cls := "CutPointsModel", name := "clear", desc := "()V" } : Jvm.MethodName) ({ cls := "CutPointsModel", name := "clear", desc := "()V" } : Jvm.MethodName) ∈ TT := TT_at 612 (by decide +kernel) rfl
theorem wcode_MO_clear : Jvm.Cond.code ({ cls := "CutPointsModel", name := "clear", desc := "()V" } : Jvm.MethodName) prog_9_method_6_code (1 : Nat) (Option.none : Option Jvm.ClassFile.FieldType) ∈ TT := TT_at 613 (by decide +kernel) rfl
theorem wml_LW_21 : Jvm.Cond.methodLink "CutPointsLaw" (21 : Nat) ({ cls := "CutPointsModel", name := "node", desc := "()I" } : Jvm.MethodName) ∈ TT := TT_at 614 (by decide +kernel) rfl
theorem wim_MO_node : Jvm.Cond.instanceMethod ({ cls := "CutPointsModel", name := "node", desc := "()I" } : Jvm.MethodName) ∈ TT := TT_at 615 (by decide +kernel) rfl
theorem wsel_MO_node : Jvm.Cond.selects "CutPointsModel" ({ cls := "CutPointsModel", name := "node", desc := "()I" } : Jvm.MethodName) ({ cls := "CutPointsModel", name := "node", desc := "()I" } : Jvm.MethodName) ∈ TT := TT_at 616 (by decide +kernel) rfl
theorem wcode_MO_node : Jvm.Cond.code ({ cls := "CutPointsModel", name := "node", desc := "()I" } : Jvm.MethodName) prog_9_method_7_code (1 : Nat) (Option.some Jvm.ClassFile.FieldType.int) ∈ TT := TT_at 617 (by decide +kernel) rfl
theorem wml_LW_26 : Jvm.Cond.methodLink "CutPointsLaw" (26 : Nat) ({ cls := "CutPointsModel", name := "arc", desc := "(II)I" } : Jvm.MethodName) ∈ TT := TT_at 618 (by decide +kernel) rfl
theorem wim_MO_arc : Jvm.Cond.instanceMethod ({ cls := "CutPointsModel", name := "arc", desc := "(II)I" } : Jvm.MethodName) ∈ TT := TT_at 619 (by decide +kernel) rfl
theorem wsel_MO_arc : Jvm.Cond.selects "CutPointsModel" ({ cls := "CutPointsModel", name := "arc", desc := "(II)I" } : Jvm.MethodName) ({ cls := "CutPointsModel", name := "arc", desc := "(II)I" } : Jvm.MethodName) ∈ TT := TT_at 620 (by decide +kernel) rfl
theorem wcode_MO_arc : Jvm.Cond.code ({ cls := "CutPointsModel", name := "arc", desc := "(II)I" } : Jvm.MethodName) prog_9_method_10_code (3 : Nat) (Option.some Jvm.ClassFile.FieldType.int) ∈ TT := TT_at 621 (by decide +kernel) rfl
theorem wml_MO_52 : Jvm.Cond.methodLink "CutPointsModel" (52 : Nat) ({ cls := "CutPointsModel", name := "isNode", desc := "(I)Z" } : Jvm.MethodName) ∈ TT := TT_at 622 (by decide +kernel) rfl
theorem wim_MO_isNode : Jvm.Cond.instanceMethod ({ cls := "CutPointsModel", name := "isNode", desc := "(I)Z" } : Jvm.MethodName) ∈ TT := TT_at 624 (by decide +kernel) rfl
theorem wcode_MO_isNode : Jvm.Cond.code ({ cls := "CutPointsModel", name := "isNode", desc := "(I)Z" } : Jvm.MethodName) prog_9_method_8_code (2 : Nat) (Option.some Jvm.ClassFile.FieldType.boolean) ∈ TT := TT_at 625 (by decide +kernel) rfl
theorem wml_MO_48 : Jvm.Cond.methodLink "CutPointsModel" (48 : Nat) ({ cls := "CutPointsModel", name := "within", desc := "(III)Z" } : Jvm.MethodName) ∈ TT := TT_at 626 (by decide +kernel) rfl
theorem wst_MO_within : Jvm.Cond.static ({ cls := "CutPointsModel", name := "within", desc := "(III)Z" } : Jvm.MethodName) ∈ TT := TT_at 627 (by decide +kernel) rfl
theorem wcode_MO_within : Jvm.Cond.code ({ cls := "CutPointsModel", name := "within", desc := "(III)Z" } : Jvm.MethodName) prog_9_method_3_code (3 : Nat) (Option.some Jvm.ClassFile.FieldType.boolean) ∈ TT := TT_at 628 (by decide +kernel) rfl
theorem wml_LW_31 : Jvm.Cond.methodLink "CutPointsLaw" (31 : Nat) ({ cls := "CutPointsModel", name := "turn", desc := "(I)I" } : Jvm.MethodName) ∈ TT := TT_at 629 (by decide +kernel) rfl
theorem wim_MO_turn : Jvm.Cond.instanceMethod ({ cls := "CutPointsModel", name := "turn", desc := "(I)I" } : Jvm.MethodName) ∈ TT := TT_at 630 (by decide +kernel) rfl
theorem wsel_MO_turn : Jvm.Cond.selects "CutPointsModel" ({ cls := "CutPointsModel", name := "turn", desc := "(I)I" } : Jvm.MethodName) ({ cls := "CutPointsModel", name := "turn", desc := "(I)I" } : Jvm.MethodName) ∈ TT := TT_at 631 (by decide +kernel) rfl
theorem wcode_MO_turn : Jvm.Cond.code ({ cls := "CutPointsModel", name := "turn", desc := "(I)I" } : Jvm.MethodName) prog_9_method_11_code (2 : Nat) (Option.some Jvm.ClassFile.FieldType.int) ∈ TT := TT_at 632 (by decide +kernel) rfl
theorem wml_LW_35 : Jvm.Cond.methodLink "CutPointsLaw" (35 : Nat) ({ cls := "CutPointsModel", name := "count", desc := "(I)I" } : Jvm.MethodName) ∈ TT := TT_at 633 (by decide +kernel) rfl
theorem wim_MO_count : Jvm.Cond.instanceMethod ({ cls := "CutPointsModel", name := "count", desc := "(I)I" } : Jvm.MethodName) ∈ TT := TT_at 634 (by decide +kernel) rfl
theorem wsel_MO_count : Jvm.Cond.selects "CutPointsModel" ({ cls := "CutPointsModel", name := "count", desc := "(I)I" } : Jvm.MethodName) ({ cls := "CutPointsModel", name := "count", desc := "(I)I" } : Jvm.MethodName) ∈ TT := TT_at 635 (by decide +kernel) rfl
theorem wcode_MO_count : Jvm.Cond.code ({ cls := "CutPointsModel", name := "count", desc := "(I)I" } : Jvm.MethodName) prog_9_method_27_code (4 : Nat) (Option.some Jvm.ClassFile.FieldType.int) ∈ TT := TT_at 636 (by decide +kernel) rfl
theorem wml_MO_67 : Jvm.Cond.methodLink "CutPointsModel" (67 : Nat) ({ cls := "CutPointsModel", name := "lookAll", desc := "()V" } : Jvm.MethodName) ∈ TT := TT_at 637 (by decide +kernel) rfl
theorem wim_MO_lookAll : Jvm.Cond.instanceMethod ({ cls := "CutPointsModel", name := "lookAll", desc := "()V" } : Jvm.MethodName) ∈ TT := TT_at 639 (by decide +kernel) rfl
theorem wcode_MO_lookAll : Jvm.Cond.code ({ cls := "CutPointsModel", name := "lookAll", desc := "()V" } : Jvm.MethodName) prog_9_method_15_code (1 : Nat) (Option.none : Option Jvm.ClassFile.FieldType) ∈ TT := TT_at 640 (by decide +kernel) rfl
theorem wml_MO_63 : Jvm.Cond.methodLink "CutPointsModel" (63 : Nat) ({ cls := "CutPointsModel", name := "look", desc := "(IIII)V" } : Jvm.MethodName) ∈ TT := TT_at 641 (by decide +kernel) rfl
theorem wim_MO_look : Jvm.Cond.instanceMethod ({ cls := "CutPointsModel", name := "look", desc := "(IIII)V" } : Jvm.MethodName) ∈ TT := TT_at 643 (by decide +kernel) rfl
theorem wcode_MO_look : Jvm.Cond.code ({ cls := "CutPointsModel", name := "look", desc := "(IIII)V" } : Jvm.MethodName) prog_9_method_12_code (8 : Nat) (Option.none : Option Jvm.ClassFile.FieldType) ∈ TT := TT_at 644 (by decide +kernel) rfl
theorem wml_MO_88 : Jvm.Cond.methodLink "CutPointsModel" (88 : Nat) ({ cls := "CutPointsModel", name := "everyNode", desc := "()I" } : Jvm.MethodName) ∈ TT := TT_at 645 (by decide +kernel) rfl
theorem wim_MO_everyNode : Jvm.Cond.instanceMethod ({ cls := "CutPointsModel", name := "everyNode", desc := "()I" } : Jvm.MethodName) ∈ TT := TT_at 647 (by decide +kernel) rfl
theorem wcode_MO_everyNode : Jvm.Cond.code ({ cls := "CutPointsModel", name := "everyNode", desc := "()I" } : Jvm.MethodName) prog_9_method_16_code (1 : Nat) (Option.some Jvm.ClassFile.FieldType.int) ∈ TT := TT_at 648 (by decide +kernel) rfl
theorem wml_MO_73 : Jvm.Cond.methodLink "CutPointsModel" (73 : Nat) ({ cls := "CutPointsModel", name := "partsOf", desc := "(I)I" } : Jvm.MethodName) ∈ TT := TT_at 649 (by decide +kernel) rfl
theorem wim_MO_partsOf : Jvm.Cond.instanceMethod ({ cls := "CutPointsModel", name := "partsOf", desc := "(I)I" } : Jvm.MethodName) ∈ TT := TT_at 651 (by decide +kernel) rfl
theorem wcode_MO_partsOf : Jvm.Cond.code ({ cls := "CutPointsModel", name := "partsOf", desc := "(I)I" } : Jvm.MethodName) prog_9_method_14_code (4 : Nat) (Option.some Jvm.ClassFile.FieldType.int) ∈ TT := TT_at 652 (by decide +kernel) rfl
theorem wml_MO_56 : Jvm.Cond.methodLink "CutPointsModel" (56 : Nat) ({ cls := "CutPointsModel", name := "least", desc := "(I)I" } : Jvm.MethodName) ∈ TT := TT_at 653 (by decide +kernel) rfl
theorem wst_MO_least : Jvm.Cond.static ({ cls := "CutPointsModel", name := "least", desc := "(I)I" } : Jvm.MethodName) ∈ TT := TT_at 654 (by decide +kernel) rfl
theorem wcode_MO_least : Jvm.Cond.code ({ cls := "CutPointsModel", name := "least", desc := "(I)I" } : Jvm.MethodName) prog_9_method_5_code (2 : Nat) (Option.some Jvm.ClassFile.FieldType.int) ∈ TT := TT_at 655 (by decide +kernel) rfl
theorem wml_MO_60 : Jvm.Cond.methodLink "CutPointsModel" (60 : Nat) ({ cls := "CutPointsModel", name := "reach", desc := "(I)I" } : Jvm.MethodName) ∈ TT := TT_at 656 (by decide +kernel) rfl
theorem wim_MO_reach : Jvm.Cond.instanceMethod ({ cls := "CutPointsModel", name := "reach", desc := "(I)I" } : Jvm.MethodName) ∈ TT := TT_at 658 (by decide +kernel) rfl
theorem wcode_MO_reach : Jvm.Cond.code ({ cls := "CutPointsModel", name := "reach", desc := "(I)I" } : Jvm.MethodName) prog_9_method_13_code (6 : Nat) (Option.some Jvm.ClassFile.FieldType.int) ∈ TT := TT_at 659 (by decide +kernel) rfl
theorem wml_MO_95 : Jvm.Cond.methodLink "CutPointsModel" (95 : Nat) ({ cls := "CutPointsModel", name := "isBridge", desc := "(I)Z" } : Jvm.MethodName) ∈ TT := TT_at 660 (by decide +kernel) rfl
theorem wim_MO_isBridge : Jvm.Cond.instanceMethod ({ cls := "CutPointsModel", name := "isBridge", desc := "(I)Z" } : Jvm.MethodName) ∈ TT := TT_at 662 (by decide +kernel) rfl
theorem wcode_MO_isBridge : Jvm.Cond.code ({ cls := "CutPointsModel", name := "isBridge", desc := "(I)Z" } : Jvm.MethodName) prog_9_method_18_code (2 : Nat) (Option.some Jvm.ClassFile.FieldType.boolean) ∈ TT := TT_at 663 (by decide +kernel) rfl
theorem wml_MO_98 : Jvm.Cond.methodLink "CutPointsModel" (98 : Nat) ({ cls := "CutPointsModel", name := "fallsOf", desc := "(I)I" } : Jvm.MethodName) ∈ TT := TT_at 664 (by decide +kernel) rfl
theorem wim_MO_fallsOf : Jvm.Cond.instanceMethod ({ cls := "CutPointsModel", name := "fallsOf", desc := "(I)I" } : Jvm.MethodName) ∈ TT := TT_at 666 (by decide +kernel) rfl
theorem wcode_MO_fallsOf : Jvm.Cond.code ({ cls := "CutPointsModel", name := "fallsOf", desc := "(I)I" } : Jvm.MethodName) prog_9_method_19_code (3 : Nat) (Option.some Jvm.ClassFile.FieldType.int) ∈ TT := TT_at 667 (by decide +kernel) rfl
theorem wml_MO_70 : Jvm.Cond.methodLink "CutPointsModel" (70 : Nat) ({ cls := "CutPointsModel", name := "partSet", desc := "(I)I" } : Jvm.MethodName) ∈ TT := TT_at 668 (by decide +kernel) rfl
theorem wim_MO_partSet : Jvm.Cond.instanceMethod ({ cls := "CutPointsModel", name := "partSet", desc := "(I)I" } : Jvm.MethodName) ∈ TT := TT_at 670 (by decide +kernel) rfl
theorem wcode_MO_partSet : Jvm.Cond.code ({ cls := "CutPointsModel", name := "partSet", desc := "(I)I" } : Jvm.MethodName) prog_9_method_17_code (2 : Nat) (Option.some Jvm.ClassFile.FieldType.int) ∈ TT := TT_at 671 (by decide +kernel) rfl
theorem wml_MO_101 : Jvm.Cond.methodLink "CutPointsModel" (101 : Nat) ({ cls := "CutPointsModel", name := "blockOf", desc := "(I)I" } : Jvm.MethodName) ∈ TT := TT_at 672 (by decide +kernel) rfl
theorem wim_MO_blockOf : Jvm.Cond.instanceMethod ({ cls := "CutPointsModel", name := "blockOf", desc := "(I)I" } : Jvm.MethodName) ∈ TT := TT_at 674 (by decide +kernel) rfl
theorem wcode_MO_blockOf : Jvm.Cond.code ({ cls := "CutPointsModel", name := "blockOf", desc := "(I)I" } : Jvm.MethodName) prog_9_method_21_code (3 : Nat) (Option.some Jvm.ClassFile.FieldType.int) ∈ TT := TT_at 675 (by decide +kernel) rfl
theorem wml_MO_76 : Jvm.Cond.methodLink "CutPointsModel" (76 : Nat) ({ cls := "CutPointsModel", name := "areBlock", desc := "(II)Z" } : Jvm.MethodName) ∈ TT := TT_at 676 (by decide +kernel) rfl
theorem wim_MO_areBlock : Jvm.Cond.instanceMethod ({ cls := "CutPointsModel", name := "areBlock", desc := "(II)Z" } : Jvm.MethodName) ∈ TT := TT_at 678 (by decide +kernel) rfl
theorem wcode_MO_areBlock : Jvm.Cond.code ({ cls := "CutPointsModel", name := "areBlock", desc := "(II)Z" } : Jvm.MethodName) prog_9_method_20_code (6 : Nat) (Option.some Jvm.ClassFile.FieldType.boolean) ∈ TT := TT_at 679 (by decide +kernel) rfl
theorem wml_MO_104 : Jvm.Cond.methodLink "CutPointsModel" (104 : Nat) ({ cls := "CutPointsModel", name := "twinParts", desc := "()I" } : Jvm.MethodName) ∈ TT := TT_at 680 (by decide +kernel) rfl
theorem wim_MO_twinParts : Jvm.Cond.instanceMethod ({ cls := "CutPointsModel", name := "twinParts", desc := "()I" } : Jvm.MethodName) ∈ TT := TT_at 682 (by decide +kernel) rfl
theorem wcode_MO_twinParts : Jvm.Cond.code ({ cls := "CutPointsModel", name := "twinParts", desc := "()I" } : Jvm.MethodName) prog_9_method_25_code (3 : Nat) (Option.some Jvm.ClassFile.FieldType.int) ∈ TT := TT_at 683 (by decide +kernel) rfl
theorem wml_MO_80 : Jvm.Cond.methodLink "CutPointsModel" (80 : Nat) ({ cls := "CutPointsModel", name := "lookTwins", desc := "(I)V" } : Jvm.MethodName) ∈ TT := TT_at 684 (by decide +kernel) rfl
theorem wim_MO_lookTwins : Jvm.Cond.instanceMethod ({ cls := "CutPointsModel", name := "lookTwins", desc := "(I)V" } : Jvm.MethodName) ∈ TT := TT_at 686 (by decide +kernel) rfl
theorem wcode_MO_lookTwins : Jvm.Cond.code ({ cls := "CutPointsModel", name := "lookTwins", desc := "(I)V" } : Jvm.MethodName) prog_9_method_22_code (4 : Nat) (Option.none : Option Jvm.ClassFile.FieldType) ∈ TT := TT_at 687 (by decide +kernel) rfl
theorem wml_MO_107 : Jvm.Cond.methodLink "CutPointsModel" (107 : Nat) ({ cls := "CutPointsModel", name := "neededWith", desc := "(I)I" } : Jvm.MethodName) ∈ TT := TT_at 688 (by decide +kernel) rfl
theorem wim_MO_neededWith : Jvm.Cond.instanceMethod ({ cls := "CutPointsModel", name := "neededWith", desc := "(I)I" } : Jvm.MethodName) ∈ TT := TT_at 690 (by decide +kernel) rfl
theorem wcode_MO_neededWith : Jvm.Cond.code ({ cls := "CutPointsModel", name := "neededWith", desc := "(I)I" } : Jvm.MethodName) prog_9_method_24_code (6 : Nat) (Option.some Jvm.ClassFile.FieldType.int) ∈ TT := TT_at 691 (by decide +kernel) rfl
theorem wml_MO_84 : Jvm.Cond.methodLink "CutPointsModel" (84 : Nat) ({ cls := "CutPointsModel", name := "out", desc := "(II)I" } : Jvm.MethodName) ∈ TT := TT_at 692 (by decide +kernel) rfl
theorem wim_MO_out : Jvm.Cond.instanceMethod ({ cls := "CutPointsModel", name := "out", desc := "(II)I" } : Jvm.MethodName) ∈ TT := TT_at 694 (by decide +kernel) rfl
theorem wcode_MO_out : Jvm.Cond.code ({ cls := "CutPointsModel", name := "out", desc := "(II)I" } : Jvm.MethodName) prog_9_method_23_code (6 : Nat) (Option.some Jvm.ClassFile.FieldType.int) ∈ TT := TT_at 695 (by decide +kernel) rfl
theorem wml_MO_110 : Jvm.Cond.methodLink "CutPointsModel" (110 : Nat) ({ cls := "CutPointsModel", name := "wornSet", desc := "()I" } : Jvm.MethodName) ∈ TT := TT_at 696 (by decide +kernel) rfl
theorem wim_MO_wornSet : Jvm.Cond.instanceMethod ({ cls := "CutPointsModel", name := "wornSet", desc := "()I" } : Jvm.MethodName) ∈ TT := TT_at 698 (by decide +kernel) rfl
theorem wcode_MO_wornSet : Jvm.Cond.code ({ cls := "CutPointsModel", name := "wornSet", desc := "()I" } : Jvm.MethodName) prog_9_method_26_code (7 : Nat) (Option.some Jvm.ClassFile.FieldType.int) ∈ TT := TT_at 699 (by decide +kernel) rfl
theorem wml_MO_92 : Jvm.Cond.methodLink "CutPointsModel" (92 : Nat) ({ cls := "CutPointsModel", name := "many", desc := "(I)I" } : Jvm.MethodName) ∈ TT := TT_at 700 (by decide +kernel) rfl
theorem wst_MO_many : Jvm.Cond.static ({ cls := "CutPointsModel", name := "many", desc := "(I)I" } : Jvm.MethodName) ∈ TT := TT_at 701 (by decide +kernel) rfl
theorem wcode_MO_many : Jvm.Cond.code ({ cls := "CutPointsModel", name := "many", desc := "(I)I" } : Jvm.MethodName) prog_9_method_4_code (3 : Nat) (Option.some Jvm.ClassFile.FieldType.int) ∈ TT := TT_at 702 (by decide +kernel) rfl
theorem wml_LW_39 : Jvm.Cond.methodLink "CutPointsLaw" (39 : Nat) ({ cls := "CutPointsModel", name := "part", desc := "(I)I" } : Jvm.MethodName) ∈ TT := TT_at 703 (by decide +kernel) rfl
theorem wim_MO_part : Jvm.Cond.instanceMethod ({ cls := "CutPointsModel", name := "part", desc := "(I)I" } : Jvm.MethodName) ∈ TT := TT_at 704 (by decide +kernel) rfl
theorem wsel_MO_part : Jvm.Cond.selects "CutPointsModel" ({ cls := "CutPointsModel", name := "part", desc := "(I)I" } : Jvm.MethodName) ({ cls := "CutPointsModel", name := "part", desc := "(I)I" } : Jvm.MethodName) ∈ TT := TT_at 705 (by decide +kernel) rfl
theorem wcode_MO_part : Jvm.Cond.code ({ cls := "CutPointsModel", name := "part", desc := "(I)I" } : Jvm.MethodName) prog_9_method_28_code (2 : Nat) (Option.some Jvm.ClassFile.FieldType.int) ∈ TT := TT_at 706 (by decide +kernel) rfl
theorem wml_LW_43 : Jvm.Cond.methodLink "CutPointsLaw" (43 : Nat) ({ cls := "CutPointsModel", name := "bridge", desc := "(I)I" } : Jvm.MethodName) ∈ TT := TT_at 707 (by decide +kernel) rfl
theorem wim_MO_bridge : Jvm.Cond.instanceMethod ({ cls := "CutPointsModel", name := "bridge", desc := "(I)I" } : Jvm.MethodName) ∈ TT := TT_at 708 (by decide +kernel) rfl
theorem wsel_MO_bridge : Jvm.Cond.selects "CutPointsModel" ({ cls := "CutPointsModel", name := "bridge", desc := "(I)I" } : Jvm.MethodName) ({ cls := "CutPointsModel", name := "bridge", desc := "(I)I" } : Jvm.MethodName) ∈ TT := TT_at 709 (by decide +kernel) rfl
theorem wcode_MO_bridge : Jvm.Cond.code ({ cls := "CutPointsModel", name := "bridge", desc := "(I)I" } : Jvm.MethodName) prog_9_method_29_code (2 : Nat) (Option.some Jvm.ClassFile.FieldType.int) ∈ TT := TT_at 710 (by decide +kernel) rfl
theorem wml_MO_113 : Jvm.Cond.methodLink "CutPointsModel" (113 : Nat) ({ cls := "CutPointsModel", name := "isThere", desc := "(I)Z" } : Jvm.MethodName) ∈ TT := TT_at 711 (by decide +kernel) rfl
theorem wim_MO_isThere : Jvm.Cond.instanceMethod ({ cls := "CutPointsModel", name := "isThere", desc := "(I)Z" } : Jvm.MethodName) ∈ TT := TT_at 713 (by decide +kernel) rfl
theorem wcode_MO_isThere : Jvm.Cond.code ({ cls := "CutPointsModel", name := "isThere", desc := "(I)Z" } : Jvm.MethodName) prog_9_method_9_code (2 : Nat) (Option.some Jvm.ClassFile.FieldType.boolean) ∈ TT := TT_at 714 (by decide +kernel) rfl
theorem wml_LW_47 : Jvm.Cond.methodLink "CutPointsLaw" (47 : Nat) ({ cls := "CutPointsModel", name := "falls", desc := "(I)I" } : Jvm.MethodName) ∈ TT := TT_at 715 (by decide +kernel) rfl
theorem wim_MO_falls : Jvm.Cond.instanceMethod ({ cls := "CutPointsModel", name := "falls", desc := "(I)I" } : Jvm.MethodName) ∈ TT := TT_at 716 (by decide +kernel) rfl
theorem wsel_MO_falls : Jvm.Cond.selects "CutPointsModel" ({ cls := "CutPointsModel", name := "falls", desc := "(I)I" } : Jvm.MethodName) ({ cls := "CutPointsModel", name := "falls", desc := "(I)I" } : Jvm.MethodName) ∈ TT := TT_at 717 (by decide +kernel) rfl
theorem wcode_MO_falls : Jvm.Cond.code ({ cls := "CutPointsModel", name := "falls", desc := "(I)I" } : Jvm.MethodName) prog_9_method_30_code (2 : Nat) (Option.some Jvm.ClassFile.FieldType.int) ∈ TT := TT_at 718 (by decide +kernel) rfl
theorem wml_LW_51 : Jvm.Cond.methodLink "CutPointsLaw" (51 : Nat) ({ cls := "CutPointsModel", name := "block", desc := "(I)I" } : Jvm.MethodName) ∈ TT := TT_at 719 (by decide +kernel) rfl
theorem wim_MO_block : Jvm.Cond.instanceMethod ({ cls := "CutPointsModel", name := "block", desc := "(I)I" } : Jvm.MethodName) ∈ TT := TT_at 720 (by decide +kernel) rfl
theorem wsel_MO_block : Jvm.Cond.selects "CutPointsModel" ({ cls := "CutPointsModel", name := "block", desc := "(I)I" } : Jvm.MethodName) ({ cls := "CutPointsModel", name := "block", desc := "(I)I" } : Jvm.MethodName) ∈ TT := TT_at 721 (by decide +kernel) rfl
theorem wcode_MO_block : Jvm.Cond.code ({ cls := "CutPointsModel", name := "block", desc := "(I)I" } : Jvm.MethodName) prog_9_method_31_code (2 : Nat) (Option.some Jvm.ClassFile.FieldType.int) ∈ TT := TT_at 722 (by decide +kernel) rfl
theorem wml_LW_55 : Jvm.Cond.methodLink "CutPointsLaw" (55 : Nat) ({ cls := "CutPointsModel", name := "twin", desc := "(I)I" } : Jvm.MethodName) ∈ TT := TT_at 723 (by decide +kernel) rfl
theorem wim_MO_twin : Jvm.Cond.instanceMethod ({ cls := "CutPointsModel", name := "twin", desc := "(I)I" } : Jvm.MethodName) ∈ TT := TT_at 724 (by decide +kernel) rfl
theorem wsel_MO_twin : Jvm.Cond.selects "CutPointsModel" ({ cls := "CutPointsModel", name := "twin", desc := "(I)I" } : Jvm.MethodName) ({ cls := "CutPointsModel", name := "twin", desc := "(I)I" } : Jvm.MethodName) ∈ TT := TT_at 725 (by decide +kernel) rfl
theorem wcode_MO_twin : Jvm.Cond.code ({ cls := "CutPointsModel", name := "twin", desc := "(I)I" } : Jvm.MethodName) prog_9_method_32_code (2 : Nat) (Option.some Jvm.ClassFile.FieldType.int) ∈ TT := TT_at 726 (by decide +kernel) rfl
theorem wml_LW_59 : Jvm.Cond.methodLink "CutPointsLaw" (59 : Nat) ({ cls := "CutPointsModel", name := "arcs", desc := "(II)I" } : Jvm.MethodName) ∈ TT := TT_at 727 (by decide +kernel) rfl
theorem wim_MO_arcs : Jvm.Cond.instanceMethod ({ cls := "CutPointsModel", name := "arcs", desc := "(II)I" } : Jvm.MethodName) ∈ TT := TT_at 728 (by decide +kernel) rfl
theorem wsel_MO_arcs : Jvm.Cond.selects "CutPointsModel" ({ cls := "CutPointsModel", name := "arcs", desc := "(II)I" } : Jvm.MethodName) ({ cls := "CutPointsModel", name := "arcs", desc := "(II)I" } : Jvm.MethodName) ∈ TT := TT_at 729 (by decide +kernel) rfl
theorem wcode_MO_arcs : Jvm.Cond.code ({ cls := "CutPointsModel", name := "arcs", desc := "(II)I" } : Jvm.MethodName) prog_9_method_34_code (3 : Nat) (Option.some Jvm.ClassFile.FieldType.int) ∈ TT := TT_at 730 (by decide +kernel) rfl
theorem wml_MO_119 : Jvm.Cond.methodLink "CutPointsModel" (119 : Nat) ({ cls := "CutPointsModel", name := "leastOut", desc := "(II)I" } : Jvm.MethodName) ∈ TT := TT_at 731 (by decide +kernel) rfl
theorem wim_MO_leastOut : Jvm.Cond.instanceMethod ({ cls := "CutPointsModel", name := "leastOut", desc := "(II)I" } : Jvm.MethodName) ∈ TT := TT_at 733 (by decide +kernel) rfl
theorem wcode_MO_leastOut : Jvm.Cond.code ({ cls := "CutPointsModel", name := "leastOut", desc := "(II)I" } : Jvm.MethodName) prog_9_method_33_code (6 : Nat) (Option.some Jvm.ClassFile.FieldType.int) ∈ TT := TT_at 734 (by decide +kernel) rfl
theorem wml_LW_63 : Jvm.Cond.methodLink "CutPointsLaw" (63 : Nat) ({ cls := "CutPointsModel", name := "side", desc := "(II)I" } : Jvm.MethodName) ∈ TT := TT_at 735 (by decide +kernel) rfl
theorem wim_MO_side : Jvm.Cond.instanceMethod ({ cls := "CutPointsModel", name := "side", desc := "(II)I" } : Jvm.MethodName) ∈ TT := TT_at 736 (by decide +kernel) rfl
theorem wsel_MO_side : Jvm.Cond.selects "CutPointsModel" ({ cls := "CutPointsModel", name := "side", desc := "(II)I" } : Jvm.MethodName) ({ cls := "CutPointsModel", name := "side", desc := "(II)I" } : Jvm.MethodName) ∈ TT := TT_at 737 (by decide +kernel) rfl
theorem wcode_MO_side : Jvm.Cond.code ({ cls := "CutPointsModel", name := "side", desc := "(II)I" } : Jvm.MethodName) prog_9_method_35_code (3 : Nat) (Option.some Jvm.ClassFile.FieldType.int) ∈ TT := TT_at 738 (by decide +kernel) rfl
theorem wml_LW_67 : Jvm.Cond.methodLink "CutPointsLaw" (67 : Nat) ({ cls := "CutPointsModel", name := "nodes", desc := "(II)I" } : Jvm.MethodName) ∈ TT := TT_at 739 (by decide +kernel) rfl
theorem wim_MO_nodes : Jvm.Cond.instanceMethod ({ cls := "CutPointsModel", name := "nodes", desc := "(II)I" } : Jvm.MethodName) ∈ TT := TT_at 740 (by decide +kernel) rfl
theorem wsel_MO_nodes : Jvm.Cond.selects "CutPointsModel" ({ cls := "CutPointsModel", name := "nodes", desc := "(II)I" } : Jvm.MethodName) ({ cls := "CutPointsModel", name := "nodes", desc := "(II)I" } : Jvm.MethodName) ∈ TT := TT_at 741 (by decide +kernel) rfl
theorem wcode_MO_nodes : Jvm.Cond.code ({ cls := "CutPointsModel", name := "nodes", desc := "(II)I" } : Jvm.MethodName) prog_9_method_37_code (6 : Nat) (Option.some Jvm.ClassFile.FieldType.int) ∈ TT := TT_at 742 (by decide +kernel) rfl
theorem wml_MO_122 : Jvm.Cond.methodLink "CutPointsModel" (122 : Nat) ({ cls := "CutPointsModel", name := "arePartedBy", desc := "(III)Z" } : Jvm.MethodName) ∈ TT := TT_at 743 (by decide +kernel) rfl
theorem wim_MO_arePartedBy : Jvm.Cond.instanceMethod ({ cls := "CutPointsModel", name := "arePartedBy", desc := "(III)Z" } : Jvm.MethodName) ∈ TT := TT_at 745 (by decide +kernel) rfl
theorem wcode_MO_arePartedBy : Jvm.Cond.code ({ cls := "CutPointsModel", name := "arePartedBy", desc := "(III)Z" } : Jvm.MethodName) prog_9_method_36_code (4 : Nat) (Option.some Jvm.ClassFile.FieldType.boolean) ∈ TT := TT_at 746 (by decide +kernel) rfl
theorem wml_LW_71 : Jvm.Cond.methodLink "CutPointsLaw" (71 : Nat) ({ cls := "CutPointsModel", name := "between", desc := "(II)I" } : Jvm.MethodName) ∈ TT := TT_at 747 (by decide +kernel) rfl
theorem wim_MO_between : Jvm.Cond.instanceMethod ({ cls := "CutPointsModel", name := "between", desc := "(II)I" } : Jvm.MethodName) ∈ TT := TT_at 748 (by decide +kernel) rfl
theorem wsel_MO_between : Jvm.Cond.selects "CutPointsModel" ({ cls := "CutPointsModel", name := "between", desc := "(II)I" } : Jvm.MethodName) ({ cls := "CutPointsModel", name := "between", desc := "(II)I" } : Jvm.MethodName) ∈ TT := TT_at 749 (by decide +kernel) rfl
theorem wcode_MO_between : Jvm.Cond.code ({ cls := "CutPointsModel", name := "between", desc := "(II)I" } : Jvm.MethodName) prog_9_method_38_code (5 : Nat) (Option.some Jvm.ClassFile.FieldType.int) ∈ TT := TT_at 750 (by decide +kernel) rfl
theorem wml_LW_75 : Jvm.Cond.methodLink "CutPointsLaw" (75 : Nat) ({ cls := "CutPointsModel", name := "mends", desc := "(II)I" } : Jvm.MethodName) ∈ TT := TT_at 751 (by decide +kernel) rfl
theorem wim_MO_mends : Jvm.Cond.instanceMethod ({ cls := "CutPointsModel", name := "mends", desc := "(II)I" } : Jvm.MethodName) ∈ TT := TT_at 752 (by decide +kernel) rfl
theorem wsel_MO_mends : Jvm.Cond.selects "CutPointsModel" ({ cls := "CutPointsModel", name := "mends", desc := "(II)I" } : Jvm.MethodName) ({ cls := "CutPointsModel", name := "mends", desc := "(II)I" } : Jvm.MethodName) ∈ TT := TT_at 753 (by decide +kernel) rfl
theorem wcode_MO_mends : Jvm.Cond.code ({ cls := "CutPointsModel", name := "mends", desc := "(II)I" } : Jvm.MethodName) prog_9_method_39_code (4 : Nat) (Option.some Jvm.ClassFile.FieldType.int) ∈ TT := TT_at 754 (by decide +kernel) rfl
theorem wml_LW_79 : Jvm.Cond.methodLink "CutPointsLaw" (79 : Nat) ({ cls := "CutPointsModel", name := "way", desc := "(I)I" } : Jvm.MethodName) ∈ TT := TT_at 755 (by decide +kernel) rfl
theorem wim_MO_way : Jvm.Cond.instanceMethod ({ cls := "CutPointsModel", name := "way", desc := "(I)I" } : Jvm.MethodName) ∈ TT := TT_at 756 (by decide +kernel) rfl
theorem wsel_MO_way : Jvm.Cond.selects "CutPointsModel" ({ cls := "CutPointsModel", name := "way", desc := "(I)I" } : Jvm.MethodName) ({ cls := "CutPointsModel", name := "way", desc := "(I)I" } : Jvm.MethodName) ∈ TT := TT_at 757 (by decide +kernel) rfl
theorem wcode_MO_way : Jvm.Cond.code ({ cls := "CutPointsModel", name := "way", desc := "(I)I" } : Jvm.MethodName) prog_9_method_42_code (5 : Nat) (Option.some Jvm.ClassFile.FieldType.int) ∈ TT := TT_at 758 (by decide +kernel) rfl
theorem wml_MO_125 : Jvm.Cond.methodLink "CutPointsModel" (125 : Nat) ({ cls := "CutPointsModel", name := "hasBridge", desc := "(I)Z" } : Jvm.MethodName) ∈ TT := TT_at 759 (by decide +kernel) rfl
theorem wim_MO_hasBridge : Jvm.Cond.instanceMethod ({ cls := "CutPointsModel", name := "hasBridge", desc := "(I)Z" } : Jvm.MethodName) ∈ TT := TT_at 761 (by decide +kernel) rfl
theorem wcode_MO_hasBridge : Jvm.Cond.code ({ cls := "CutPointsModel", name := "hasBridge", desc := "(I)Z" } : Jvm.MethodName) prog_9_method_41_code (3 : Nat) (Option.some Jvm.ClassFile.FieldType.boolean) ∈ TT := TT_at 762 (by decide +kernel) rfl
theorem wml_MO_128 : Jvm.Cond.methodLink "CutPointsModel" (128 : Nat) ({ cls := "CutPointsModel", name := "comesToAll", desc := "(IIZ)Z" } : Jvm.MethodName) ∈ TT := TT_at 763 (by decide +kernel) rfl
theorem wim_MO_comesToAll : Jvm.Cond.instanceMethod ({ cls := "CutPointsModel", name := "comesToAll", desc := "(IIZ)Z" } : Jvm.MethodName) ∈ TT := TT_at 765 (by decide +kernel) rfl
theorem wcode_MO_comesToAll : Jvm.Cond.code ({ cls := "CutPointsModel", name := "comesToAll", desc := "(IIZ)Z" } : Jvm.MethodName) prog_9_method_40_code (10 : Nat) (Option.some Jvm.ClassFile.FieldType.boolean) ∈ TT := TT_at 766 (by decide +kernel) rfl
theorem wml_LW_83 : Jvm.Cond.methodLink "CutPointsLaw" (83 : Nat) ({ cls := "CutPointsModel", name := "together", desc := "(II)I" } : Jvm.MethodName) ∈ TT := TT_at 767 (by decide +kernel) rfl
theorem wim_MO_together : Jvm.Cond.instanceMethod ({ cls := "CutPointsModel", name := "together", desc := "(II)I" } : Jvm.MethodName) ∈ TT := TT_at 768 (by decide +kernel) rfl
theorem wsel_MO_together : Jvm.Cond.selects "CutPointsModel" ({ cls := "CutPointsModel", name := "together", desc := "(II)I" } : Jvm.MethodName) ({ cls := "CutPointsModel", name := "together", desc := "(II)I" } : Jvm.MethodName) ∈ TT := TT_at 769 (by decide +kernel) rfl
theorem wcode_MO_together : Jvm.Cond.code ({ cls := "CutPointsModel", name := "together", desc := "(II)I" } : Jvm.MethodName) prog_9_method_48_code (3 : Nat) (Option.some Jvm.ClassFile.FieldType.int) ∈ TT := TT_at 770 (by decide +kernel) rfl
theorem wml_MO_141 : Jvm.Cond.methodLink "CutPointsModel" (141 : Nat) ({ cls := "CutPointsModel", name := "layBlock", desc := "(I)V" } : Jvm.MethodName) ∈ TT := TT_at 771 (by decide +kernel) rfl
theorem wim_MO_layBlock : Jvm.Cond.instanceMethod ({ cls := "CutPointsModel", name := "layBlock", desc := "(I)V" } : Jvm.MethodName) ∈ TT := TT_at 773 (by decide +kernel) rfl
theorem wcode_MO_layBlock : Jvm.Cond.code ({ cls := "CutPointsModel", name := "layBlock", desc := "(I)V" } : Jvm.MethodName) prog_9_method_43_code (3 : Nat) (Option.none : Option Jvm.ClassFile.FieldType) ∈ TT := TT_at 774 (by decide +kernel) rfl
theorem wml_MO_144 : Jvm.Cond.methodLink "CutPointsModel" (144 : Nat) ({ cls := "CutPointsModel", name := "laySplits", desc := "()V" } : Jvm.MethodName) ∈ TT := TT_at 775 (by decide +kernel) rfl
theorem wim_MO_laySplits : Jvm.Cond.instanceMethod ({ cls := "CutPointsModel", name := "laySplits", desc := "()V" } : Jvm.MethodName) ∈ TT := TT_at 777 (by decide +kernel) rfl
theorem wcode_MO_laySplits : Jvm.Cond.code ({ cls := "CutPointsModel", name := "laySplits", desc := "()V" } : Jvm.MethodName) prog_9_method_45_code (7 : Nat) (Option.none : Option Jvm.ClassFile.FieldType) ∈ TT := TT_at 778 (by decide +kernel) rfl
theorem wml_MO_138 : Jvm.Cond.methodLink "CutPointsModel" (138 : Nat) ({ cls := "CutPointsModel", name := "touched", desc := "(I)I" } : Jvm.MethodName) ∈ TT := TT_at 779 (by decide +kernel) rfl
theorem wim_MO_touched : Jvm.Cond.instanceMethod ({ cls := "CutPointsModel", name := "touched", desc := "(I)I" } : Jvm.MethodName) ∈ TT := TT_at 781 (by decide +kernel) rfl
theorem wcode_MO_touched : Jvm.Cond.code ({ cls := "CutPointsModel", name := "touched", desc := "(I)I" } : Jvm.MethodName) prog_9_method_44_code (4 : Nat) (Option.some Jvm.ClassFile.FieldType.int) ∈ TT := TT_at 782 (by decide +kernel) rfl
theorem wml_MO_147 : Jvm.Cond.methodLink "CutPointsModel" (147 : Nat) ({ cls := "CutPointsModel", name := "placeOf", desc := "(I)I" } : Jvm.MethodName) ∈ TT := TT_at 783 (by decide +kernel) rfl
theorem wim_MO_placeOf : Jvm.Cond.instanceMethod ({ cls := "CutPointsModel", name := "placeOf", desc := "(I)I" } : Jvm.MethodName) ∈ TT := TT_at 785 (by decide +kernel) rfl
theorem wcode_MO_placeOf : Jvm.Cond.code ({ cls := "CutPointsModel", name := "placeOf", desc := "(I)I" } : Jvm.MethodName) prog_9_method_47_code (3 : Nat) (Option.some Jvm.ClassFile.FieldType.int) ∈ TT := TT_at 786 (by decide +kernel) rfl
theorem wml_MO_150 : Jvm.Cond.methodLink "CutPointsModel" (150 : Nat) ({ cls := "CutPointsModel", name := "areTogether", desc := "(II)Z" } : Jvm.MethodName) ∈ TT := TT_at 787 (by decide +kernel) rfl
theorem wim_MO_areTogether : Jvm.Cond.instanceMethod ({ cls := "CutPointsModel", name := "areTogether", desc := "(II)Z" } : Jvm.MethodName) ∈ TT := TT_at 789 (by decide +kernel) rfl
theorem wcode_MO_areTogether : Jvm.Cond.code ({ cls := "CutPointsModel", name := "areTogether", desc := "(II)Z" } : Jvm.MethodName) prog_9_method_46_code (4 : Nat) (Option.some Jvm.ClassFile.FieldType.boolean) ∈ TT := TT_at 790 (by decide +kernel) rfl
theorem wml_LW_87 : Jvm.Cond.methodLink "CutPointsLaw" (87 : Nat) ({ cls := "CutPointsModel", name := "splits", desc := "(II)I" } : Jvm.MethodName) ∈ TT := TT_at 791 (by decide +kernel) rfl
theorem wim_MO_splits : Jvm.Cond.instanceMethod ({ cls := "CutPointsModel", name := "splits", desc := "(II)I" } : Jvm.MethodName) ∈ TT := TT_at 792 (by decide +kernel) rfl
theorem wsel_MO_splits : Jvm.Cond.selects "CutPointsModel" ({ cls := "CutPointsModel", name := "splits", desc := "(II)I" } : Jvm.MethodName) ({ cls := "CutPointsModel", name := "splits", desc := "(II)I" } : Jvm.MethodName) ∈ TT := TT_at 793 (by decide +kernel) rfl
theorem wcode_MO_splits : Jvm.Cond.code ({ cls := "CutPointsModel", name := "splits", desc := "(II)I" } : Jvm.MethodName) prog_9_method_49_code (7 : Nat) (Option.some Jvm.ClassFile.FieldType.int) ∈ TT := TT_at 794 (by decide +kernel) rfl
theorem wml_LW_91 : Jvm.Cond.methodLink "CutPointsLaw" (91 : Nat) ({ cls := "CutPointsModel", name := "worn", desc := "()I" } : Jvm.MethodName) ∈ TT := TT_at 795 (by decide +kernel) rfl
theorem wim_MO_worn : Jvm.Cond.instanceMethod ({ cls := "CutPointsModel", name := "worn", desc := "()I" } : Jvm.MethodName) ∈ TT := TT_at 796 (by decide +kernel) rfl
theorem wsel_MO_worn : Jvm.Cond.selects "CutPointsModel" ({ cls := "CutPointsModel", name := "worn", desc := "()I" } : Jvm.MethodName) ({ cls := "CutPointsModel", name := "worn", desc := "()I" } : Jvm.MethodName) ∈ TT := TT_at 797 (by decide +kernel) rfl
theorem wcode_MO_worn : Jvm.Cond.code ({ cls := "CutPointsModel", name := "worn", desc := "()I" } : Jvm.MethodName) prog_9_method_50_code (1 : Nat) (Option.some Jvm.ClassFile.FieldType.int) ∈ TT := TT_at 798 (by decide +kernel) rfl
theorem wsel_CP_redraw : Jvm.Cond.selects "CutPoints" ({ cls := "CutPoints", name := "redraw", desc := "()V" } : Jvm.MethodName) ({ cls := "CutPoints", name := "redraw", desc := "()V" } : Jvm.MethodName) ∈ TT := TT_at 0 (by decide +kernel) rfl
theorem wsel_SK_fillArcs : Jvm.Cond.selects "CutPoints$Sketch" ({ cls := "CutPoints$Sketch", name := "fillArcs", desc := "(LCutPoints$Graph;J)V" } : Jvm.MethodName) ({ cls := "CutPoints$Sketch", name := "fillArcs", desc := "(LCutPoints$Graph;J)V" } : Jvm.MethodName) ∈ TT := TT_at 1 (by decide +kernel) rfl
theorem wsel_SK_findBlocks : Jvm.Cond.selects "CutPoints$Sketch" ({ cls := "CutPoints$Sketch", name := "findBlocks", desc := "()V" } : Jvm.MethodName) ({ cls := "CutPoints$Sketch", name := "findBlocks", desc := "()V" } : Jvm.MethodName) ∈ TT := TT_at 2 (by decide +kernel) rfl
theorem wsel_SK_loneArcs : Jvm.Cond.selects "CutPoints$Sketch" ({ cls := "CutPoints$Sketch", name := "loneArcs", desc := "()J" } : Jvm.MethodName) ({ cls := "CutPoints$Sketch", name := "loneArcs", desc := "()J" } : Jvm.MethodName) ∈ TT := TT_at 3 (by decide +kernel) rfl
theorem wsel_CP_pairCode : Jvm.Cond.selects "CutPoints" ({ cls := "CutPoints", name := "pairCode", desc := "(II)I" } : Jvm.MethodName) ({ cls := "CutPoints", name := "pairCode", desc := "(II)I" } : Jvm.MethodName) ∈ TT := TT_at 4 (by decide +kernel) rfl
theorem wsel_SK_thinNode : Jvm.Cond.selects "CutPoints$Sketch" ({ cls := "CutPoints$Sketch", name := "thinNode", desc := "(I)I" } : Jvm.MethodName) ({ cls := "CutPoints$Sketch", name := "thinNode", desc := "(I)I" } : Jvm.MethodName) ∈ TT := TT_at 5 (by decide +kernel) rfl
theorem wsel_SK_linkAll : Jvm.Cond.selects "CutPoints$Sketch" ({ cls := "CutPoints$Sketch", name := "linkAll", desc := "(I)V" } : Jvm.MethodName) ({ cls := "CutPoints$Sketch", name := "linkAll", desc := "(I)V" } : Jvm.MethodName) ∈ TT := TT_at 6 (by decide +kernel) rfl
theorem wsel_FL_forget : Jvm.Cond.selects "CutPoints$Flow" ({ cls := "CutPoints$Flow", name := "forget", desc := "()V" } : Jvm.MethodName) ({ cls := "CutPoints$Flow", name := "forget", desc := "()V" } : Jvm.MethodName) ∈ TT := TT_at 7 (by decide +kernel) rfl
theorem wsel_FL_change : Jvm.Cond.selects "CutPoints$Flow" ({ cls := "CutPoints$Flow", name := "change", desc := "(III)V" } : Jvm.MethodName) ({ cls := "CutPoints$Flow", name := "change", desc := "(III)V" } : Jvm.MethodName) ∈ TT := TT_at 8 (by decide +kernel) rfl
theorem wsel_FL_search : Jvm.Cond.selects "CutPoints$Flow" ({ cls := "CutPoints$Flow", name := "search", desc := "(II)Z" } : Jvm.MethodName) ({ cls := "CutPoints$Flow", name := "search", desc := "(II)Z" } : Jvm.MethodName) ∈ TT := TT_at 9 (by decide +kernel) rfl
theorem wsel_FL_comeFrom : Jvm.Cond.selects "CutPoints$Flow" ({ cls := "CutPoints$Flow", name := "comeFrom", desc := "(II)V" } : Jvm.MethodName) ({ cls := "CutPoints$Flow", name := "comeFrom", desc := "(II)V" } : Jvm.MethodName) ∈ TT := TT_at 10 (by decide +kernel) rfl
theorem wsel_FL_push : Jvm.Cond.selects "CutPoints$Flow" ({ cls := "CutPoints$Flow", name := "push", desc := "(II)V" } : Jvm.MethodName) ({ cls := "CutPoints$Flow", name := "push", desc := "(II)V" } : Jvm.MethodName) ∈ TT := TT_at 11 (by decide +kernel) rfl
theorem wsel_CO_fillLeads : Jvm.Cond.selects "CutPoints$Compass" ({ cls := "CutPoints$Compass", name := "fillLeads", desc := "(LCutPoints$Graph;JJ)V" } : Jvm.MethodName) ({ cls := "CutPoints$Compass", name := "fillLeads", desc := "(LCutPoints$Graph;JJ)V" } : Jvm.MethodName) ∈ TT := TT_at 12 (by decide +kernel) rfl
theorem wsel_SP_findPieces : Jvm.Cond.selects "CutPoints$Splitter" ({ cls := "CutPoints$Splitter", name := "findPieces", desc := "(LCutPoints$Sketch;)V" } : Jvm.MethodName) ({ cls := "CutPoints$Splitter", name := "findPieces", desc := "(LCutPoints$Sketch;)V" } : Jvm.MethodName) ∈ TT := TT_at 13 (by decide +kernel) rfl
theorem wsel_SP_cutAt : Jvm.Cond.selects "CutPoints$Splitter" ({ cls := "CutPoints$Splitter", name := "cutAt", desc := "(LCutPoints$Sketch;II)V" } : Jvm.MethodName) ({ cls := "CutPoints$Splitter", name := "cutAt", desc := "(LCutPoints$Sketch;II)V" } : Jvm.MethodName) ∈ TT := TT_at 14 (by decide +kernel) rfl
theorem wsel_SP_keepPieces : Jvm.Cond.selects "CutPoints$Splitter" ({ cls := "CutPoints$Splitter", name := "keepPieces", desc := "()V" } : Jvm.MethodName) ({ cls := "CutPoints$Splitter", name := "keepPieces", desc := "()V" } : Jvm.MethodName) ∈ TT := TT_at 15 (by decide +kernel) rfl
theorem wsel_SP_keepGood : Jvm.Cond.selects "CutPoints$Splitter" ({ cls := "CutPoints$Splitter", name := "keepGood", desc := "(II)V" } : Jvm.MethodName) ({ cls := "CutPoints$Splitter", name := "keepGood", desc := "(II)V" } : Jvm.MethodName) ∈ TT := TT_at 16 (by decide +kernel) rfl
theorem wsel_SP_isCrossed : Jvm.Cond.selects "CutPoints$Splitter" ({ cls := "CutPoints$Splitter", name := "isCrossed", desc := "(J)Z" } : Jvm.MethodName) ({ cls := "CutPoints$Splitter", name := "isCrossed", desc := "(J)Z" } : Jvm.MethodName) ∈ TT := TT_at 17 (by decide +kernel) rfl
theorem wsel_SP_isCrossedAt : Jvm.Cond.selects "CutPoints$Splitter" ({ cls := "CutPoints$Splitter", name := "isCrossedAt", desc := "(JII)Z" } : Jvm.MethodName) ({ cls := "CutPoints$Splitter", name := "isCrossedAt", desc := "(JII)Z" } : Jvm.MethodName) ∈ TT := TT_at 18 (by decide +kernel) rfl
theorem wsel_MO_isNode : Jvm.Cond.selects "CutPointsModel" ({ cls := "CutPointsModel", name := "isNode", desc := "(I)Z" } : Jvm.MethodName) ({ cls := "CutPointsModel", name := "isNode", desc := "(I)Z" } : Jvm.MethodName) ∈ TT := TT_at 19 (by decide +kernel) rfl
theorem wsel_MO_lookAll : Jvm.Cond.selects "CutPointsModel" ({ cls := "CutPointsModel", name := "lookAll", desc := "()V" } : Jvm.MethodName) ({ cls := "CutPointsModel", name := "lookAll", desc := "()V" } : Jvm.MethodName) ∈ TT := TT_at 20 (by decide +kernel) rfl
theorem wsel_MO_look : Jvm.Cond.selects "CutPointsModel" ({ cls := "CutPointsModel", name := "look", desc := "(IIII)V" } : Jvm.MethodName) ({ cls := "CutPointsModel", name := "look", desc := "(IIII)V" } : Jvm.MethodName) ∈ TT := TT_at 21 (by decide +kernel) rfl
theorem wsel_MO_everyNode : Jvm.Cond.selects "CutPointsModel" ({ cls := "CutPointsModel", name := "everyNode", desc := "()I" } : Jvm.MethodName) ({ cls := "CutPointsModel", name := "everyNode", desc := "()I" } : Jvm.MethodName) ∈ TT := TT_at 22 (by decide +kernel) rfl
theorem wsel_MO_partsOf : Jvm.Cond.selects "CutPointsModel" ({ cls := "CutPointsModel", name := "partsOf", desc := "(I)I" } : Jvm.MethodName) ({ cls := "CutPointsModel", name := "partsOf", desc := "(I)I" } : Jvm.MethodName) ∈ TT := TT_at 23 (by decide +kernel) rfl
theorem wsel_MO_reach : Jvm.Cond.selects "CutPointsModel" ({ cls := "CutPointsModel", name := "reach", desc := "(I)I" } : Jvm.MethodName) ({ cls := "CutPointsModel", name := "reach", desc := "(I)I" } : Jvm.MethodName) ∈ TT := TT_at 24 (by decide +kernel) rfl
theorem wsel_MO_isBridge : Jvm.Cond.selects "CutPointsModel" ({ cls := "CutPointsModel", name := "isBridge", desc := "(I)Z" } : Jvm.MethodName) ({ cls := "CutPointsModel", name := "isBridge", desc := "(I)Z" } : Jvm.MethodName) ∈ TT := TT_at 25 (by decide +kernel) rfl
theorem wsel_MO_fallsOf : Jvm.Cond.selects "CutPointsModel" ({ cls := "CutPointsModel", name := "fallsOf", desc := "(I)I" } : Jvm.MethodName) ({ cls := "CutPointsModel", name := "fallsOf", desc := "(I)I" } : Jvm.MethodName) ∈ TT := TT_at 26 (by decide +kernel) rfl
theorem wsel_MO_partSet : Jvm.Cond.selects "CutPointsModel" ({ cls := "CutPointsModel", name := "partSet", desc := "(I)I" } : Jvm.MethodName) ({ cls := "CutPointsModel", name := "partSet", desc := "(I)I" } : Jvm.MethodName) ∈ TT := TT_at 27 (by decide +kernel) rfl
theorem wsel_MO_blockOf : Jvm.Cond.selects "CutPointsModel" ({ cls := "CutPointsModel", name := "blockOf", desc := "(I)I" } : Jvm.MethodName) ({ cls := "CutPointsModel", name := "blockOf", desc := "(I)I" } : Jvm.MethodName) ∈ TT := TT_at 28 (by decide +kernel) rfl
theorem wsel_MO_areBlock : Jvm.Cond.selects "CutPointsModel" ({ cls := "CutPointsModel", name := "areBlock", desc := "(II)Z" } : Jvm.MethodName) ({ cls := "CutPointsModel", name := "areBlock", desc := "(II)Z" } : Jvm.MethodName) ∈ TT := TT_at 29 (by decide +kernel) rfl
theorem wsel_MO_twinParts : Jvm.Cond.selects "CutPointsModel" ({ cls := "CutPointsModel", name := "twinParts", desc := "()I" } : Jvm.MethodName) ({ cls := "CutPointsModel", name := "twinParts", desc := "()I" } : Jvm.MethodName) ∈ TT := TT_at 30 (by decide +kernel) rfl
theorem wsel_MO_lookTwins : Jvm.Cond.selects "CutPointsModel" ({ cls := "CutPointsModel", name := "lookTwins", desc := "(I)V" } : Jvm.MethodName) ({ cls := "CutPointsModel", name := "lookTwins", desc := "(I)V" } : Jvm.MethodName) ∈ TT := TT_at 31 (by decide +kernel) rfl
theorem wsel_MO_neededWith : Jvm.Cond.selects "CutPointsModel" ({ cls := "CutPointsModel", name := "neededWith", desc := "(I)I" } : Jvm.MethodName) ({ cls := "CutPointsModel", name := "neededWith", desc := "(I)I" } : Jvm.MethodName) ∈ TT := TT_at 32 (by decide +kernel) rfl
theorem wsel_MO_out : Jvm.Cond.selects "CutPointsModel" ({ cls := "CutPointsModel", name := "out", desc := "(II)I" } : Jvm.MethodName) ({ cls := "CutPointsModel", name := "out", desc := "(II)I" } : Jvm.MethodName) ∈ TT := TT_at 33 (by decide +kernel) rfl
theorem wsel_MO_wornSet : Jvm.Cond.selects "CutPointsModel" ({ cls := "CutPointsModel", name := "wornSet", desc := "()I" } : Jvm.MethodName) ({ cls := "CutPointsModel", name := "wornSet", desc := "()I" } : Jvm.MethodName) ∈ TT := TT_at 34 (by decide +kernel) rfl
theorem wsel_MO_isThere : Jvm.Cond.selects "CutPointsModel" ({ cls := "CutPointsModel", name := "isThere", desc := "(I)Z" } : Jvm.MethodName) ({ cls := "CutPointsModel", name := "isThere", desc := "(I)Z" } : Jvm.MethodName) ∈ TT := TT_at 35 (by decide +kernel) rfl
theorem wsel_MO_leastOut : Jvm.Cond.selects "CutPointsModel" ({ cls := "CutPointsModel", name := "leastOut", desc := "(II)I" } : Jvm.MethodName) ({ cls := "CutPointsModel", name := "leastOut", desc := "(II)I" } : Jvm.MethodName) ∈ TT := TT_at 36 (by decide +kernel) rfl
theorem wsel_MO_arePartedBy : Jvm.Cond.selects "CutPointsModel" ({ cls := "CutPointsModel", name := "arePartedBy", desc := "(III)Z" } : Jvm.MethodName) ({ cls := "CutPointsModel", name := "arePartedBy", desc := "(III)Z" } : Jvm.MethodName) ∈ TT := TT_at 37 (by decide +kernel) rfl
theorem wsel_MO_hasBridge : Jvm.Cond.selects "CutPointsModel" ({ cls := "CutPointsModel", name := "hasBridge", desc := "(I)Z" } : Jvm.MethodName) ({ cls := "CutPointsModel", name := "hasBridge", desc := "(I)Z" } : Jvm.MethodName) ∈ TT := TT_at 38 (by decide +kernel) rfl
theorem wsel_MO_comesToAll : Jvm.Cond.selects "CutPointsModel" ({ cls := "CutPointsModel", name := "comesToAll", desc := "(IIZ)Z" } : Jvm.MethodName) ({ cls := "CutPointsModel", name := "comesToAll", desc := "(IIZ)Z" } : Jvm.MethodName) ∈ TT := TT_at 39 (by decide +kernel) rfl
theorem wsel_MO_layBlock : Jvm.Cond.selects "CutPointsModel" ({ cls := "CutPointsModel", name := "layBlock", desc := "(I)V" } : Jvm.MethodName) ({ cls := "CutPointsModel", name := "layBlock", desc := "(I)V" } : Jvm.MethodName) ∈ TT := TT_at 40 (by decide +kernel) rfl
theorem wsel_MO_laySplits : Jvm.Cond.selects "CutPointsModel" ({ cls := "CutPointsModel", name := "laySplits", desc := "()V" } : Jvm.MethodName) ({ cls := "CutPointsModel", name := "laySplits", desc := "()V" } : Jvm.MethodName) ∈ TT := TT_at 41 (by decide +kernel) rfl
theorem wsel_MO_touched : Jvm.Cond.selects "CutPointsModel" ({ cls := "CutPointsModel", name := "touched", desc := "(I)I" } : Jvm.MethodName) ({ cls := "CutPointsModel", name := "touched", desc := "(I)I" } : Jvm.MethodName) ∈ TT := TT_at 42 (by decide +kernel) rfl
theorem wsel_MO_placeOf : Jvm.Cond.selects "CutPointsModel" ({ cls := "CutPointsModel", name := "placeOf", desc := "(I)I" } : Jvm.MethodName) ({ cls := "CutPointsModel", name := "placeOf", desc := "(I)I" } : Jvm.MethodName) ∈ TT := TT_at 43 (by decide +kernel) rfl
theorem wsel_MO_areTogether : Jvm.Cond.selects "CutPointsModel" ({ cls := "CutPointsModel", name := "areTogether", desc := "(II)Z" } : Jvm.MethodName) ({ cls := "CutPointsModel", name := "areTogether", desc := "(II)Z" } : Jvm.MethodName) ∈ TT := TT_at 44 (by decide +kernel) rfl
def NW : List Cond := [(Jvm.Cond.methodLinkNest "CutPoints" (11 : Nat) ({ cls := "CutPoints$Graph", name := "<init>", desc := "()V" } : Jvm.MethodName) "CutPoints"), (Jvm.Cond.methodLinkNest "CutPoints" (18 : Nat) ({ cls := "CutPoints$Sketch", name := "<init>", desc := "()V" } : Jvm.MethodName) "CutPoints"), (Jvm.Cond.methodLinkNest "CutPoints$Sketch" (27 : Nat) ({ cls := "CutPoints$Groups", name := "<init>", desc := "()V" } : Jvm.MethodName) "CutPoints"), (Jvm.Cond.methodLinkNest "CutPoints" (28 : Nat) ({ cls := "CutPoints$Flow", name := "<init>", desc := "()V" } : Jvm.MethodName) "CutPoints"), (Jvm.Cond.methodLinkNest "CutPoints" (35 : Nat) ({ cls := "CutPoints$Compass", name := "<init>", desc := "()V" } : Jvm.MethodName) "CutPoints"), (Jvm.Cond.methodLinkNest "CutPoints" (42 : Nat) ({ cls := "CutPoints$Splitter", name := "<init>", desc := "()V" } : Jvm.MethodName) "CutPoints"), (Jvm.Cond.methodLinkNest "CutPoints$Splitter" (13 : Nat) ({ cls := "CutPoints$Groups", name := "<init>", desc := "()V" } : Jvm.MethodName) "CutPoints"), (Jvm.Cond.methodLinkNest "CutPoints$Sketch" (68 : Nat) ({ cls := "CutPoints", name := "hasBit", desc := "(JI)Z" } : Jvm.MethodName) "CutPoints"), (Jvm.Cond.methodLinkNest "CutPoints$Sketch" (84 : Nat) ({ cls := "CutPoints", name := "spread", desc := "([III)I" } : Jvm.MethodName) "CutPoints"), (Jvm.Cond.methodLinkNest "CutPoints$Graph" (33 : Nat) ({ cls := "CutPoints", name := "hasBit", desc := "(JI)Z" } : Jvm.MethodName) "CutPoints"), (Jvm.Cond.methodLinkNest "CutPoints$Sketch" (108 : Nat) ({ cls := "CutPoints", name := "countPieces", desc := "([II)I" } : Jvm.MethodName) "CutPoints"), (Jvm.Cond.methodLinkNest "CutPoints$Groups" (19 : Nat) ({ cls := "CutPoints", name := "hasBit", desc := "(JI)Z" } : Jvm.MethodName) "CutPoints"), (Jvm.Cond.methodLinkNest "CutPoints$Flow" (30 : Nat) ({ cls := "CutPoints", name := "hasBit", desc := "(JI)Z" } : Jvm.MethodName) "CutPoints"), (Jvm.Cond.methodLinkNest "CutPoints$Compass" (15 : Nat) ({ cls := "CutPoints", name := "hasBit", desc := "(JI)Z" } : Jvm.MethodName) "CutPoints"), (Jvm.Cond.methodLinkNest "CutPoints$Compass" (30 : Nat) ({ cls := "CutPoints", name := "spread", desc := "([III)I" } : Jvm.MethodName) "CutPoints"), (Jvm.Cond.methodLinkNest "CutPoints$Splitter" (48 : Nat) ({ cls := "CutPoints", name := "hasBit", desc := "(JI)Z" } : Jvm.MethodName) "CutPoints")]
theorem NW_in : ∀ w ∈ NW, w ∈ lw_tbl := by decide +kernel
theorem wmn_CP_11 : (Jvm.Cond.methodLinkNest "CutPoints" (11 : Nat) ({ cls := "CutPoints$Graph", name := "<init>", desc := "()V" } : Jvm.MethodName) "CutPoints") ∈ NW := List.mem_of_getElem? (i := 0) rfl
theorem wmn_CP_18 : (Jvm.Cond.methodLinkNest "CutPoints" (18 : Nat) ({ cls := "CutPoints$Sketch", name := "<init>", desc := "()V" } : Jvm.MethodName) "CutPoints") ∈ NW := List.mem_of_getElem? (i := 1) rfl
theorem wmn_SK_27 : (Jvm.Cond.methodLinkNest "CutPoints$Sketch" (27 : Nat) ({ cls := "CutPoints$Groups", name := "<init>", desc := "()V" } : Jvm.MethodName) "CutPoints") ∈ NW := List.mem_of_getElem? (i := 2) rfl
theorem wmn_CP_28 : (Jvm.Cond.methodLinkNest "CutPoints" (28 : Nat) ({ cls := "CutPoints$Flow", name := "<init>", desc := "()V" } : Jvm.MethodName) "CutPoints") ∈ NW := List.mem_of_getElem? (i := 3) rfl
theorem wmn_CP_35 : (Jvm.Cond.methodLinkNest "CutPoints" (35 : Nat) ({ cls := "CutPoints$Compass", name := "<init>", desc := "()V" } : Jvm.MethodName) "CutPoints") ∈ NW := List.mem_of_getElem? (i := 4) rfl
theorem wmn_CP_42 : (Jvm.Cond.methodLinkNest "CutPoints" (42 : Nat) ({ cls := "CutPoints$Splitter", name := "<init>", desc := "()V" } : Jvm.MethodName) "CutPoints") ∈ NW := List.mem_of_getElem? (i := 5) rfl
theorem wmn_SP_13 : (Jvm.Cond.methodLinkNest "CutPoints$Splitter" (13 : Nat) ({ cls := "CutPoints$Groups", name := "<init>", desc := "()V" } : Jvm.MethodName) "CutPoints") ∈ NW := List.mem_of_getElem? (i := 6) rfl
theorem wmn_SK_68 : (Jvm.Cond.methodLinkNest "CutPoints$Sketch" (68 : Nat) ({ cls := "CutPoints", name := "hasBit", desc := "(JI)Z" } : Jvm.MethodName) "CutPoints") ∈ NW := List.mem_of_getElem? (i := 7) rfl
theorem wmn_SK_84 : (Jvm.Cond.methodLinkNest "CutPoints$Sketch" (84 : Nat) ({ cls := "CutPoints", name := "spread", desc := "([III)I" } : Jvm.MethodName) "CutPoints") ∈ NW := List.mem_of_getElem? (i := 8) rfl
theorem wmn_GR_33 : (Jvm.Cond.methodLinkNest "CutPoints$Graph" (33 : Nat) ({ cls := "CutPoints", name := "hasBit", desc := "(JI)Z" } : Jvm.MethodName) "CutPoints") ∈ NW := List.mem_of_getElem? (i := 9) rfl
theorem wmn_SK_108 : (Jvm.Cond.methodLinkNest "CutPoints$Sketch" (108 : Nat) ({ cls := "CutPoints", name := "countPieces", desc := "([II)I" } : Jvm.MethodName) "CutPoints") ∈ NW := List.mem_of_getElem? (i := 10) rfl
theorem wmn_GP_19 : (Jvm.Cond.methodLinkNest "CutPoints$Groups" (19 : Nat) ({ cls := "CutPoints", name := "hasBit", desc := "(JI)Z" } : Jvm.MethodName) "CutPoints") ∈ NW := List.mem_of_getElem? (i := 11) rfl
theorem wmn_FL_30 : (Jvm.Cond.methodLinkNest "CutPoints$Flow" (30 : Nat) ({ cls := "CutPoints", name := "hasBit", desc := "(JI)Z" } : Jvm.MethodName) "CutPoints") ∈ NW := List.mem_of_getElem? (i := 12) rfl
theorem wmn_CO_15 : (Jvm.Cond.methodLinkNest "CutPoints$Compass" (15 : Nat) ({ cls := "CutPoints", name := "hasBit", desc := "(JI)Z" } : Jvm.MethodName) "CutPoints") ∈ NW := List.mem_of_getElem? (i := 13) rfl
theorem wmn_CO_30 : (Jvm.Cond.methodLinkNest "CutPoints$Compass" (30 : Nat) ({ cls := "CutPoints", name := "spread", desc := "([III)I" } : Jvm.MethodName) "CutPoints") ∈ NW := List.mem_of_getElem? (i := 14) rfl
theorem wmn_SP_48 : (Jvm.Cond.methodLinkNest "CutPoints$Splitter" (48 : Nat) ({ cls := "CutPoints", name := "hasBit", desc := "(JI)Z" } : Jvm.MethodName) "CutPoints") ∈ NW := List.mem_of_getElem? (i := 15) rfl
