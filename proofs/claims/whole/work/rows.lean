section
-- ===== PART A: goes FIRST, ahead of the names: the tables' words, and 'selects' of the private methods out of them =====
/-- a private method of a class that the tables say can be made, by its rows of tables_1 -/
def lw_okq (q : MethodName × Nat) : Prop := (q.1.cls ≠ "java/lang/invoke/MethodHandle" ∧ q.1.cls ≠ "java/lang/invoke/VarHandle") ∧ Cond.instantiable q.1.cls q.2 ∈ tables_1 ∧ Cond.privateMethod q.1 ∈ tables_1 ∧ Cond.instanceMethod q.1 ∈ tables_1
theorem lw_p0 : lw_okq (⟨"RingPuzzle$Grid", "layEdgesFrom", "(II)V"⟩, 10) := ⟨⟨by decide +kernel, by decide +kernel⟩, List.mem_of_getElem? (i := 20) (by decide +kernel), List.mem_of_getElem? (i := 88) (by decide +kernel), List.mem_of_getElem? (i := 89) (by decide +kernel)⟩
theorem lw_p1 : lw_okq (⟨"RingPuzzle$Grid", "cellAt", "(II)I"⟩, 10) := ⟨⟨by decide +kernel, by decide +kernel⟩, List.mem_of_getElem? (i := 20) (by decide +kernel), List.mem_of_getElem? (i := 92) (by decide +kernel), List.mem_of_getElem? (i := 93) (by decide +kernel)⟩
theorem lw_p2 : lw_okq (⟨"RingPuzzle$Grid", "layEdge", "(IIIII)V"⟩, 10) := ⟨⟨by decide +kernel, by decide +kernel⟩, List.mem_of_getElem? (i := 20) (by decide +kernel), List.mem_of_getElem? (i := 96) (by decide +kernel), List.mem_of_getElem? (i := 97) (by decide +kernel)⟩
theorem lw_p3 : lw_okq (⟨"RingPuzzle$Board", "lookAtCell", "(I)V"⟩, 13) := ⟨⟨by decide +kernel, by decide +kernel⟩, List.mem_of_getElem? (i := 112) (by decide +kernel), List.mem_of_getElem? (i := 180) (by decide +kernel), List.mem_of_getElem? (i := 181) (by decide +kernel)⟩
theorem lw_p4 : lw_okq (⟨"RingPuzzle$Board", "lookAtCorner", "(I)V"⟩, 13) := ⟨⟨by decide +kernel, by decide +kernel⟩, List.mem_of_getElem? (i := 112) (by decide +kernel), List.mem_of_getElem? (i := 194) (by decide +kernel), List.mem_of_getElem? (i := 195) (by decide +kernel)⟩
theorem lw_p5 : lw_okq (⟨"RingPuzzle$Board", "lookAtRings", "()V"⟩, 13) := ⟨⟨by decide +kernel, by decide +kernel⟩, List.mem_of_getElem? (i := 112) (by decide +kernel), List.mem_of_getElem? (i := 199) (by decide +kernel), List.mem_of_getElem? (i := 200) (by decide +kernel)⟩
theorem lw_p6 : lw_okq (⟨"RingPuzzle$Board", "lookAtWay", "(J)V"⟩, 13) := ⟨⟨by decide +kernel, by decide +kernel⟩, List.mem_of_getElem? (i := 112) (by decide +kernel), List.mem_of_getElem? (i := 207) (by decide +kernel), List.mem_of_getElem? (i := 208) (by decide +kernel)⟩
theorem lw_p7 : lw_okq (⟨"RingPuzzle$Text", "endsRow", "(I)Z"⟩, 5) := ⟨⟨by decide +kernel, by decide +kernel⟩, List.mem_of_getElem? (i := 301) (by decide +kernel), List.mem_of_getElem? (i := 371) (by decide +kernel), List.mem_of_getElem? (i := 372) (by decide +kernel)⟩
theorem lw_p8 : lw_okq (⟨"RingPuzzle", "forgetMade", "()V"⟩, 7) := ⟨⟨by decide +kernel, by decide +kernel⟩, List.mem_of_getElem? (i := 12) (by decide +kernel), List.mem_of_getElem? (i := 390) (by decide +kernel), List.mem_of_getElem? (i := 391) (by decide +kernel)⟩
theorem lw_p9 : lw_okq (⟨"RingPuzzle$Board", "drawnAtEnd", "(II)J"⟩, 13) := ⟨⟨by decide +kernel, by decide +kernel⟩, List.mem_of_getElem? (i := 112) (by decide +kernel), List.mem_of_getElem? (i := 442) (by decide +kernel), List.mem_of_getElem? (i := 443) (by decide +kernel)⟩
theorem lw_p10 : lw_okq (⟨"RingPuzzle$Board", "meetsCounts", "(J)Z"⟩, 13) := ⟨⟨by decide +kernel, by decide +kernel⟩, List.mem_of_getElem? (i := 112) (by decide +kernel), List.mem_of_getElem? (i := 446) (by decide +kernel), List.mem_of_getElem? (i := 447) (by decide +kernel)⟩
theorem lw_p11 : lw_okq (⟨"RingPuzzle", "makeFound", "()V"⟩, 7) := ⟨⟨by decide +kernel, by decide +kernel⟩, List.mem_of_getElem? (i := 12) (by decide +kernel), List.mem_of_getElem? (i := 474) (by decide +kernel), List.mem_of_getElem? (i := 475) (by decide +kernel)⟩
theorem lw_p12 : lw_okq (⟨"RingPuzzle", "foundPart", "(I)I"⟩, 7) := ⟨⟨by decide +kernel, by decide +kernel⟩, List.mem_of_getElem? (i := 12) (by decide +kernel), List.mem_of_getElem? (i := 523) (by decide +kernel), List.mem_of_getElem? (i := 524) (by decide +kernel)⟩
theorem lw_p13 : lw_okq (⟨"RingPuzzle$Search", "push", "(JJ)V"⟩, 8) := ⟨⟨by decide +kernel, by decide +kernel⟩, List.mem_of_getElem? (i := 234) (by decide +kernel), List.mem_of_getElem? (i := 542) (by decide +kernel), List.mem_of_getElem? (i := 543) (by decide +kernel)⟩
theorem lw_p14 : lw_okq (⟨"RingPuzzle$Search", "goOn", "()V"⟩, 8) := ⟨⟨by decide +kernel, by decide +kernel⟩, List.mem_of_getElem? (i := 234) (by decide +kernel), List.mem_of_getElem? (i := 548) (by decide +kernel), List.mem_of_getElem? (i := 549) (by decide +kernel)⟩
theorem lw_p15 : lw_okq (⟨"RingPuzzle", "addHints", "(J)J"⟩, 7) := ⟨⟨by decide +kernel, by decide +kernel⟩, List.mem_of_getElem? (i := 12) (by decide +kernel), List.mem_of_getElem? (i := 602) (by decide +kernel), List.mem_of_getElem? (i := 603) (by decide +kernel)⟩
def lw_privs_1 : List (MethodName × Nat) := [(⟨"RingPuzzle$Grid", "layEdgesFrom", "(II)V"⟩, 10), (⟨"RingPuzzle$Grid", "cellAt", "(II)I"⟩, 10), (⟨"RingPuzzle$Grid", "layEdge", "(IIIII)V"⟩, 10), (⟨"RingPuzzle$Board", "lookAtCell", "(I)V"⟩, 13), (⟨"RingPuzzle$Board", "lookAtCorner", "(I)V"⟩, 13), (⟨"RingPuzzle$Board", "lookAtRings", "()V"⟩, 13), (⟨"RingPuzzle$Board", "lookAtWay", "(J)V"⟩, 13), (⟨"RingPuzzle$Text", "endsRow", "(I)Z"⟩, 5), (⟨"RingPuzzle", "forgetMade", "()V"⟩, 7), (⟨"RingPuzzle$Board", "drawnAtEnd", "(II)J"⟩, 13), (⟨"RingPuzzle$Board", "meetsCounts", "(J)Z"⟩, 13), (⟨"RingPuzzle", "makeFound", "()V"⟩, 7), (⟨"RingPuzzle", "foundPart", "(I)I"⟩, 7), (⟨"RingPuzzle$Search", "push", "(JJ)V"⟩, 8), (⟨"RingPuzzle$Search", "goOn", "()V"⟩, 8), (⟨"RingPuzzle", "addHints", "(J)J"⟩, 7)]
theorem lw_r1 : ∀ q ∈ lw_privs_1, lw_okq q := List.forall_mem_cons.mpr ⟨lw_p0, List.forall_mem_cons.mpr ⟨lw_p1, List.forall_mem_cons.mpr ⟨lw_p2, List.forall_mem_cons.mpr ⟨lw_p3, List.forall_mem_cons.mpr ⟨lw_p4, List.forall_mem_cons.mpr ⟨lw_p5, List.forall_mem_cons.mpr ⟨lw_p6, List.forall_mem_cons.mpr ⟨lw_p7, List.forall_mem_cons.mpr ⟨lw_p8, List.forall_mem_cons.mpr ⟨lw_p9, List.forall_mem_cons.mpr ⟨lw_p10, List.forall_mem_cons.mpr ⟨lw_p11, List.forall_mem_cons.mpr ⟨lw_p12, List.forall_mem_cons.mpr ⟨lw_p13, List.forall_mem_cons.mpr ⟨lw_p14, List.forall_mem_cons.mpr ⟨lw_p15, fun _ h => absurd h List.not_mem_nil⟩⟩⟩⟩⟩⟩⟩⟩⟩⟩⟩⟩⟩⟩⟩⟩
theorem lw_p16 : lw_okq (⟨"RingPuzzleModel", "reads", "()V"⟩, 30) := ⟨⟨by decide +kernel, by decide +kernel⟩, List.mem_of_getElem? (i := 606) (by decide +kernel), List.mem_of_getElem? (i := 723) (by decide +kernel), List.mem_of_getElem? (i := 724) (by decide +kernel)⟩
theorem lw_p17 : lw_okq (⟨"RingPuzzleModel", "readsRow", "(II)Z"⟩, 30) := ⟨⟨by decide +kernel, by decide +kernel⟩, List.mem_of_getElem? (i := 606) (by decide +kernel), List.mem_of_getElem? (i := 727) (by decide +kernel), List.mem_of_getElem? (i := 728) (by decide +kernel)⟩
theorem lw_p18 : lw_okq (⟨"RingPuzzleModel", "next", "()I"⟩, 30) := ⟨⟨by decide +kernel, by decide +kernel⟩, List.mem_of_getElem? (i := 606) (by decide +kernel), List.mem_of_getElem? (i := 731) (by decide +kernel), List.mem_of_getElem? (i := 732) (by decide +kernel)⟩
theorem lw_p19 : lw_okq (⟨"RingPuzzleModel", "keeps", "()V"⟩, 30) := ⟨⟨by decide +kernel, by decide +kernel⟩, List.mem_of_getElem? (i := 606) (by decide +kernel), List.mem_of_getElem? (i := 739) (by decide +kernel), List.mem_of_getElem? (i := 740) (by decide +kernel)⟩
theorem lw_p20 : lw_okq (⟨"RingPuzzleModel", "cells", "()I"⟩, 30) := ⟨⟨by decide +kernel, by decide +kernel⟩, List.mem_of_getElem? (i := 606) (by decide +kernel), List.mem_of_getElem? (i := 743) (by decide +kernel), List.mem_of_getElem? (i := 744) (by decide +kernel)⟩
theorem lw_p21 : lw_okq (⟨"RingPuzzleModel", "edges", "()I"⟩, 30) := ⟨⟨by decide +kernel, by decide +kernel⟩, List.mem_of_getElem? (i := 606) (by decide +kernel), List.mem_of_getElem? (i := 747) (by decide +kernel), List.mem_of_getElem? (i := 748) (by decide +kernel)⟩
theorem lw_p22 : lw_okq (⟨"RingPuzzleModel", "vertical", "()I"⟩, 30) := ⟨⟨by decide +kernel, by decide +kernel⟩, List.mem_of_getElem? (i := 606) (by decide +kernel), List.mem_of_getElem? (i := 751) (by decide +kernel), List.mem_of_getElem? (i := 752) (by decide +kernel)⟩
theorem lw_p23 : lw_okq (⟨"RingPuzzleModel", "markOf", "(I)I"⟩, 30) := ⟨⟨by decide +kernel, by decide +kernel⟩, List.mem_of_getElem? (i := 606) (by decide +kernel), List.mem_of_getElem? (i := 763) (by decide +kernel), List.mem_of_getElem? (i := 764) (by decide +kernel)⟩
theorem lw_p24 : lw_okq (⟨"RingPuzzleModel", "marked", "(I)I"⟩, 30) := ⟨⟨by decide +kernel, by decide +kernel⟩, List.mem_of_getElem? (i := 606) (by decide +kernel), List.mem_of_getElem? (i := 771) (by decide +kernel), List.mem_of_getElem? (i := 772) (by decide +kernel)⟩
theorem lw_p25 : lw_okq (⟨"RingPuzzleModel", "fits", "()Z"⟩, 30) := ⟨⟨by decide +kernel, by decide +kernel⟩, List.mem_of_getElem? (i := 606) (by decide +kernel), List.mem_of_getElem? (i := 779) (by decide +kernel), List.mem_of_getElem? (i := 780) (by decide +kernel)⟩
theorem lw_p26 : lw_okq (⟨"RingPuzzleModel", "looks", "()V"⟩, 30) := ⟨⟨by decide +kernel, by decide +kernel⟩, List.mem_of_getElem? (i := 606) (by decide +kernel), List.mem_of_getElem? (i := 783) (by decide +kernel), List.mem_of_getElem? (i := 784) (by decide +kernel)⟩
theorem lw_p27 : lw_okq (⟨"RingPuzzleModel", "aroundWith", "(II)I"⟩, 30) := ⟨⟨by decide +kernel, by decide +kernel⟩, List.mem_of_getElem? (i := 606) (by decide +kernel), List.mem_of_getElem? (i := 787) (by decide +kernel), List.mem_of_getElem? (i := 788) (by decide +kernel)⟩
theorem lw_p28 : lw_okq (⟨"RingPuzzleModel", "aroundCell", "(II)I"⟩, 30) := ⟨⟨by decide +kernel, by decide +kernel⟩, List.mem_of_getElem? (i := 606) (by decide +kernel), List.mem_of_getElem? (i := 791) (by decide +kernel), List.mem_of_getElem? (i := 792) (by decide +kernel)⟩
theorem lw_p29 : lw_okq (⟨"RingPuzzleModel", "corners", "()I"⟩, 30) := ⟨⟨by decide +kernel, by decide +kernel⟩, List.mem_of_getElem? (i := 606) (by decide +kernel), List.mem_of_getElem? (i := 795) (by decide +kernel), List.mem_of_getElem? (i := 796) (by decide +kernel)⟩
theorem lw_p30 : lw_okq (⟨"RingPuzzleModel", "atWith", "(II)I"⟩, 30) := ⟨⟨by decide +kernel, by decide +kernel⟩, List.mem_of_getElem? (i := 606) (by decide +kernel), List.mem_of_getElem? (i := 799) (by decide +kernel), List.mem_of_getElem? (i := 800) (by decide +kernel)⟩
theorem lw_p31 : lw_okq (⟨"RingPuzzleModel", "toward", "(II)I"⟩, 30) := ⟨⟨by decide +kernel, by decide +kernel⟩, List.mem_of_getElem? (i := 606) (by decide +kernel), List.mem_of_getElem? (i := 803) (by decide +kernel), List.mem_of_getElem? (i := 804) (by decide +kernel)⟩
def lw_privs_2 : List (MethodName × Nat) := [(⟨"RingPuzzleModel", "reads", "()V"⟩, 30), (⟨"RingPuzzleModel", "readsRow", "(II)Z"⟩, 30), (⟨"RingPuzzleModel", "next", "()I"⟩, 30), (⟨"RingPuzzleModel", "keeps", "()V"⟩, 30), (⟨"RingPuzzleModel", "cells", "()I"⟩, 30), (⟨"RingPuzzleModel", "edges", "()I"⟩, 30), (⟨"RingPuzzleModel", "vertical", "()I"⟩, 30), (⟨"RingPuzzleModel", "markOf", "(I)I"⟩, 30), (⟨"RingPuzzleModel", "marked", "(I)I"⟩, 30), (⟨"RingPuzzleModel", "fits", "()Z"⟩, 30), (⟨"RingPuzzleModel", "looks", "()V"⟩, 30), (⟨"RingPuzzleModel", "aroundWith", "(II)I"⟩, 30), (⟨"RingPuzzleModel", "aroundCell", "(II)I"⟩, 30), (⟨"RingPuzzleModel", "corners", "()I"⟩, 30), (⟨"RingPuzzleModel", "atWith", "(II)I"⟩, 30), (⟨"RingPuzzleModel", "toward", "(II)I"⟩, 30)]
theorem lw_r2 : ∀ q ∈ lw_privs_2, lw_okq q := List.forall_mem_cons.mpr ⟨lw_p16, List.forall_mem_cons.mpr ⟨lw_p17, List.forall_mem_cons.mpr ⟨lw_p18, List.forall_mem_cons.mpr ⟨lw_p19, List.forall_mem_cons.mpr ⟨lw_p20, List.forall_mem_cons.mpr ⟨lw_p21, List.forall_mem_cons.mpr ⟨lw_p22, List.forall_mem_cons.mpr ⟨lw_p23, List.forall_mem_cons.mpr ⟨lw_p24, List.forall_mem_cons.mpr ⟨lw_p25, List.forall_mem_cons.mpr ⟨lw_p26, List.forall_mem_cons.mpr ⟨lw_p27, List.forall_mem_cons.mpr ⟨lw_p28, List.forall_mem_cons.mpr ⟨lw_p29, List.forall_mem_cons.mpr ⟨lw_p30, List.forall_mem_cons.mpr ⟨lw_p31, fun _ h => absurd h List.not_mem_nil⟩⟩⟩⟩⟩⟩⟩⟩⟩⟩⟩⟩⟩⟩⟩⟩
theorem lw_p32 : lw_okq (⟨"RingPuzzleModel", "joins", "()V"⟩, 30) := ⟨⟨by decide +kernel, by decide +kernel⟩, List.mem_of_getElem? (i := 606) (by decide +kernel), List.mem_of_getElem? (i := 807) (by decide +kernel), List.mem_of_getElem? (i := 808) (by decide +kernel)⟩
theorem lw_p33 : lw_okq (⟨"RingPuzzleModel", "end", "(IZ)I"⟩, 30) := ⟨⟨by decide +kernel, by decide +kernel⟩, List.mem_of_getElem? (i := 606) (by decide +kernel), List.mem_of_getElem? (i := 811) (by decide +kernel), List.mem_of_getElem? (i := 812) (by decide +kernel)⟩
theorem lw_p34 : lw_okq (⟨"RingPuzzleModel", "top", "(I)I"⟩, 30) := ⟨⟨by decide +kernel, by decide +kernel⟩, List.mem_of_getElem? (i := 606) (by decide +kernel), List.mem_of_getElem? (i := 815) (by decide +kernel), List.mem_of_getElem? (i := 816) (by decide +kernel)⟩
theorem lw_p35 : lw_okq (⟨"RingPuzzleModel", "areMet", "()Z"⟩, 30) := ⟨⟨by decide +kernel, by decide +kernel⟩, List.mem_of_getElem? (i := 606) (by decide +kernel), List.mem_of_getElem? (i := 819) (by decide +kernel), List.mem_of_getElem? (i := 820) (by decide +kernel)⟩
theorem lw_p36 : lw_okq (⟨"RingPuzzleModel", "isRing", "(I)Z"⟩, 30) := ⟨⟨by decide +kernel, by decide +kernel⟩, List.mem_of_getElem? (i := 606) (by decide +kernel), List.mem_of_getElem? (i := 823) (by decide +kernel), List.mem_of_getElem? (i := 824) (by decide +kernel)⟩
theorem lw_p37 : lw_okq (⟨"RingPuzzleModel", "findsNext", "(I)Z"⟩, 30) := ⟨⟨by decide +kernel, by decide +kernel⟩, List.mem_of_getElem? (i := 606) (by decide +kernel), List.mem_of_getElem? (i := 827) (by decide +kernel), List.mem_of_getElem? (i := 828) (by decide +kernel)⟩
theorem lw_p38 : lw_okq (⟨"RingPuzzleModel", "findsPlain", "(I)Z"⟩, 30) := ⟨⟨by decide +kernel, by decide +kernel⟩, List.mem_of_getElem? (i := 606) (by decide +kernel), List.mem_of_getElem? (i := 831) (by decide +kernel), List.mem_of_getElem? (i := 832) (by decide +kernel)⟩
theorem lw_p39 : lw_okq (⟨"RingPuzzleModel", "byCells", "(I)Z"⟩, 30) := ⟨⟨by decide +kernel, by decide +kernel⟩, List.mem_of_getElem? (i := 606) (by decide +kernel), List.mem_of_getElem? (i := 835) (by decide +kernel), List.mem_of_getElem? (i := 836) (by decide +kernel)⟩
theorem lw_p40 : lw_okq (⟨"RingPuzzleModel", "openAround", "(I)I"⟩, 30) := ⟨⟨by decide +kernel, by decide +kernel⟩, List.mem_of_getElem? (i := 606) (by decide +kernel), List.mem_of_getElem? (i := 839) (by decide +kernel), List.mem_of_getElem? (i := 840) (by decide +kernel)⟩
theorem lw_p41 : lw_okq (⟨"RingPuzzleModel", "finds", "(IIII)Z"⟩, 30) := ⟨⟨by decide +kernel, by decide +kernel⟩, List.mem_of_getElem? (i := 606) (by decide +kernel), List.mem_of_getElem? (i := 843) (by decide +kernel), List.mem_of_getElem? (i := 844) (by decide +kernel)⟩
theorem lw_p42 : lw_okq (⟨"RingPuzzleModel", "byCorners", "(I)Z"⟩, 30) := ⟨⟨by decide +kernel, by decide +kernel⟩, List.mem_of_getElem? (i := 606) (by decide +kernel), List.mem_of_getElem? (i := 847) (by decide +kernel), List.mem_of_getElem? (i := 848) (by decide +kernel)⟩
theorem lw_p43 : lw_okq (⟨"RingPuzzleModel", "openAt", "(I)I"⟩, 30) := ⟨⟨by decide +kernel, by decide +kernel⟩, List.mem_of_getElem? (i := 606) (by decide +kernel), List.mem_of_getElem? (i := 851) (by decide +kernel), List.mem_of_getElem? (i := 852) (by decide +kernel)⟩
theorem lw_p44 : lw_okq (⟨"RingPuzzleModel", "byRings", "()Z"⟩, 30) := ⟨⟨by decide +kernel, by decide +kernel⟩, List.mem_of_getElem? (i := 606) (by decide +kernel), List.mem_of_getElem? (i := 855) (by decide +kernel), List.mem_of_getElem? (i := 856) (by decide +kernel)⟩
theorem lw_p45 : lw_okq (⟨"RingPuzzleModel", "byTrials", "(I)Z"⟩, 30) := ⟨⟨by decide +kernel, by decide +kernel⟩, List.mem_of_getElem? (i := 606) (by decide +kernel), List.mem_of_getElem? (i := 859) (by decide +kernel), List.mem_of_getElem? (i := 860) (by decide +kernel)⟩
theorem lw_p46 : lw_okq (⟨"RingPuzzleModel", "fails", "(II)Z"⟩, 30) := ⟨⟨by decide +kernel, by decide +kernel⟩, List.mem_of_getElem? (i := 606) (by decide +kernel), List.mem_of_getElem? (i := 863) (by decide +kernel), List.mem_of_getElem? (i := 864) (by decide +kernel)⟩
theorem lw_p47 : lw_okq (⟨"RingPuzzleModel", "makes", "()V"⟩, 30) := ⟨⟨by decide +kernel, by decide +kernel⟩, List.mem_of_getElem? (i := 606) (by decide +kernel), List.mem_of_getElem? (i := 867) (by decide +kernel), List.mem_of_getElem? (i := 868) (by decide +kernel)⟩
def lw_privs_3 : List (MethodName × Nat) := [(⟨"RingPuzzleModel", "joins", "()V"⟩, 30), (⟨"RingPuzzleModel", "end", "(IZ)I"⟩, 30), (⟨"RingPuzzleModel", "top", "(I)I"⟩, 30), (⟨"RingPuzzleModel", "areMet", "()Z"⟩, 30), (⟨"RingPuzzleModel", "isRing", "(I)Z"⟩, 30), (⟨"RingPuzzleModel", "findsNext", "(I)Z"⟩, 30), (⟨"RingPuzzleModel", "findsPlain", "(I)Z"⟩, 30), (⟨"RingPuzzleModel", "byCells", "(I)Z"⟩, 30), (⟨"RingPuzzleModel", "openAround", "(I)I"⟩, 30), (⟨"RingPuzzleModel", "finds", "(IIII)Z"⟩, 30), (⟨"RingPuzzleModel", "byCorners", "(I)Z"⟩, 30), (⟨"RingPuzzleModel", "openAt", "(I)I"⟩, 30), (⟨"RingPuzzleModel", "byRings", "()Z"⟩, 30), (⟨"RingPuzzleModel", "byTrials", "(I)Z"⟩, 30), (⟨"RingPuzzleModel", "fails", "(II)Z"⟩, 30), (⟨"RingPuzzleModel", "makes", "()V"⟩, 30)]
theorem lw_r3 : ∀ q ∈ lw_privs_3, lw_okq q := List.forall_mem_cons.mpr ⟨lw_p32, List.forall_mem_cons.mpr ⟨lw_p33, List.forall_mem_cons.mpr ⟨lw_p34, List.forall_mem_cons.mpr ⟨lw_p35, List.forall_mem_cons.mpr ⟨lw_p36, List.forall_mem_cons.mpr ⟨lw_p37, List.forall_mem_cons.mpr ⟨lw_p38, List.forall_mem_cons.mpr ⟨lw_p39, List.forall_mem_cons.mpr ⟨lw_p40, List.forall_mem_cons.mpr ⟨lw_p41, List.forall_mem_cons.mpr ⟨lw_p42, List.forall_mem_cons.mpr ⟨lw_p43, List.forall_mem_cons.mpr ⟨lw_p44, List.forall_mem_cons.mpr ⟨lw_p45, List.forall_mem_cons.mpr ⟨lw_p46, List.forall_mem_cons.mpr ⟨lw_p47, fun _ h => absurd h List.not_mem_nil⟩⟩⟩⟩⟩⟩⟩⟩⟩⟩⟩⟩⟩⟩⟩⟩
theorem lw_p48 : lw_okq (⟨"RingPuzzleModel", "searches", "(I)V"⟩, 30) := ⟨⟨by decide +kernel, by decide +kernel⟩, List.mem_of_getElem? (i := 606) (by decide +kernel), List.mem_of_getElem? (i := 903) (by decide +kernel), List.mem_of_getElem? (i := 904) (by decide +kernel)⟩
theorem lw_p49 : lw_okq (⟨"RingPuzzleModel", "puts", "(I)V"⟩, 30) := ⟨⟨by decide +kernel, by decide +kernel⟩, List.mem_of_getElem? (i := 606) (by decide +kernel), List.mem_of_getElem? (i := 907) (by decide +kernel), List.mem_of_getElem? (i := 908) (by decide +kernel)⟩
theorem lw_p50 : lw_okq (⟨"RingPuzzleModel", "takes", "(I)V"⟩, 30) := ⟨⟨by decide +kernel, by decide +kernel⟩, List.mem_of_getElem? (i := 606) (by decide +kernel), List.mem_of_getElem? (i := 911) (by decide +kernel), List.mem_of_getElem? (i := 912) (by decide +kernel)⟩
theorem lw_p51 : lw_okq (⟨"RingPuzzleModel", "node", "()I"⟩, 30) := ⟨⟨by decide +kernel, by decide +kernel⟩, List.mem_of_getElem? (i := 606) (by decide +kernel), List.mem_of_getElem? (i := 915) (by decide +kernel), List.mem_of_getElem? (i := 916) (by decide +kernel)⟩
theorem lw_p52 : lw_okq (⟨"RingPuzzleModel", "counts", "()I"⟩, 30) := ⟨⟨by decide +kernel, by decide +kernel⟩, List.mem_of_getElem? (i := 606) (by decide +kernel), List.mem_of_getElem? (i := 938) (by decide +kernel), List.mem_of_getElem? (i := 939) (by decide +kernel)⟩
theorem lw_p53 : lw_okq (⟨"RingPuzzleModel", "mixes", "(I)V"⟩, 30) := ⟨⟨by decide +kernel, by decide +kernel⟩, List.mem_of_getElem? (i := 606) (by decide +kernel), List.mem_of_getElem? (i := 948) (by decide +kernel), List.mem_of_getElem? (i := 949) (by decide +kernel)⟩
def lw_privs_4 : List (MethodName × Nat) := [(⟨"RingPuzzleModel", "searches", "(I)V"⟩, 30), (⟨"RingPuzzleModel", "puts", "(I)V"⟩, 30), (⟨"RingPuzzleModel", "takes", "(I)V"⟩, 30), (⟨"RingPuzzleModel", "node", "()I"⟩, 30), (⟨"RingPuzzleModel", "counts", "()I"⟩, 30), (⟨"RingPuzzleModel", "mixes", "(I)V"⟩, 30)]
theorem lw_r4 : ∀ q ∈ lw_privs_4, lw_okq q := List.forall_mem_cons.mpr ⟨lw_p48, List.forall_mem_cons.mpr ⟨lw_p49, List.forall_mem_cons.mpr ⟨lw_p50, List.forall_mem_cons.mpr ⟨lw_p51, List.forall_mem_cons.mpr ⟨lw_p52, List.forall_mem_cons.mpr ⟨lw_p53, fun _ h => absurd h List.not_mem_nil⟩⟩⟩⟩⟩⟩
def lw_privs : List (MethodName × Nat) := lw_privs_1 ++ (lw_privs_2 ++ (lw_privs_3 ++ (lw_privs_4)))
def lw_tbl : List Cond := k2_sels lw_privs ++ tables_1
theorem lw_privs_ok : ∀ q ∈ lw_privs, lw_okq q := by
  show ∀ q ∈ lw_privs_1 ++ (lw_privs_2 ++ (lw_privs_3 ++ (lw_privs_4))), lw_okq q
  exact List.forall_mem_append.mpr ⟨lw_r1, List.forall_mem_append.mpr ⟨lw_r2, List.forall_mem_append.mpr ⟨lw_r3, lw_r4⟩⟩⟩
-- ===== end of PART A; then your names; then what follows =====
end
section
def RX0 : String := "RingPuzzle$Board"
def TX0 : u_T := fun k => match k with
  | 0 => ("RingPuzzle$Board", "grid", "LRingPuzzle$Grid;", true)
  | 1 => ("RingPuzzle$Board", "ready", "[I", true)
  | 2 => ("RingPuzzle$Board", "drawn", "J", false)
  | 3 => ("RingPuzzle$Board", "open", "J", false)
  | 4 => ("RingPuzzle$Board", "badCells", "I", false)
  | 5 => ("RingPuzzle$Board", "unmetCells", "I", false)
  | 6 => ("RingPuzzle$Board", "badCorners", "I", false)
  | 7 => ("RingPuzzle$Board", "pairedCorners", "I", false)
  | 8 => ("RingPuzzle$Board", "badRing", "J", false)
  | 9 => ("RingPuzzle$Board", "goodRing", "Z", false)
  | 10 => ("RingPuzzle$Board", "foundRule", "I", false)
  | 11 => ("RingPuzzle$Board", "foundEdge", "I", false)
  | _ => ("RingPuzzle$Board", "foundPlace", "I", false)
def tyX0 : Nat → FieldType := fun k => match k with
  | 0 => .object "RingPuzzle$Grid"
  | 1 => .array .int
  | 2 => .long
  | 3 => .long
  | 4 => .int
  | 5 => .int
  | 6 => .int
  | 7 => .int
  | 8 => .long
  | 9 => .boolean
  | 10 => .int
  | 11 => .int
  | _ => .int
theorem nmX0 : ∀ a, a < 13 → ∀ b, b < 13 → a ≠ b → (TX0 a).2.1 ≠ (TX0 b).2.1 := by decide +kernel
theorem tyX0_ok : ∀ k, k < 13 → parseFieldDescriptor (TX0 k).2.2.1 = some (tyX0 k) := by decide +kernel
abbrev cX0_init : ByteArray := prog_2_method_1_code
def yX0_init : MethodName := ⟨RX0, "<init>", "(LRingPuzzle$Grid;)V"⟩
abbrev cX0_fits : ByteArray := prog_2_method_2_code
def yX0_fits : MethodName := ⟨RX0, "fits", "()Z"⟩
abbrev cX0_finished : ByteArray := prog_2_method_3_code
def yX0_finished : MethodName := ⟨RX0, "finished", "()Z"⟩
abbrev cX0_markOf : ByteArray := prog_2_method_4_code
def yX0_markOf : MethodName := ⟨RX0, "markOf", "(I)I"⟩
abbrev cX0_begin : ByteArray := prog_2_method_5_code
def yX0_begin : MethodName := ⟨RX0, "begin", "(JJ)V"⟩
abbrev cX0_copyFrom : ByteArray := prog_2_method_6_code
def yX0_copyFrom : MethodName := ⟨RX0, "copyFrom", "(LRingPuzzle$Board;)V"⟩
abbrev cX0_settleEdge : ByteArray := prog_2_method_7_code
def yX0_settleEdge : MethodName := ⟨RX0, "settleEdge", "(II)V"⟩
abbrev cX0_lookAtCell : ByteArray := prog_2_method_8_code
def yX0_lookAtCell : MethodName := ⟨RX0, "lookAtCell", "(I)V"⟩
abbrev cX0_lookAtCorner : ByteArray := prog_2_method_9_code
def yX0_lookAtCorner : MethodName := ⟨RX0, "lookAtCorner", "(I)V"⟩
abbrev cX0_lookAtRings : ByteArray := prog_2_method_10_code
def yX0_lookAtRings : MethodName := ⟨RX0, "lookAtRings", "()V"⟩
abbrev cX0_lookAtWay : ByteArray := prog_2_method_11_code
def yX0_lookAtWay : MethodName := ⟨RX0, "lookAtWay", "(J)V"⟩
abbrev cX0_wayOf : ByteArray := prog_2_method_12_code
def yX0_wayOf : MethodName := ⟨RX0, "wayOf", "(J)J"⟩
abbrev cX0_isRing : ByteArray := prog_2_method_13_code
def yX0_isRing : MethodName := ⟨RX0, "isRing", "(J)Z"⟩
abbrev cX0_findAtPlace : ByteArray := prog_2_method_14_code
def yX0_findAtPlace : MethodName := ⟨RX0, "findAtPlace", "(I)Z"⟩
abbrev cX0_findClosing : ByteArray := prog_2_method_15_code
def yX0_findClosing : MethodName := ⟨RX0, "findClosing", "()Z"⟩
abbrev cX0_drawnAtEnd : ByteArray := prog_2_method_16_code
def yX0_drawnAtEnd : MethodName := ⟨RX0, "drawnAtEnd", "(II)J"⟩
abbrev cX0_meetsCounts : ByteArray := prog_2_method_17_code
def yX0_meetsCounts : MethodName := ⟨RX0, "meetsCounts", "(J)Z"⟩
abbrev cX0_found : ByteArray := prog_2_method_18_code
def yX0_found : MethodName := ⟨RX0, "found", "(III)V"⟩
abbrev cX0_makeFound : ByteArray := prog_2_method_19_code
def yX0_makeFound : MethodName := ⟨RX0, "makeFound", "()V"⟩
abbrev cX0_settle : ByteArray := prog_2_method_20_code
def yX0_settle : MethodName := ⟨RX0, "settle", "()V"⟩
def RX1 : String := "RingPuzzle$Grid"
def TX1 : u_T := fun k => match k with
  | 0 => ("RingPuzzle$Grid", "counts", "[I", true)
  | 1 => ("RingPuzzle$Grid", "around", "[J", true)
  | 2 => ("RingPuzzle$Grid", "meeting", "[J", true)
  | 3 => ("RingPuzzle$Grid", "cellsOf", "[I", true)
  | 4 => ("RingPuzzle$Grid", "cornersOf", "[I", true)
  | 5 => ("RingPuzzle$Grid", "width", "I", false)
  | 6 => ("RingPuzzle$Grid", "height", "I", false)
  | 7 => ("RingPuzzle$Grid", "cells", "I", false)
  | 8 => ("RingPuzzle$Grid", "corners", "I", false)
  | _ => ("RingPuzzle$Grid", "edges", "I", false)
def tyX1 : Nat → FieldType := fun k => match k with
  | 0 => .array .int
  | 1 => .array .long
  | 2 => .array .long
  | 3 => .array .int
  | 4 => .array .int
  | 5 => .int
  | 6 => .int
  | 7 => .int
  | 8 => .int
  | _ => .int
theorem nmX1 : ∀ a, a < 10 → ∀ b, b < 10 → a ≠ b → (TX1 a).2.1 ≠ (TX1 b).2.1 := by decide +kernel
theorem tyX1_ok : ∀ k, k < 10 → parseFieldDescriptor (TX1 k).2.2.1 = some (tyX1 k) := by decide +kernel
abbrev cX1_init : ByteArray := prog_3_method_1_code
def yX1_init : MethodName := ⟨RX1, "<init>", "()V"⟩
abbrev cX1_hasCell : ByteArray := prog_3_method_2_code
def yX1_hasCell : MethodName := ⟨RX1, "hasCell", "(I)Z"⟩
abbrev cX1_hasCorner : ByteArray := prog_3_method_3_code
def yX1_hasCorner : MethodName := ⟨RX1, "hasCorner", "(I)Z"⟩
abbrev cX1_hasEdge : ByteArray := prog_3_method_4_code
def yX1_hasEdge : MethodName := ⟨RX1, "hasEdge", "(I)Z"⟩
abbrev cX1_allEdges : ByteArray := prog_3_method_5_code
def yX1_allEdges : MethodName := ⟨RX1, "allEdges", "()J"⟩
abbrev cX1_countedCells : ByteArray := prog_3_method_6_code
def yX1_countedCells : MethodName := ⟨RX1, "countedCells", "()I"⟩
abbrev cX1_lay : ByteArray := prog_3_method_7_code
def yX1_lay : MethodName := ⟨RX1, "lay", "(II)V"⟩
abbrev cX1_layEdgesFrom : ByteArray := prog_3_method_8_code
def yX1_layEdgesFrom : MethodName := ⟨RX1, "layEdgesFrom", "(II)V"⟩
abbrev cX1_cellAt : ByteArray := prog_3_method_9_code
def yX1_cellAt : MethodName := ⟨RX1, "cellAt", "(II)I"⟩
abbrev cX1_layEdge : ByteArray := prog_3_method_10_code
def yX1_layEdge : MethodName := ⟨RX1, "layEdge", "(IIIII)V"⟩
def RX2 : String := "RingPuzzle$History"
def TX2 : u_T := fun k => match k with
  | 0 => ("RingPuzzle$History", "widths", "[I", true)
  | 1 => ("RingPuzzle$History", "heights", "[I", true)
  | 2 => ("RingPuzzle$History", "drawn", "[J", true)
  | 3 => ("RingPuzzle$History", "open", "[J", true)
  | 4 => ("RingPuzzle$History", "counts", "[I", true)
  | 5 => ("RingPuzzle$History", "made", "[I", true)
  | 6 => ("RingPuzzle$History", "size", "I", false)
  | _ => ("RingPuzzle$History", "next", "I", false)
def tyX2 : Nat → FieldType := fun k => match k with
  | 0 => .array .int
  | 1 => .array .int
  | 2 => .array .long
  | 3 => .array .long
  | 4 => .array .int
  | 5 => .array .int
  | 6 => .int
  | _ => .int
theorem nmX2 : ∀ a, a < 8 → ∀ b, b < 8 → a ≠ b → (TX2 a).2.1 ≠ (TX2 b).2.1 := by decide +kernel
theorem tyX2_ok : ∀ k, k < 8 → parseFieldDescriptor (TX2 k).2.2.1 = some (tyX2 k) := by decide +kernel
abbrev cX2_init : ByteArray := prog_4_method_1_code
def yX2_init : MethodName := ⟨RX2, "<init>", "()V"⟩
abbrev cX2_keep : ByteArray := prog_4_method_2_code
def yX2_keep : MethodName := ⟨RX2, "keep", "(LRingPuzzle$Grid;LRingPuzzle$Board;[I)V"⟩
abbrev cX2_restore : ByteArray := prog_4_method_3_code
def yX2_restore : MethodName := ⟨RX2, "restore", "(LRingPuzzle$Grid;LRingPuzzle$Board;[I)V"⟩
def RX3 : String := "RingPuzzle$Search"
def TX3 : u_T := fun k => match k with
  | 0 => ("RingPuzzle$Search", "board", "LRingPuzzle$Board;", true)
  | 1 => ("RingPuzzle$Search", "drawnOf", "[J", true)
  | 2 => ("RingPuzzle$Search", "openOf", "[J", true)
  | 3 => ("RingPuzzle$Search", "waiting", "I", false)
  | 4 => ("RingPuzzle$Search", "found", "I", false)
  | 5 => ("RingPuzzle$Search", "looked", "I", false)
  | 6 => ("RingPuzzle$Search", "first", "J", false)
  | _ => ("RingPuzzle$Search", "cutShort", "Z", false)
def tyX3 : Nat → FieldType := fun k => match k with
  | 0 => .object "RingPuzzle$Board"
  | 1 => .array .long
  | 2 => .array .long
  | 3 => .int
  | 4 => .int
  | 5 => .int
  | 6 => .long
  | _ => .boolean
theorem nmX3 : ∀ a, a < 8 → ∀ b, b < 8 → a ≠ b → (TX3 a).2.1 ≠ (TX3 b).2.1 := by decide +kernel
theorem tyX3_ok : ∀ k, k < 8 → parseFieldDescriptor (TX3 k).2.2.1 = some (tyX3 k) := by decide +kernel
abbrev cX3_init : ByteArray := prog_5_method_1_code
def yX3_init : MethodName := ⟨RX3, "<init>", "(LRingPuzzle$Grid;)V"⟩
abbrev cX3_run : ByteArray := prog_5_method_2_code
def yX3_run : MethodName := ⟨RX3, "run", "(LRingPuzzle$Board;I)V"⟩
abbrev cX3_nodesTold : ByteArray := prog_5_method_3_code
def yX3_nodesTold : MethodName := ⟨RX3, "nodesTold", "()I"⟩
abbrev cX3_goOn : ByteArray := prog_5_method_4_code
def yX3_goOn : MethodName := ⟨RX3, "goOn", "()V"⟩
abbrev cX3_push : ByteArray := prog_5_method_5_code
def yX3_push : MethodName := ⟨RX3, "push", "(JJ)V"⟩
def RX4 : String := "RingPuzzle$Solver"
def TX4 : u_T := fun k => match k with
  | 0 => ("RingPuzzle$Solver", "grid", "LRingPuzzle$Grid;", true)
  | 1 => ("RingPuzzle$Solver", "trial", "LRingPuzzle$Board;", true)
  | _ => ("RingPuzzle$Solver", "graded", "LRingPuzzle$Board;", true)
def tyX4 : Nat → FieldType := fun k => match k with
  | 0 => .object "RingPuzzle$Grid"
  | 1 => .object "RingPuzzle$Board"
  | _ => .object "RingPuzzle$Board"
theorem nmX4 : ∀ a, a < 3 → ∀ b, b < 3 → a ≠ b → (TX4 a).2.1 ≠ (TX4 b).2.1 := by decide +kernel
theorem tyX4_ok : ∀ k, k < 3 → parseFieldDescriptor (TX4 k).2.2.1 = some (tyX4 k) := by decide +kernel
abbrev cX4_init : ByteArray := prog_6_method_1_code
def yX4_init : MethodName := ⟨RX4, "<init>", "(LRingPuzzle$Grid;)V"⟩
abbrev cX4_findNext : ByteArray := prog_6_method_2_code
def yX4_findNext : MethodName := ⟨RX4, "findNext", "(LRingPuzzle$Board;I)Z"⟩
abbrev cX4_greatestGrade : ByteArray := prog_6_method_3_code
def yX4_greatestGrade : MethodName := ⟨RX4, "greatestGrade", "()I"⟩
def RX5 : String := "RingPuzzle$Text"
def TX5 : u_T := fun k => match k with
  | 0 => ("RingPuzzle$Text", "letters", "[B", true)
  | 1 => ("RingPuzzle$Text", "counts", "[I", true)
  | 2 => ("RingPuzzle$Text", "length", "I", false)
  | 3 => ("RingPuzzle$Text", "columns", "I", false)
  | _ => ("RingPuzzle$Text", "rows", "I", false)
def tyX5 : Nat → FieldType := fun k => match k with
  | 0 => .array .byte
  | 1 => .array .int
  | 2 => .int
  | 3 => .int
  | _ => .int
theorem nmX5 : ∀ a, a < 5 → ∀ b, b < 5 → a ≠ b → (TX5 a).2.1 ≠ (TX5 b).2.1 := by decide +kernel
theorem tyX5_ok : ∀ k, k < 5 → parseFieldDescriptor (TX5 k).2.2.1 = some (tyX5 k) := by decide +kernel
abbrev cX5_init : ByteArray := prog_7_method_1_code
def yX5_init : MethodName := ⟨RX5, "<init>", "()V"⟩
abbrev cX5_append : ByteArray := prog_7_method_2_code
def yX5_append : MethodName := ⟨RX5, "append", "(I)I"⟩
abbrev cX5_read : ByteArray := prog_7_method_3_code
def yX5_read : MethodName := ⟨RX5, "read", "()I"⟩
abbrev cX5_endsRow : ByteArray := prog_7_method_4_code
def yX5_endsRow : MethodName := ⟨RX5, "endsRow", "(I)Z"⟩
abbrev cX5_isCell : ByteArray := prog_7_method_5_code
def yX5_isCell : MethodName := ⟨RX5, "isCell", "(I)Z"⟩
def RX6 : String := "RingPuzzle"
def TX6 : u_T := fun k => match k with
  | 0 => ("RingPuzzle", "grid", "LRingPuzzle$Grid;", true)
  | 1 => ("RingPuzzle", "board", "LRingPuzzle$Board;", true)
  | 2 => ("RingPuzzle", "solver", "LRingPuzzle$Solver;", true)
  | 3 => ("RingPuzzle", "search", "LRingPuzzle$Search;", true)
  | 4 => ("RingPuzzle", "history", "LRingPuzzle$History;", true)
  | 5 => ("RingPuzzle", "text", "LRingPuzzle$Text;", true)
  | _ => ("RingPuzzle", "made", "[I", true)
def tyX6 : Nat → FieldType := fun k => match k with
  | 0 => .object "RingPuzzle$Grid"
  | 1 => .object "RingPuzzle$Board"
  | 2 => .object "RingPuzzle$Solver"
  | 3 => .object "RingPuzzle$Search"
  | 4 => .object "RingPuzzle$History"
  | 5 => .object "RingPuzzle$Text"
  | _ => .array .int
theorem nmX6 : ∀ a, a < 7 → ∀ b, b < 7 → a ≠ b → (TX6 a).2.1 ≠ (TX6 b).2.1 := by decide +kernel
theorem tyX6_ok : ∀ k, k < 7 → parseFieldDescriptor (TX6 k).2.2.1 = some (tyX6 k) := by decide +kernel
abbrev cX6_init : ByteArray := prog_1_method_1_code
def yX6_init : MethodName := ⟨RX6, "<init>", "()V"⟩
abbrev cX6_type : ByteArray := prog_1_method_2_code
def yX6_type : MethodName := ⟨RX6, "type", "(I)I"⟩
abbrev cX6_clearText : ByteArray := prog_1_method_3_code
def yX6_clearText : MethodName := ⟨RX6, "clearText", "()I"⟩
abbrev cX6_fault : ByteArray := prog_1_method_4_code
def yX6_fault : MethodName := ⟨RX6, "fault", "()I"⟩
abbrev cX6_setPuzzle : ByteArray := prog_1_method_5_code
def yX6_setPuzzle : MethodName := ⟨RX6, "setPuzzle", "()I"⟩
abbrev cX6_setCount : ByteArray := prog_1_method_6_code
def yX6_setCount : MethodName := ⟨RX6, "setCount", "(II)I"⟩
abbrev cX6_mark : ByteArray := prog_1_method_7_code
def yX6_mark : MethodName := ⟨RX6, "mark", "(II)I"⟩
abbrev cX6_wipe : ByteArray := prog_1_method_8_code
def yX6_wipe : MethodName := ⟨RX6, "wipe", "()I"⟩
abbrev cX6_deduce : ByteArray := prog_1_method_9_code
def yX6_deduce : MethodName := ⟨RX6, "deduce", "()I"⟩
abbrev cX6_deduceAll : ByteArray := prog_1_method_10_code
def yX6_deduceAll : MethodName := ⟨RX6, "deduceAll", "(I)I"⟩
abbrev cX6_undo : ByteArray := prog_1_method_11_code
def yX6_undo : MethodName := ⟨RX6, "undo", "()I"⟩
abbrev cX6_countOf : ByteArray := prog_1_method_12_code
def yX6_countOf : MethodName := ⟨RX6, "countOf", "(I)I"⟩
abbrev cX6_edge : ByteArray := prog_1_method_13_code
def yX6_edge : MethodName := ⟨RX6, "edge", "(I)I"⟩
abbrev cX6_edgeAt : ByteArray := prog_1_method_14_code
def yX6_edgeAt : MethodName := ⟨RX6, "edgeAt", "(ZII)I"⟩
abbrev cX6_misfit : ByteArray := prog_1_method_15_code
def yX6_misfit : MethodName := ⟨RX6, "misfit", "(I)I"⟩
abbrev cX6_hint : ByteArray := prog_1_method_16_code
def yX6_hint : MethodName := ⟨RX6, "hint", "(I)I"⟩
abbrev cX6_way : ByteArray := prog_1_method_17_code
def yX6_way : MethodName := ⟨RX6, "way", "(II)I"⟩
abbrev cX6_solutions : ByteArray := prog_1_method_18_code
def yX6_solutions : MethodName := ⟨RX6, "solutions", "(I)I"⟩
abbrev cX6_nodes : ByteArray := prog_1_method_19_code
def yX6_nodes : MethodName := ⟨RX6, "nodes", "(I)I"⟩
abbrev cX6_solved : ByteArray := prog_1_method_20_code
def yX6_solved : MethodName := ⟨RX6, "solved", "(I)I"⟩
abbrev cX6_grade : ByteArray := prog_1_method_21_code
def yX6_grade : MethodName := ⟨RX6, "grade", "()I"⟩
abbrev cX6_count : ByteArray := prog_1_method_22_code
def yX6_count : MethodName := ⟨RX6, "count", "(I)I"⟩
abbrev cX6_digest : ByteArray := prog_1_method_23_code
def yX6_digest : MethodName := ⟨RX6, "digest", "()J"⟩
abbrev cX6_addHints : ByteArray := prog_1_method_24_code
def yX6_addHints : MethodName := ⟨RX6, "addHints", "(J)J"⟩
abbrev cX6_foundPart : ByteArray := prog_1_method_25_code
def yX6_foundPart : MethodName := ⟨RX6, "foundPart", "(I)I"⟩
abbrev cX6_makeFound : ByteArray := prog_1_method_26_code
def yX6_makeFound : MethodName := ⟨RX6, "makeFound", "()V"⟩
abbrev cX6_forgetMade : ByteArray := prog_1_method_27_code
def yX6_forgetMade : MethodName := ⟨RX6, "forgetMade", "()V"⟩
abbrev cX6_becomes : ByteArray := prog_1_method_28_code
def yX6_becomes : MethodName := ⟨RX6, "becomes", "(I)I"⟩
abbrev cX6_gradeOf : ByteArray := prog_1_method_29_code
def yX6_gradeOf : MethodName := ⟨RX6, "gradeOf", "(I)I"⟩
abbrev cX6_leastOf : ByteArray := prog_1_method_30_code
def yX6_leastOf : MethodName := ⟨RX6, "leastOf", "(J)I"⟩
abbrev cX6_with : ByteArray := prog_1_method_31_code
def yX6_with : MethodName := ⟨RX6, "with", "(IIZ)I"⟩
def RX7 : String := "RingPuzzleModel"
def TX7 : u_T := fun k => match k with
  | 0 => ("RingPuzzleModel", "m", "[I", true)
  | 1 => ("RingPuzzleModel", "past", "[I", true)
  | 2 => ("RingPuzzleModel", "undos", "I", false)
  | 3 => ("RingPuzzleModel", "text", "[I", true)
  | 4 => ("RingPuzzleModel", "textLength", "I", false)
  | 5 => ("RingPuzzleModel", "up", "[I", true)
  | 6 => ("RingPuzzleModel", "long0", "[I", true)
  | 7 => ("RingPuzzleModel", "isLoose", "[Z", true)
  | 8 => ("RingPuzzleModel", "drawn", "I", false)
  | 9 => ("RingPuzzleModel", "wrongCell", "I", false)
  | 10 => ("RingPuzzleModel", "wrongCorner", "I", false)
  | 11 => ("RingPuzzleModel", "wrongRing", "I", false)
  | 12 => ("RingPuzzleModel", "hasRing", "Z", false)
  | 13 => ("RingPuzzleModel", "rule", "I", false)
  | 14 => ("RingPuzzleModel", "edge", "I", false)
  | 15 => ("RingPuzzleModel", "becomes", "I", false)
  | 16 => ("RingPuzzleModel", "place", "I", false)
  | 17 => ("RingPuzzleModel", "before", "[I", true)
  | 18 => ("RingPuzzleModel", "read", "[I", true)
  | 19 => ("RingPuzzleModel", "readWidth", "I", false)
  | 20 => ("RingPuzzleModel", "readHeight", "I", false)
  | 21 => ("RingPuzzleModel", "at", "I", false)
  | 22 => ("RingPuzzleModel", "fault", "I", false)
  | 23 => ("RingPuzzleModel", "kept", "[I", true)
  | 24 => ("RingPuzzleModel", "present", "[I", true)
  | 25 => ("RingPuzzleModel", "first", "[I", true)
  | 26 => ("RingPuzzleModel", "looked", "I", false)
  | 27 => ("RingPuzzleModel", "found", "I", false)
  | 28 => ("RingPuzzleModel", "isCut", "Z", false)
  | _ => ("RingPuzzleModel", "hash", "J", false)
def tyX7 : Nat → FieldType := fun k => match k with
  | 0 => .array .int
  | 1 => .array .int
  | 2 => .int
  | 3 => .array .int
  | 4 => .int
  | 5 => .array .int
  | 6 => .array .int
  | 7 => .array .boolean
  | 8 => .int
  | 9 => .int
  | 10 => .int
  | 11 => .int
  | 12 => .boolean
  | 13 => .int
  | 14 => .int
  | 15 => .int
  | 16 => .int
  | 17 => .array .int
  | 18 => .array .int
  | 19 => .int
  | 20 => .int
  | 21 => .int
  | 22 => .int
  | 23 => .array .int
  | 24 => .array .int
  | 25 => .array .int
  | 26 => .int
  | 27 => .int
  | 28 => .boolean
  | _ => .long
theorem nmX7 : ∀ a, a < 30 → ∀ b, b < 30 → a ≠ b → (TX7 a).2.1 ≠ (TX7 b).2.1 := by decide +kernel
theorem tyX7_ok : ∀ k, k < 30 → parseFieldDescriptor (TX7 k).2.2.1 = some (tyX7 k) := by decide +kernel
abbrev cX7_init : ByteArray := prog_9_method_1_code
def yX7_init : MethodName := ⟨RX7, "<init>", "()V"⟩
abbrev cX7_in : ByteArray := prog_9_method_2_code
def yX7_in : MethodName := ⟨RX7, "in", "(III)Z"⟩
abbrev cX7_keeps : ByteArray := prog_9_method_3_code
def yX7_keeps : MethodName := ⟨RX7, "keeps", "()V"⟩
abbrev cX7_undo : ByteArray := prog_9_method_4_code
def yX7_undo : MethodName := ⟨RX7, "undo", "()I"⟩
abbrev cX7_cells : ByteArray := prog_9_method_5_code
def yX7_cells : MethodName := ⟨RX7, "cells", "()I"⟩
abbrev cX7_corners : ByteArray := prog_9_method_6_code
def yX7_corners : MethodName := ⟨RX7, "corners", "()I"⟩
abbrev cX7_vertical : ByteArray := prog_9_method_7_code
def yX7_vertical : MethodName := ⟨RX7, "vertical", "()I"⟩
abbrev cX7_edges : ByteArray := prog_9_method_8_code
def yX7_edges : MethodName := ⟨RX7, "edges", "()I"⟩
abbrev cX7_aroundCell : ByteArray := prog_9_method_9_code
def yX7_aroundCell : MethodName := ⟨RX7, "aroundCell", "(II)I"⟩
abbrev cX7_toward : ByteArray := prog_9_method_10_code
def yX7_toward : MethodName := ⟨RX7, "toward", "(II)I"⟩
abbrev cX7_end : ByteArray := prog_9_method_11_code
def yX7_end : MethodName := ⟨RX7, "end", "(IZ)I"⟩
abbrev cX7_markOf : ByteArray := prog_9_method_12_code
def yX7_markOf : MethodName := ⟨RX7, "markOf", "(I)I"⟩
abbrev cX7_aroundWith : ByteArray := prog_9_method_13_code
def yX7_aroundWith : MethodName := ⟨RX7, "aroundWith", "(II)I"⟩
abbrev cX7_atWith : ByteArray := prog_9_method_14_code
def yX7_atWith : MethodName := ⟨RX7, "atWith", "(II)I"⟩
abbrev cX7_openAround : ByteArray := prog_9_method_15_code
def yX7_openAround : MethodName := ⟨RX7, "openAround", "(I)I"⟩
abbrev cX7_openAt : ByteArray := prog_9_method_16_code
def yX7_openAt : MethodName := ⟨RX7, "openAt", "(I)I"⟩
abbrev cX7_top : ByteArray := prog_9_method_17_code
def yX7_top : MethodName := ⟨RX7, "top", "(I)I"⟩
abbrev cX7_joins : ByteArray := prog_9_method_18_code
def yX7_joins : MethodName := ⟨RX7, "joins", "()V"⟩
abbrev cX7_isRing : ByteArray := prog_9_method_19_code
def yX7_isRing : MethodName := ⟨RX7, "isRing", "(I)Z"⟩
abbrev cX7_areMet : ByteArray := prog_9_method_20_code
def yX7_areMet : MethodName := ⟨RX7, "areMet", "()Z"⟩
abbrev cX7_looks : ByteArray := prog_9_method_21_code
def yX7_looks : MethodName := ⟨RX7, "looks", "()V"⟩
abbrev cX7_fits : ByteArray := prog_9_method_22_code
def yX7_fits : MethodName := ⟨RX7, "fits", "()Z"⟩
abbrev cX7_finds : ByteArray := prog_9_method_23_code
def yX7_finds : MethodName := ⟨RX7, "finds", "(IIII)Z"⟩
abbrev cX7_byCells : ByteArray := prog_9_method_24_code
def yX7_byCells : MethodName := ⟨RX7, "byCells", "(I)Z"⟩
abbrev cX7_byCorners : ByteArray := prog_9_method_25_code
def yX7_byCorners : MethodName := ⟨RX7, "byCorners", "(I)Z"⟩
abbrev cX7_byRings : ByteArray := prog_9_method_26_code
def yX7_byRings : MethodName := ⟨RX7, "byRings", "()Z"⟩
abbrev cX7_findsPlain : ByteArray := prog_9_method_27_code
def yX7_findsPlain : MethodName := ⟨RX7, "findsPlain", "(I)Z"⟩
abbrev cX7_makes : ByteArray := prog_9_method_28_code
def yX7_makes : MethodName := ⟨RX7, "makes", "()V"⟩
abbrev cX7_fails : ByteArray := prog_9_method_29_code
def yX7_fails : MethodName := ⟨RX7, "fails", "(II)Z"⟩
abbrev cX7_byTrials : ByteArray := prog_9_method_30_code
def yX7_byTrials : MethodName := ⟨RX7, "byTrials", "(I)Z"⟩
abbrev cX7_findsNext : ByteArray := prog_9_method_31_code
def yX7_findsNext : MethodName := ⟨RX7, "findsNext", "(I)Z"⟩
abbrev cX7_type : ByteArray := prog_9_method_32_code
def yX7_type : MethodName := ⟨RX7, "type", "(I)I"⟩
abbrev cX7_clearText : ByteArray := prog_9_method_33_code
def yX7_clearText : MethodName := ⟨RX7, "clearText", "()I"⟩
abbrev cX7_next : ByteArray := prog_9_method_34_code
def yX7_next : MethodName := ⟨RX7, "next", "()I"⟩
abbrev cX7_readsRow : ByteArray := prog_9_method_35_code
def yX7_readsRow : MethodName := ⟨RX7, "readsRow", "(II)Z"⟩
abbrev cX7_reads : ByteArray := prog_9_method_36_code
def yX7_reads : MethodName := ⟨RX7, "reads", "()V"⟩
abbrev cX7_fault : ByteArray := prog_9_method_37_code
def yX7_fault : MethodName := ⟨RX7, "fault", "()I"⟩
abbrev cX7_setPuzzle : ByteArray := prog_9_method_38_code
def yX7_setPuzzle : MethodName := ⟨RX7, "setPuzzle", "()I"⟩
abbrev cX7_setCount : ByteArray := prog_9_method_39_code
def yX7_setCount : MethodName := ⟨RX7, "setCount", "(II)I"⟩
abbrev cX7_mark : ByteArray := prog_9_method_40_code
def yX7_mark : MethodName := ⟨RX7, "mark", "(II)I"⟩
abbrev cX7_marked : ByteArray := prog_9_method_41_code
def yX7_marked : MethodName := ⟨RX7, "marked", "(I)I"⟩
abbrev cX7_wipe : ByteArray := prog_9_method_42_code
def yX7_wipe : MethodName := ⟨RX7, "wipe", "()I"⟩
abbrev cX7_deduce : ByteArray := prog_9_method_43_code
def yX7_deduce : MethodName := ⟨RX7, "deduce", "()I"⟩
abbrev cX7_deduceAll : ByteArray := prog_9_method_44_code
def yX7_deduceAll : MethodName := ⟨RX7, "deduceAll", "(I)I"⟩
abbrev cX7_countOf : ByteArray := prog_9_method_45_code
def yX7_countOf : MethodName := ⟨RX7, "countOf", "(I)I"⟩
abbrev cX7_edge : ByteArray := prog_9_method_46_code
def yX7_edge : MethodName := ⟨RX7, "edge", "(I)I"⟩
abbrev cX7_edgeAt : ByteArray := prog_9_method_47_code
def yX7_edgeAt : MethodName := ⟨RX7, "edgeAt", "(ZII)I"⟩
abbrev cX7_misfit : ByteArray := prog_9_method_48_code
def yX7_misfit : MethodName := ⟨RX7, "misfit", "(I)I"⟩
abbrev cX7_hint : ByteArray := prog_9_method_49_code
def yX7_hint : MethodName := ⟨RX7, "hint", "(I)I"⟩
abbrev cX7_way : ByteArray := prog_9_method_50_code
def yX7_way : MethodName := ⟨RX7, "way", "(II)I"⟩
abbrev cX7_puts : ByteArray := prog_9_method_51_code
def yX7_puts : MethodName := ⟨RX7, "puts", "(I)V"⟩
abbrev cX7_takes : ByteArray := prog_9_method_52_code
def yX7_takes : MethodName := ⟨RX7, "takes", "(I)V"⟩
abbrev cX7_node : ByteArray := prog_9_method_53_code
def yX7_node : MethodName := ⟨RX7, "node", "()I"⟩
abbrev cX7_searches : ByteArray := prog_9_method_54_code
def yX7_searches : MethodName := ⟨RX7, "searches", "(I)V"⟩
abbrev cX7_solutions : ByteArray := prog_9_method_55_code
def yX7_solutions : MethodName := ⟨RX7, "solutions", "(I)I"⟩
abbrev cX7_nodes : ByteArray := prog_9_method_56_code
def yX7_nodes : MethodName := ⟨RX7, "nodes", "(I)I"⟩
abbrev cX7_solved : ByteArray := prog_9_method_57_code
def yX7_solved : MethodName := ⟨RX7, "solved", "(I)I"⟩
abbrev cX7_gradeOf : ByteArray := prog_9_method_58_code
def yX7_gradeOf : MethodName := ⟨RX7, "gradeOf", "(I)I"⟩
abbrev cX7_grade : ByteArray := prog_9_method_59_code
def yX7_grade : MethodName := ⟨RX7, "grade", "()I"⟩
abbrev cX7_counts : ByteArray := prog_9_method_60_code
def yX7_counts : MethodName := ⟨RX7, "counts", "()I"⟩
abbrev cX7_count : ByteArray := prog_9_method_61_code
def yX7_count : MethodName := ⟨RX7, "count", "(I)I"⟩
abbrev cX7_mixes : ByteArray := prog_9_method_62_code
def yX7_mixes : MethodName := ⟨RX7, "mixes", "(I)V"⟩
abbrev cX7_digest : ByteArray := prog_9_method_63_code
def yX7_digest : MethodName := ⟨RX7, "digest", "()J"⟩
def RJ13 : String := "java/lang/Long"
def TJ13 : u_T := fun k => match k with
  | _ => ("", "", "", false)
def tyJ13 : Nat → FieldType := fun k => match k with
  | _ => .int
theorem nmJ13 : ∀ a, a < 0 → ∀ b, b < 0 → a ≠ b → (TJ13 a).2.1 ≠ (TJ13 b).2.1 := by decide +kernel
theorem tyJ13_ok : ∀ k, k < 0 → parseFieldDescriptor (TJ13 k).2.2.1 = some (tyJ13 k) := by decide +kernel
abbrev cJ13_bitCount_95d88 : ByteArray := prog_10_method_50_code
def yJ13_bitCount_95d88 : MethodName := ⟨RJ13, "bitCount", "(J)I"⟩
def RJ9 : String := "java/lang/Math"
def TJ9 : u_T := fun k => match k with
  | _ => ("", "", "", false)
def tyJ9 : Nat → FieldType := fun k => match k with
  | _ => .int
theorem nmJ9 : ∀ a, a < 0 → ∀ b, b < 0 → a ≠ b → (TJ9 a).2.1 ≠ (TJ9 b).2.1 := by decide +kernel
theorem tyJ9_ok : ∀ k, k < 0 → parseFieldDescriptor (TJ9 k).2.2.1 = some (tyJ9 k) := by decide +kernel
abbrev cJ9_floorMod_7cf53 : ByteArray := prog_11_method_50_code
def yJ9_floorMod_7cf53 : MethodName := ⟨RJ9, "floorMod", "(II)I"⟩
abbrev cJ9_max_7cf53 : ByteArray := prog_11_method_65_code
def yJ9_max_7cf53 : MethodName := ⟨RJ9, "max", "(II)I"⟩
abbrev cJ9_min_7cf53 : ByteArray := prog_11_method_69_code
def yJ9_min_7cf53 : MethodName := ⟨RJ9, "min", "(II)I"⟩
def RL : String := "RingPuzzleLaw"
abbrev cL_law : ByteArray := code
def yL_law : MethodName := ⟨RL, "law", "([I)Z"⟩
abbrev vwCl : List vw_C := [(RX0, TX0, 13), (RX1, TX1, 10), (RX2, TX2, 8), (RX3, TX3, 8), (RX4, TX4, 3), (RX5, TX5, 5), (RX6, TX6, 7), (RX7, TX7, 30)]
end
section
theorem dX0_init_0 : decode cX0_init 0 = .ok (.aload_n 0, 1) := by decide +kernel
theorem dX0_init_1 : decode cX0_init 1 = .ok (.invokespecial 3, 3) := by decide +kernel
theorem dX0_init_4 : decode cX0_init 4 = .ok (.aload_n 0, 1) := by decide +kernel
theorem dX0_init_5 : decode cX0_init 5 = .ok (.iconst 5, 1) := by decide +kernel
theorem dX0_init_6 : decode cX0_init 6 = .ok (.newarray .int, 2) := by decide +kernel
theorem dX0_init_8 : decode cX0_init 8 = .ok (.putfield 9, 3) := by decide +kernel
theorem dX0_init_11 : decode cX0_init 11 = .ok (.aload_n 0, 1) := by decide +kernel
theorem dX0_init_12 : decode cX0_init 12 = .ok (.iconst (-1), 1) := by decide +kernel
theorem dX0_init_13 : decode cX0_init 13 = .ok (.putfield 15, 3) := by decide +kernel
theorem dX0_init_16 : decode cX0_init 16 = .ok (.aload_n 0, 1) := by decide +kernel
theorem dX0_init_17 : decode cX0_init 17 = .ok (.iconst (-1), 1) := by decide +kernel
theorem dX0_init_18 : decode cX0_init 18 = .ok (.putfield 19, 3) := by decide +kernel
theorem dX0_init_21 : decode cX0_init 21 = .ok (.aload_n 0, 1) := by decide +kernel
theorem dX0_init_22 : decode cX0_init 22 = .ok (.iconst (-1), 1) := by decide +kernel
theorem dX0_init_23 : decode cX0_init 23 = .ok (.putfield 22, 3) := by decide +kernel
theorem dX0_init_26 : decode cX0_init 26 = .ok (.aload_n 0, 1) := by decide +kernel
theorem dX0_init_27 : decode cX0_init 27 = .ok (.aload_n 1, 1) := by decide +kernel
theorem dX0_init_28 : decode cX0_init 28 = .ok (.putfield 25, 3) := by decide +kernel
theorem dX0_init_31 : decode cX0_init 31 = .ok (.return_, 1) := by decide +kernel
theorem dX0_fits_0 : decode cX0_fits 0 = .ok (.aload_n 0, 1) := by decide +kernel
theorem dX0_fits_1 : decode cX0_fits 1 = .ok (.getfield 29, 3) := by decide +kernel
theorem dX0_fits_4 : decode cX0_fits 4 = .ok (.ifCond .ne 23, 3) := by decide +kernel
theorem dX0_fits_7 : decode cX0_fits 7 = .ok (.aload_n 0, 1) := by decide +kernel
theorem dX0_fits_8 : decode cX0_fits 8 = .ok (.getfield 32, 3) := by decide +kernel
theorem dX0_fits_11 : decode cX0_fits 11 = .ok (.ifCond .ne 16, 3) := by decide +kernel
theorem dX0_fits_14 : decode cX0_fits 14 = .ok (.aload_n 0, 1) := by decide +kernel
theorem dX0_fits_15 : decode cX0_fits 15 = .ok (.getfield 35, 3) := by decide +kernel
theorem dX0_fits_18 : decode cX0_fits 18 = .ok (.lconst 0, 1) := by decide +kernel
theorem dX0_fits_19 : decode cX0_fits 19 = .ok (.lcmp, 1) := by decide +kernel
theorem dX0_fits_20 : decode cX0_fits 20 = .ok (.ifCond .ne 7, 3) := by decide +kernel
theorem dX0_fits_23 : decode cX0_fits 23 = .ok (.iconst 1, 1) := by decide +kernel
theorem dX0_fits_24 : decode cX0_fits 24 = .ok (.goto 4, 3) := by decide +kernel
theorem dX0_fits_27 : decode cX0_fits 27 = .ok (.iconst 0, 1) := by decide +kernel
theorem dX0_fits_28 : decode cX0_fits 28 = .ok (.ireturn, 1) := by decide +kernel
theorem dX0_finished_0 : decode cX0_finished 0 = .ok (.aload_n 0, 1) := by decide +kernel
theorem dX0_finished_1 : decode cX0_finished 1 = .ok (.getfield 39, 3) := by decide +kernel
theorem dX0_finished_4 : decode cX0_finished 4 = .ok (.ifCond .eq 14, 3) := by decide +kernel
theorem dX0_finished_7 : decode cX0_finished 7 = .ok (.aload_n 0, 1) := by decide +kernel
theorem dX0_finished_8 : decode cX0_finished 8 = .ok (.invokevirtual 43, 3) := by decide +kernel
theorem dX0_finished_11 : decode cX0_finished 11 = .ok (.ifCond .eq 7, 3) := by decide +kernel
theorem dX0_finished_14 : decode cX0_finished 14 = .ok (.iconst 1, 1) := by decide +kernel
theorem dX0_finished_15 : decode cX0_finished 15 = .ok (.goto 4, 3) := by decide +kernel
theorem dX0_finished_18 : decode cX0_finished 18 = .ok (.iconst 0, 1) := by decide +kernel
theorem dX0_finished_19 : decode cX0_finished 19 = .ok (.ireturn, 1) := by decide +kernel
theorem dX0_markOf_0 : decode cX0_markOf 0 = .ok (.aload_n 0, 1) := by decide +kernel
theorem dX0_markOf_1 : decode cX0_markOf 1 = .ok (.getfield 47, 3) := by decide +kernel
theorem dX0_markOf_4 : decode cX0_markOf 4 = .ok (.iload_n 1, 1) := by decide +kernel
theorem dX0_markOf_5 : decode cX0_markOf 5 = .ok (.lushr, 1) := by decide +kernel
theorem dX0_markOf_6 : decode cX0_markOf 6 = .ok (.lconst 1, 1) := by decide +kernel
theorem dX0_markOf_7 : decode cX0_markOf 7 = .ok (.land, 1) := by decide +kernel
theorem dX0_markOf_8 : decode cX0_markOf 8 = .ok (.lconst 0, 1) := by decide +kernel
theorem dX0_markOf_9 : decode cX0_markOf 9 = .ok (.lcmp, 1) := by decide +kernel
theorem dX0_markOf_10 : decode cX0_markOf 10 = .ok (.ifCond .eq 5, 3) := by decide +kernel
theorem dX0_markOf_13 : decode cX0_markOf 13 = .ok (.iconst 1, 1) := by decide +kernel
theorem dX0_markOf_14 : decode cX0_markOf 14 = .ok (.ireturn, 1) := by decide +kernel
theorem dX0_markOf_15 : decode cX0_markOf 15 = .ok (.aload_n 0, 1) := by decide +kernel
theorem dX0_markOf_16 : decode cX0_markOf 16 = .ok (.getfield 50, 3) := by decide +kernel
theorem dX0_markOf_19 : decode cX0_markOf 19 = .ok (.iload_n 1, 1) := by decide +kernel
theorem dX0_markOf_20 : decode cX0_markOf 20 = .ok (.lushr, 1) := by decide +kernel
theorem dX0_markOf_21 : decode cX0_markOf 21 = .ok (.lconst 1, 1) := by decide +kernel
theorem dX0_markOf_22 : decode cX0_markOf 22 = .ok (.land, 1) := by decide +kernel
theorem dX0_markOf_23 : decode cX0_markOf 23 = .ok (.lconst 0, 1) := by decide +kernel
theorem dX0_markOf_24 : decode cX0_markOf 24 = .ok (.lcmp, 1) := by decide +kernel
theorem dX0_markOf_25 : decode cX0_markOf 25 = .ok (.ifCond .eq 7, 3) := by decide +kernel
theorem dX0_markOf_28 : decode cX0_markOf 28 = .ok (.iconst 0, 1) := by decide +kernel
theorem dX0_markOf_29 : decode cX0_markOf 29 = .ok (.goto 4, 3) := by decide +kernel
theorem dX0_markOf_32 : decode cX0_markOf 32 = .ok (.iconst 2, 1) := by decide +kernel
theorem dX0_markOf_33 : decode cX0_markOf 33 = .ok (.ireturn, 1) := by decide +kernel
theorem dX0_begin_0 : decode cX0_begin 0 = .ok (.aload_n 0, 1) := by decide +kernel
theorem dX0_begin_1 : decode cX0_begin 1 = .ok (.lload_n 1, 1) := by decide +kernel
theorem dX0_begin_2 : decode cX0_begin 2 = .ok (.putfield 47, 3) := by decide +kernel
theorem dX0_begin_5 : decode cX0_begin 5 = .ok (.aload_n 0, 1) := by decide +kernel
theorem dX0_begin_6 : decode cX0_begin 6 = .ok (.lload_n 3, 1) := by decide +kernel
theorem dX0_begin_7 : decode cX0_begin 7 = .ok (.putfield 50, 3) := by decide +kernel
theorem dX0_begin_10 : decode cX0_begin 10 = .ok (.aload_n 0, 1) := by decide +kernel
theorem dX0_begin_11 : decode cX0_begin 11 = .ok (.iconst 0, 1) := by decide +kernel
theorem dX0_begin_12 : decode cX0_begin 12 = .ok (.putfield 29, 3) := by decide +kernel
theorem dX0_begin_15 : decode cX0_begin 15 = .ok (.aload_n 0, 1) := by decide +kernel
theorem dX0_begin_16 : decode cX0_begin 16 = .ok (.iconst 0, 1) := by decide +kernel
theorem dX0_begin_17 : decode cX0_begin 17 = .ok (.putfield 53, 3) := by decide +kernel
theorem dX0_begin_20 : decode cX0_begin 20 = .ok (.aload_n 0, 1) := by decide +kernel
theorem dX0_begin_21 : decode cX0_begin 21 = .ok (.iconst 0, 1) := by decide +kernel
theorem dX0_begin_22 : decode cX0_begin 22 = .ok (.putfield 32, 3) := by decide +kernel
theorem dX0_begin_25 : decode cX0_begin 25 = .ok (.aload_n 0, 1) := by decide +kernel
theorem dX0_begin_26 : decode cX0_begin 26 = .ok (.iconst 0, 1) := by decide +kernel
theorem dX0_begin_27 : decode cX0_begin 27 = .ok (.putfield 56, 3) := by decide +kernel
theorem dX0_begin_30 : decode cX0_begin 30 = .ok (.iconst 0, 1) := by decide +kernel
theorem dX0_begin_31 : decode cX0_begin 31 = .ok (.istore 5, 2) := by decide +kernel
theorem dX0_begin_33 : decode cX0_begin 33 = .ok (.iload 5, 2) := by decide +kernel
theorem dX0_begin_35 : decode cX0_begin 35 = .ok (.iconst 5, 1) := by decide +kernel
theorem dX0_begin_36 : decode cX0_begin 36 = .ok (.if_icmp .ge 17, 3) := by decide +kernel
theorem dX0_begin_39 : decode cX0_begin 39 = .ok (.aload_n 0, 1) := by decide +kernel
theorem dX0_begin_40 : decode cX0_begin 40 = .ok (.getfield 9, 3) := by decide +kernel
theorem dX0_begin_43 : decode cX0_begin 43 = .ok (.iload 5, 2) := by decide +kernel
theorem dX0_begin_45 : decode cX0_begin 45 = .ok (.iconst 0, 1) := by decide +kernel
theorem dX0_begin_46 : decode cX0_begin 46 = .ok (.iastore, 1) := by decide +kernel
theorem dX0_begin_47 : decode cX0_begin 47 = .ok (.iinc 5 1, 3) := by decide +kernel
theorem dX0_begin_50 : decode cX0_begin 50 = .ok (.goto (-17), 3) := by decide +kernel
theorem dX0_begin_53 : decode cX0_begin 53 = .ok (.iconst 0, 1) := by decide +kernel
theorem dX0_begin_54 : decode cX0_begin 54 = .ok (.istore 5, 2) := by decide +kernel
theorem dX0_begin_56 : decode cX0_begin 56 = .ok (.iload 5, 2) := by decide +kernel
theorem dX0_begin_58 : decode cX0_begin 58 = .ok (.aload_n 0, 1) := by decide +kernel
theorem dX0_begin_59 : decode cX0_begin 59 = .ok (.getfield 25, 3) := by decide +kernel
theorem dX0_begin_62 : decode cX0_begin 62 = .ok (.getfield 59, 3) := by decide +kernel
theorem dX0_begin_65 : decode cX0_begin 65 = .ok (.if_icmp .ge 15, 3) := by decide +kernel
theorem dX0_begin_68 : decode cX0_begin 68 = .ok (.aload_n 0, 1) := by decide +kernel
theorem dX0_begin_69 : decode cX0_begin 69 = .ok (.iload 5, 2) := by decide +kernel
theorem dX0_begin_71 : decode cX0_begin 71 = .ok (.invokevirtual 64, 3) := by decide +kernel
theorem dX0_begin_74 : decode cX0_begin 74 = .ok (.iinc 5 1, 3) := by decide +kernel
theorem dX0_begin_77 : decode cX0_begin 77 = .ok (.goto (-21), 3) := by decide +kernel
theorem dX0_begin_80 : decode cX0_begin 80 = .ok (.iconst 0, 1) := by decide +kernel
theorem dX0_begin_81 : decode cX0_begin 81 = .ok (.istore 5, 2) := by decide +kernel
theorem dX0_begin_83 : decode cX0_begin 83 = .ok (.iload 5, 2) := by decide +kernel
theorem dX0_begin_85 : decode cX0_begin 85 = .ok (.aload_n 0, 1) := by decide +kernel
theorem dX0_begin_86 : decode cX0_begin 86 = .ok (.getfield 25, 3) := by decide +kernel
theorem dX0_begin_89 : decode cX0_begin 89 = .ok (.getfield 68, 3) := by decide +kernel
theorem dX0_begin_92 : decode cX0_begin 92 = .ok (.if_icmp .ge 15, 3) := by decide +kernel
theorem dX0_begin_95 : decode cX0_begin 95 = .ok (.aload_n 0, 1) := by decide +kernel
theorem dX0_begin_96 : decode cX0_begin 96 = .ok (.iload 5, 2) := by decide +kernel
theorem dX0_begin_98 : decode cX0_begin 98 = .ok (.invokevirtual 71, 3) := by decide +kernel
theorem dX0_begin_101 : decode cX0_begin 101 = .ok (.iinc 5 1, 3) := by decide +kernel
theorem dX0_begin_104 : decode cX0_begin 104 = .ok (.goto (-21), 3) := by decide +kernel
theorem dX0_begin_107 : decode cX0_begin 107 = .ok (.aload_n 0, 1) := by decide +kernel
theorem dX0_begin_108 : decode cX0_begin 108 = .ok (.invokevirtual 74, 3) := by decide +kernel
theorem dX0_begin_111 : decode cX0_begin 111 = .ok (.return_, 1) := by decide +kernel
theorem dX0_copyFrom_0 : decode cX0_copyFrom 0 = .ok (.aload_n 0, 1) := by decide +kernel
theorem dX0_copyFrom_1 : decode cX0_copyFrom 1 = .ok (.aload_n 1, 1) := by decide +kernel
theorem dX0_copyFrom_2 : decode cX0_copyFrom 2 = .ok (.getfield 47, 3) := by decide +kernel
theorem dX0_copyFrom_5 : decode cX0_copyFrom 5 = .ok (.putfield 47, 3) := by decide +kernel
theorem dX0_copyFrom_8 : decode cX0_copyFrom 8 = .ok (.aload_n 0, 1) := by decide +kernel
theorem dX0_copyFrom_9 : decode cX0_copyFrom 9 = .ok (.aload_n 1, 1) := by decide +kernel
theorem dX0_copyFrom_10 : decode cX0_copyFrom 10 = .ok (.getfield 50, 3) := by decide +kernel
theorem dX0_copyFrom_13 : decode cX0_copyFrom 13 = .ok (.putfield 50, 3) := by decide +kernel
theorem dX0_copyFrom_16 : decode cX0_copyFrom 16 = .ok (.aload_n 0, 1) := by decide +kernel
theorem dX0_copyFrom_17 : decode cX0_copyFrom 17 = .ok (.aload_n 1, 1) := by decide +kernel
theorem dX0_copyFrom_18 : decode cX0_copyFrom 18 = .ok (.getfield 29, 3) := by decide +kernel
theorem dX0_copyFrom_21 : decode cX0_copyFrom 21 = .ok (.putfield 29, 3) := by decide +kernel
theorem dX0_copyFrom_24 : decode cX0_copyFrom 24 = .ok (.aload_n 0, 1) := by decide +kernel
theorem dX0_copyFrom_25 : decode cX0_copyFrom 25 = .ok (.aload_n 1, 1) := by decide +kernel
theorem dX0_copyFrom_26 : decode cX0_copyFrom 26 = .ok (.getfield 53, 3) := by decide +kernel
theorem dX0_copyFrom_29 : decode cX0_copyFrom 29 = .ok (.putfield 53, 3) := by decide +kernel
theorem dX0_copyFrom_32 : decode cX0_copyFrom 32 = .ok (.aload_n 0, 1) := by decide +kernel
theorem dX0_copyFrom_33 : decode cX0_copyFrom 33 = .ok (.aload_n 1, 1) := by decide +kernel
theorem dX0_copyFrom_34 : decode cX0_copyFrom 34 = .ok (.getfield 32, 3) := by decide +kernel
theorem dX0_copyFrom_37 : decode cX0_copyFrom 37 = .ok (.putfield 32, 3) := by decide +kernel
theorem dX0_copyFrom_40 : decode cX0_copyFrom 40 = .ok (.aload_n 0, 1) := by decide +kernel
theorem dX0_copyFrom_41 : decode cX0_copyFrom 41 = .ok (.aload_n 1, 1) := by decide +kernel
theorem dX0_copyFrom_42 : decode cX0_copyFrom 42 = .ok (.getfield 56, 3) := by decide +kernel
theorem dX0_copyFrom_45 : decode cX0_copyFrom 45 = .ok (.putfield 56, 3) := by decide +kernel
theorem dX0_copyFrom_48 : decode cX0_copyFrom 48 = .ok (.aload_n 0, 1) := by decide +kernel
theorem dX0_copyFrom_49 : decode cX0_copyFrom 49 = .ok (.aload_n 1, 1) := by decide +kernel
theorem dX0_copyFrom_50 : decode cX0_copyFrom 50 = .ok (.getfield 35, 3) := by decide +kernel
theorem dX0_copyFrom_53 : decode cX0_copyFrom 53 = .ok (.putfield 35, 3) := by decide +kernel
theorem dX0_copyFrom_56 : decode cX0_copyFrom 56 = .ok (.aload_n 0, 1) := by decide +kernel
theorem dX0_copyFrom_57 : decode cX0_copyFrom 57 = .ok (.aload_n 1, 1) := by decide +kernel
theorem dX0_copyFrom_58 : decode cX0_copyFrom 58 = .ok (.getfield 39, 3) := by decide +kernel
theorem dX0_copyFrom_61 : decode cX0_copyFrom 61 = .ok (.putfield 39, 3) := by decide +kernel
theorem dX0_copyFrom_64 : decode cX0_copyFrom 64 = .ok (.iconst 0, 1) := by decide +kernel
theorem dX0_copyFrom_65 : decode cX0_copyFrom 65 = .ok (.istore_n 2, 1) := by decide +kernel
theorem dX0_copyFrom_66 : decode cX0_copyFrom 66 = .ok (.iload_n 2, 1) := by decide +kernel
theorem dX0_copyFrom_67 : decode cX0_copyFrom 67 = .ok (.iconst 5, 1) := by decide +kernel
theorem dX0_copyFrom_68 : decode cX0_copyFrom 68 = .ok (.if_icmp .ge 21, 3) := by decide +kernel
theorem dX0_copyFrom_71 : decode cX0_copyFrom 71 = .ok (.aload_n 0, 1) := by decide +kernel
theorem dX0_copyFrom_72 : decode cX0_copyFrom 72 = .ok (.getfield 9, 3) := by decide +kernel
theorem dX0_copyFrom_75 : decode cX0_copyFrom 75 = .ok (.iload_n 2, 1) := by decide +kernel
theorem dX0_copyFrom_76 : decode cX0_copyFrom 76 = .ok (.aload_n 1, 1) := by decide +kernel
theorem dX0_copyFrom_77 : decode cX0_copyFrom 77 = .ok (.getfield 9, 3) := by decide +kernel
theorem dX0_copyFrom_80 : decode cX0_copyFrom 80 = .ok (.iload_n 2, 1) := by decide +kernel
theorem dX0_copyFrom_81 : decode cX0_copyFrom 81 = .ok (.iaload, 1) := by decide +kernel
theorem dX0_copyFrom_82 : decode cX0_copyFrom 82 = .ok (.iastore, 1) := by decide +kernel
theorem dX0_copyFrom_83 : decode cX0_copyFrom 83 = .ok (.iinc 2 1, 3) := by decide +kernel
theorem dX0_copyFrom_86 : decode cX0_copyFrom 86 = .ok (.goto (-20), 3) := by decide +kernel
theorem dX0_copyFrom_89 : decode cX0_copyFrom 89 = .ok (.return_, 1) := by decide +kernel
theorem dX0_settleEdge_0 : decode cX0_settleEdge 0 = .ok (.aload_n 0, 1) := by decide +kernel
theorem dX0_settleEdge_1 : decode cX0_settleEdge 1 = .ok (.getfield 25, 3) := by decide +kernel
theorem dX0_settleEdge_4 : decode cX0_settleEdge 4 = .ok (.iload_n 1, 1) := by decide +kernel
theorem dX0_settleEdge_5 : decode cX0_settleEdge 5 = .ok (.invokevirtual 77, 3) := by decide +kernel
theorem dX0_settleEdge_8 : decode cX0_settleEdge 8 = .ok (.ifCond .ne 4, 3) := by decide +kernel
theorem dX0_settleEdge_11 : decode cX0_settleEdge 11 = .ok (.return_, 1) := by decide +kernel
theorem dX0_settleEdge_12 : decode cX0_settleEdge 12 = .ok (.lconst 1, 1) := by decide +kernel
theorem dX0_settleEdge_13 : decode cX0_settleEdge 13 = .ok (.iload_n 1, 1) := by decide +kernel
theorem dX0_settleEdge_14 : decode cX0_settleEdge 14 = .ok (.lshl, 1) := by decide +kernel
theorem dX0_settleEdge_15 : decode cX0_settleEdge 15 = .ok (.lstore_n 3, 1) := by decide +kernel
theorem dX0_settleEdge_16 : decode cX0_settleEdge 16 = .ok (.aload_n 0, 1) := by decide +kernel
theorem dX0_settleEdge_17 : decode cX0_settleEdge 17 = .ok (.dup, 1) := by decide +kernel
theorem dX0_settleEdge_18 : decode cX0_settleEdge 18 = .ok (.getfield 50, 3) := by decide +kernel
theorem dX0_settleEdge_21 : decode cX0_settleEdge 21 = .ok (.lload_n 3, 1) := by decide +kernel
theorem dX0_settleEdge_22 : decode cX0_settleEdge 22 = .ok (.ldc2_w 81, 3) := by decide +kernel
theorem dX0_settleEdge_25 : decode cX0_settleEdge 25 = .ok (.lxor, 1) := by decide +kernel
theorem dX0_settleEdge_26 : decode cX0_settleEdge 26 = .ok (.land, 1) := by decide +kernel
theorem dX0_settleEdge_27 : decode cX0_settleEdge 27 = .ok (.putfield 50, 3) := by decide +kernel
theorem dX0_settleEdge_30 : decode cX0_settleEdge 30 = .ok (.iload_n 2, 1) := by decide +kernel
theorem dX0_settleEdge_31 : decode cX0_settleEdge 31 = .ok (.iconst 1, 1) := by decide +kernel
theorem dX0_settleEdge_32 : decode cX0_settleEdge 32 = .ok (.if_icmp .ne 13, 3) := by decide +kernel
theorem dX0_settleEdge_35 : decode cX0_settleEdge 35 = .ok (.aload_n 0, 1) := by decide +kernel
theorem dX0_settleEdge_36 : decode cX0_settleEdge 36 = .ok (.dup, 1) := by decide +kernel
theorem dX0_settleEdge_37 : decode cX0_settleEdge 37 = .ok (.getfield 47, 3) := by decide +kernel
theorem dX0_settleEdge_40 : decode cX0_settleEdge 40 = .ok (.lload_n 3, 1) := by decide +kernel
theorem dX0_settleEdge_41 : decode cX0_settleEdge 41 = .ok (.lor, 1) := by decide +kernel
theorem dX0_settleEdge_42 : decode cX0_settleEdge 42 = .ok (.putfield 47, 3) := by decide +kernel
theorem dX0_settleEdge_45 : decode cX0_settleEdge 45 = .ok (.aload_n 0, 1) := by decide +kernel
theorem dX0_settleEdge_46 : decode cX0_settleEdge 46 = .ok (.aload_n 0, 1) := by decide +kernel
theorem dX0_settleEdge_47 : decode cX0_settleEdge 47 = .ok (.getfield 25, 3) := by decide +kernel
theorem dX0_settleEdge_50 : decode cX0_settleEdge 50 = .ok (.getfield 83, 3) := by decide +kernel
theorem dX0_settleEdge_53 : decode cX0_settleEdge 53 = .ok (.iconst 2, 1) := by decide +kernel
theorem dX0_settleEdge_54 : decode cX0_settleEdge 54 = .ok (.iload_n 1, 1) := by decide +kernel
theorem dX0_settleEdge_55 : decode cX0_settleEdge 55 = .ok (.imul, 1) := by decide +kernel
theorem dX0_settleEdge_56 : decode cX0_settleEdge 56 = .ok (.iaload, 1) := by decide +kernel
theorem dX0_settleEdge_57 : decode cX0_settleEdge 57 = .ok (.invokevirtual 64, 3) := by decide +kernel
theorem dX0_settleEdge_60 : decode cX0_settleEdge 60 = .ok (.aload_n 0, 1) := by decide +kernel
theorem dX0_settleEdge_61 : decode cX0_settleEdge 61 = .ok (.aload_n 0, 1) := by decide +kernel
theorem dX0_settleEdge_62 : decode cX0_settleEdge 62 = .ok (.getfield 25, 3) := by decide +kernel
theorem dX0_settleEdge_65 : decode cX0_settleEdge 65 = .ok (.getfield 83, 3) := by decide +kernel
theorem dX0_settleEdge_68 : decode cX0_settleEdge 68 = .ok (.iconst 2, 1) := by decide +kernel
theorem dX0_settleEdge_69 : decode cX0_settleEdge 69 = .ok (.iload_n 1, 1) := by decide +kernel
theorem dX0_settleEdge_70 : decode cX0_settleEdge 70 = .ok (.imul, 1) := by decide +kernel
theorem dX0_settleEdge_71 : decode cX0_settleEdge 71 = .ok (.iconst 1, 1) := by decide +kernel
theorem dX0_settleEdge_72 : decode cX0_settleEdge 72 = .ok (.iadd, 1) := by decide +kernel
theorem dX0_settleEdge_73 : decode cX0_settleEdge 73 = .ok (.iaload, 1) := by decide +kernel
theorem dX0_settleEdge_74 : decode cX0_settleEdge 74 = .ok (.invokevirtual 64, 3) := by decide +kernel
theorem dX0_settleEdge_77 : decode cX0_settleEdge 77 = .ok (.aload_n 0, 1) := by decide +kernel
theorem dX0_settleEdge_78 : decode cX0_settleEdge 78 = .ok (.aload_n 0, 1) := by decide +kernel
theorem dX0_settleEdge_79 : decode cX0_settleEdge 79 = .ok (.getfield 25, 3) := by decide +kernel
theorem dX0_settleEdge_82 : decode cX0_settleEdge 82 = .ok (.getfield 86, 3) := by decide +kernel
theorem dX0_settleEdge_85 : decode cX0_settleEdge 85 = .ok (.iconst 2, 1) := by decide +kernel
theorem dX0_settleEdge_86 : decode cX0_settleEdge 86 = .ok (.iload_n 1, 1) := by decide +kernel
theorem dX0_settleEdge_87 : decode cX0_settleEdge 87 = .ok (.imul, 1) := by decide +kernel
theorem dX0_settleEdge_88 : decode cX0_settleEdge 88 = .ok (.iaload, 1) := by decide +kernel
theorem dX0_settleEdge_89 : decode cX0_settleEdge 89 = .ok (.invokevirtual 71, 3) := by decide +kernel
theorem dX0_settleEdge_92 : decode cX0_settleEdge 92 = .ok (.aload_n 0, 1) := by decide +kernel
theorem dX0_settleEdge_93 : decode cX0_settleEdge 93 = .ok (.aload_n 0, 1) := by decide +kernel
theorem dX0_settleEdge_94 : decode cX0_settleEdge 94 = .ok (.getfield 25, 3) := by decide +kernel
theorem dX0_settleEdge_97 : decode cX0_settleEdge 97 = .ok (.getfield 86, 3) := by decide +kernel
theorem dX0_settleEdge_100 : decode cX0_settleEdge 100 = .ok (.iconst 2, 1) := by decide +kernel
theorem dX0_settleEdge_101 : decode cX0_settleEdge 101 = .ok (.iload_n 1, 1) := by decide +kernel
theorem dX0_settleEdge_102 : decode cX0_settleEdge 102 = .ok (.imul, 1) := by decide +kernel
theorem dX0_settleEdge_103 : decode cX0_settleEdge 103 = .ok (.iconst 1, 1) := by decide +kernel
theorem dX0_settleEdge_104 : decode cX0_settleEdge 104 = .ok (.iadd, 1) := by decide +kernel
theorem dX0_settleEdge_105 : decode cX0_settleEdge 105 = .ok (.iaload, 1) := by decide +kernel
theorem dX0_settleEdge_106 : decode cX0_settleEdge 106 = .ok (.invokevirtual 71, 3) := by decide +kernel
theorem dX0_settleEdge_109 : decode cX0_settleEdge 109 = .ok (.iload_n 2, 1) := by decide +kernel
theorem dX0_settleEdge_110 : decode cX0_settleEdge 110 = .ok (.iconst 1, 1) := by decide +kernel
theorem dX0_settleEdge_111 : decode cX0_settleEdge 111 = .ok (.if_icmp .ne 12, 3) := by decide +kernel
theorem dX0_settleEdge_114 : decode cX0_settleEdge 114 = .ok (.aload_n 0, 1) := by decide +kernel
theorem dX0_settleEdge_115 : decode cX0_settleEdge 115 = .ok (.aload_n 0, 1) := by decide +kernel
theorem dX0_settleEdge_116 : decode cX0_settleEdge 116 = .ok (.lload_n 3, 1) := by decide +kernel
theorem dX0_settleEdge_117 : decode cX0_settleEdge 117 = .ok (.invokevirtual 89, 3) := by decide +kernel
theorem dX0_settleEdge_120 : decode cX0_settleEdge 120 = .ok (.invokevirtual 93, 3) := by decide +kernel
theorem dX0_settleEdge_123 : decode cX0_settleEdge 123 = .ok (.return_, 1) := by decide +kernel
theorem dX0_lookAtCell_0 : decode cX0_lookAtCell 0 = .ok (.aload_n 0, 1) := by decide +kernel
theorem dX0_lookAtCell_1 : decode cX0_lookAtCell 1 = .ok (.getfield 25, 3) := by decide +kernel
theorem dX0_lookAtCell_4 : decode cX0_lookAtCell 4 = .ok (.iload_n 1, 1) := by decide +kernel
theorem dX0_lookAtCell_5 : decode cX0_lookAtCell 5 = .ok (.invokevirtual 97, 3) := by decide +kernel
theorem dX0_lookAtCell_8 : decode cX0_lookAtCell 8 = .ok (.ifCond .eq 16, 3) := by decide +kernel
theorem dX0_lookAtCell_11 : decode cX0_lookAtCell 11 = .ok (.aload_n 0, 1) := by decide +kernel
theorem dX0_lookAtCell_12 : decode cX0_lookAtCell 12 = .ok (.getfield 25, 3) := by decide +kernel
theorem dX0_lookAtCell_15 : decode cX0_lookAtCell 15 = .ok (.getfield 100, 3) := by decide +kernel
theorem dX0_lookAtCell_18 : decode cX0_lookAtCell 18 = .ok (.iload_n 1, 1) := by decide +kernel
theorem dX0_lookAtCell_19 : decode cX0_lookAtCell 19 = .ok (.iaload, 1) := by decide +kernel
theorem dX0_lookAtCell_20 : decode cX0_lookAtCell 20 = .ok (.iconst (-1), 1) := by decide +kernel
theorem dX0_lookAtCell_21 : decode cX0_lookAtCell 21 = .ok (.if_icmp .ne 4, 3) := by decide +kernel
theorem dX0_lookAtCell_24 : decode cX0_lookAtCell 24 = .ok (.return_, 1) := by decide +kernel
theorem dX0_lookAtCell_25 : decode cX0_lookAtCell 25 = .ok (.aload_n 0, 1) := by decide +kernel
theorem dX0_lookAtCell_26 : decode cX0_lookAtCell 26 = .ok (.getfield 25, 3) := by decide +kernel
theorem dX0_lookAtCell_29 : decode cX0_lookAtCell 29 = .ok (.getfield 100, 3) := by decide +kernel
theorem dX0_lookAtCell_32 : decode cX0_lookAtCell 32 = .ok (.iload_n 1, 1) := by decide +kernel
theorem dX0_lookAtCell_33 : decode cX0_lookAtCell 33 = .ok (.iaload, 1) := by decide +kernel
theorem dX0_lookAtCell_34 : decode cX0_lookAtCell 34 = .ok (.istore_n 2, 1) := by decide +kernel
theorem dX0_lookAtCell_35 : decode cX0_lookAtCell 35 = .ok (.aload_n 0, 1) := by decide +kernel
theorem dX0_lookAtCell_36 : decode cX0_lookAtCell 36 = .ok (.getfield 25, 3) := by decide +kernel
theorem dX0_lookAtCell_39 : decode cX0_lookAtCell 39 = .ok (.getfield 103, 3) := by decide +kernel
theorem dX0_lookAtCell_42 : decode cX0_lookAtCell 42 = .ok (.iload_n 1, 1) := by decide +kernel
theorem dX0_lookAtCell_43 : decode cX0_lookAtCell 43 = .ok (.laload, 1) := by decide +kernel
theorem dX0_lookAtCell_44 : decode cX0_lookAtCell 44 = .ok (.aload_n 0, 1) := by decide +kernel
theorem dX0_lookAtCell_45 : decode cX0_lookAtCell 45 = .ok (.getfield 47, 3) := by decide +kernel
theorem dX0_lookAtCell_48 : decode cX0_lookAtCell 48 = .ok (.land, 1) := by decide +kernel
theorem dX0_lookAtCell_49 : decode cX0_lookAtCell 49 = .ok (.invokestatic 107, 3) := by decide +kernel
theorem dX0_lookAtCell_52 : decode cX0_lookAtCell 52 = .ok (.istore_n 3, 1) := by decide +kernel
theorem dX0_lookAtCell_53 : decode cX0_lookAtCell 53 = .ok (.aload_n 0, 1) := by decide +kernel
theorem dX0_lookAtCell_54 : decode cX0_lookAtCell 54 = .ok (.getfield 25, 3) := by decide +kernel
theorem dX0_lookAtCell_57 : decode cX0_lookAtCell 57 = .ok (.getfield 103, 3) := by decide +kernel
theorem dX0_lookAtCell_60 : decode cX0_lookAtCell 60 = .ok (.iload_n 1, 1) := by decide +kernel
theorem dX0_lookAtCell_61 : decode cX0_lookAtCell 61 = .ok (.laload, 1) := by decide +kernel
theorem dX0_lookAtCell_62 : decode cX0_lookAtCell 62 = .ok (.aload_n 0, 1) := by decide +kernel
theorem dX0_lookAtCell_63 : decode cX0_lookAtCell 63 = .ok (.getfield 50, 3) := by decide +kernel
theorem dX0_lookAtCell_66 : decode cX0_lookAtCell 66 = .ok (.land, 1) := by decide +kernel
theorem dX0_lookAtCell_67 : decode cX0_lookAtCell 67 = .ok (.invokestatic 107, 3) := by decide +kernel
theorem dX0_lookAtCell_70 : decode cX0_lookAtCell 70 = .ok (.istore 4, 2) := by decide +kernel
theorem dX0_lookAtCell_72 : decode cX0_lookAtCell 72 = .ok (.aload_n 0, 1) := by decide +kernel
theorem dX0_lookAtCell_73 : decode cX0_lookAtCell 73 = .ok (.aload_n 0, 1) := by decide +kernel
theorem dX0_lookAtCell_74 : decode cX0_lookAtCell 74 = .ok (.getfield 29, 3) := by decide +kernel
theorem dX0_lookAtCell_77 : decode cX0_lookAtCell 77 = .ok (.iload_n 1, 1) := by decide +kernel
theorem dX0_lookAtCell_78 : decode cX0_lookAtCell 78 = .ok (.iload_n 3, 1) := by decide +kernel
theorem dX0_lookAtCell_79 : decode cX0_lookAtCell 79 = .ok (.iload_n 2, 1) := by decide +kernel
theorem dX0_lookAtCell_80 : decode cX0_lookAtCell 80 = .ok (.if_icmp .gt 11, 3) := by decide +kernel
theorem dX0_lookAtCell_83 : decode cX0_lookAtCell 83 = .ok (.iload_n 3, 1) := by decide +kernel
theorem dX0_lookAtCell_84 : decode cX0_lookAtCell 84 = .ok (.iload 4, 2) := by decide +kernel
theorem dX0_lookAtCell_86 : decode cX0_lookAtCell 86 = .ok (.iadd, 1) := by decide +kernel
theorem dX0_lookAtCell_87 : decode cX0_lookAtCell 87 = .ok (.iload_n 2, 1) := by decide +kernel
theorem dX0_lookAtCell_88 : decode cX0_lookAtCell 88 = .ok (.if_icmp .ge 7, 3) := by decide +kernel
theorem dX0_lookAtCell_91 : decode cX0_lookAtCell 91 = .ok (.iconst 1, 1) := by decide +kernel
theorem dX0_lookAtCell_92 : decode cX0_lookAtCell 92 = .ok (.goto 4, 3) := by decide +kernel
theorem dX0_lookAtCell_95 : decode cX0_lookAtCell 95 = .ok (.iconst 0, 1) := by decide +kernel
theorem dX0_lookAtCell_96 : decode cX0_lookAtCell 96 = .ok (.invokestatic 113, 3) := by decide +kernel
theorem dX0_lookAtCell_99 : decode cX0_lookAtCell 99 = .ok (.putfield 29, 3) := by decide +kernel
theorem dX0_lookAtCell_102 : decode cX0_lookAtCell 102 = .ok (.aload_n 0, 1) := by decide +kernel
theorem dX0_lookAtCell_103 : decode cX0_lookAtCell 103 = .ok (.aload_n 0, 1) := by decide +kernel
theorem dX0_lookAtCell_104 : decode cX0_lookAtCell 104 = .ok (.getfield 53, 3) := by decide +kernel
theorem dX0_lookAtCell_107 : decode cX0_lookAtCell 107 = .ok (.iload_n 1, 1) := by decide +kernel
theorem dX0_lookAtCell_108 : decode cX0_lookAtCell 108 = .ok (.iload_n 3, 1) := by decide +kernel
theorem dX0_lookAtCell_109 : decode cX0_lookAtCell 109 = .ok (.iload_n 2, 1) := by decide +kernel
theorem dX0_lookAtCell_110 : decode cX0_lookAtCell 110 = .ok (.if_icmp .eq 7, 3) := by decide +kernel
theorem dX0_lookAtCell_113 : decode cX0_lookAtCell 113 = .ok (.iconst 1, 1) := by decide +kernel
theorem dX0_lookAtCell_114 : decode cX0_lookAtCell 114 = .ok (.goto 4, 3) := by decide +kernel
theorem dX0_lookAtCell_117 : decode cX0_lookAtCell 117 = .ok (.iconst 0, 1) := by decide +kernel
theorem dX0_lookAtCell_118 : decode cX0_lookAtCell 118 = .ok (.invokestatic 113, 3) := by decide +kernel
theorem dX0_lookAtCell_121 : decode cX0_lookAtCell 121 = .ok (.putfield 53, 3) := by decide +kernel
theorem dX0_lookAtCell_124 : decode cX0_lookAtCell 124 = .ok (.aload_n 0, 1) := by decide +kernel
theorem dX0_lookAtCell_125 : decode cX0_lookAtCell 125 = .ok (.getfield 9, 3) := by decide +kernel
theorem dX0_lookAtCell_128 : decode cX0_lookAtCell 128 = .ok (.iconst 0, 1) := by decide +kernel
theorem dX0_lookAtCell_129 : decode cX0_lookAtCell 129 = .ok (.aload_n 0, 1) := by decide +kernel
theorem dX0_lookAtCell_130 : decode cX0_lookAtCell 130 = .ok (.getfield 9, 3) := by decide +kernel
theorem dX0_lookAtCell_133 : decode cX0_lookAtCell 133 = .ok (.iconst 0, 1) := by decide +kernel
theorem dX0_lookAtCell_134 : decode cX0_lookAtCell 134 = .ok (.iaload, 1) := by decide +kernel
theorem dX0_lookAtCell_135 : decode cX0_lookAtCell 135 = .ok (.iload_n 1, 1) := by decide +kernel
theorem dX0_lookAtCell_136 : decode cX0_lookAtCell 136 = .ok (.iload 4, 2) := by decide +kernel
theorem dX0_lookAtCell_138 : decode cX0_lookAtCell 138 = .ok (.ifCond .le 12, 3) := by decide +kernel
theorem dX0_lookAtCell_141 : decode cX0_lookAtCell 141 = .ok (.iload_n 3, 1) := by decide +kernel
theorem dX0_lookAtCell_142 : decode cX0_lookAtCell 142 = .ok (.iload_n 2, 1) := by decide +kernel
theorem dX0_lookAtCell_143 : decode cX0_lookAtCell 143 = .ok (.if_icmp .ne 7, 3) := by decide +kernel
theorem dX0_lookAtCell_146 : decode cX0_lookAtCell 146 = .ok (.iconst 1, 1) := by decide +kernel
theorem dX0_lookAtCell_147 : decode cX0_lookAtCell 147 = .ok (.goto 4, 3) := by decide +kernel
theorem dX0_lookAtCell_150 : decode cX0_lookAtCell 150 = .ok (.iconst 0, 1) := by decide +kernel
theorem dX0_lookAtCell_151 : decode cX0_lookAtCell 151 = .ok (.invokestatic 113, 3) := by decide +kernel
theorem dX0_lookAtCell_154 : decode cX0_lookAtCell 154 = .ok (.iastore, 1) := by decide +kernel
theorem dX0_lookAtCell_155 : decode cX0_lookAtCell 155 = .ok (.aload_n 0, 1) := by decide +kernel
theorem dX0_lookAtCell_156 : decode cX0_lookAtCell 156 = .ok (.getfield 9, 3) := by decide +kernel
theorem dX0_lookAtCell_159 : decode cX0_lookAtCell 159 = .ok (.iconst 1, 1) := by decide +kernel
theorem dX0_lookAtCell_160 : decode cX0_lookAtCell 160 = .ok (.aload_n 0, 1) := by decide +kernel
theorem dX0_lookAtCell_161 : decode cX0_lookAtCell 161 = .ok (.getfield 9, 3) := by decide +kernel
theorem dX0_lookAtCell_164 : decode cX0_lookAtCell 164 = .ok (.iconst 1, 1) := by decide +kernel
theorem dX0_lookAtCell_165 : decode cX0_lookAtCell 165 = .ok (.iaload, 1) := by decide +kernel
theorem dX0_lookAtCell_166 : decode cX0_lookAtCell 166 = .ok (.iload_n 1, 1) := by decide +kernel
theorem dX0_lookAtCell_167 : decode cX0_lookAtCell 167 = .ok (.iload 4, 2) := by decide +kernel
theorem dX0_lookAtCell_169 : decode cX0_lookAtCell 169 = .ok (.ifCond .le 15, 3) := by decide +kernel
theorem dX0_lookAtCell_172 : decode cX0_lookAtCell 172 = .ok (.iload_n 3, 1) := by decide +kernel
theorem dX0_lookAtCell_173 : decode cX0_lookAtCell 173 = .ok (.iload 4, 2) := by decide +kernel
theorem dX0_lookAtCell_175 : decode cX0_lookAtCell 175 = .ok (.iadd, 1) := by decide +kernel
theorem dX0_lookAtCell_176 : decode cX0_lookAtCell 176 = .ok (.iload_n 2, 1) := by decide +kernel
theorem dX0_lookAtCell_177 : decode cX0_lookAtCell 177 = .ok (.if_icmp .ne 7, 3) := by decide +kernel
theorem dX0_lookAtCell_180 : decode cX0_lookAtCell 180 = .ok (.iconst 1, 1) := by decide +kernel
theorem dX0_lookAtCell_181 : decode cX0_lookAtCell 181 = .ok (.goto 4, 3) := by decide +kernel
theorem dX0_lookAtCell_184 : decode cX0_lookAtCell 184 = .ok (.iconst 0, 1) := by decide +kernel
theorem dX0_lookAtCell_185 : decode cX0_lookAtCell 185 = .ok (.invokestatic 113, 3) := by decide +kernel
theorem dX0_lookAtCell_188 : decode cX0_lookAtCell 188 = .ok (.iastore, 1) := by decide +kernel
theorem dX0_lookAtCell_189 : decode cX0_lookAtCell 189 = .ok (.return_, 1) := by decide +kernel
theorem dX0_lookAtCorner_0 : decode cX0_lookAtCorner 0 = .ok (.aload_n 0, 1) := by decide +kernel
theorem dX0_lookAtCorner_1 : decode cX0_lookAtCorner 1 = .ok (.getfield 25, 3) := by decide +kernel
theorem dX0_lookAtCorner_4 : decode cX0_lookAtCorner 4 = .ok (.iload_n 1, 1) := by decide +kernel
theorem dX0_lookAtCorner_5 : decode cX0_lookAtCorner 5 = .ok (.invokevirtual 117, 3) := by decide +kernel
theorem dX0_lookAtCorner_8 : decode cX0_lookAtCorner 8 = .ok (.ifCond .ne 4, 3) := by decide +kernel
theorem dX0_lookAtCorner_11 : decode cX0_lookAtCorner 11 = .ok (.return_, 1) := by decide +kernel
theorem dX0_lookAtCorner_12 : decode cX0_lookAtCorner 12 = .ok (.aload_n 0, 1) := by decide +kernel
theorem dX0_lookAtCorner_13 : decode cX0_lookAtCorner 13 = .ok (.getfield 25, 3) := by decide +kernel
theorem dX0_lookAtCorner_16 : decode cX0_lookAtCorner 16 = .ok (.getfield 120, 3) := by decide +kernel
theorem dX0_lookAtCorner_19 : decode cX0_lookAtCorner 19 = .ok (.iload_n 1, 1) := by decide +kernel
theorem dX0_lookAtCorner_20 : decode cX0_lookAtCorner 20 = .ok (.laload, 1) := by decide +kernel
theorem dX0_lookAtCorner_21 : decode cX0_lookAtCorner 21 = .ok (.aload_n 0, 1) := by decide +kernel
theorem dX0_lookAtCorner_22 : decode cX0_lookAtCorner 22 = .ok (.getfield 47, 3) := by decide +kernel
theorem dX0_lookAtCorner_25 : decode cX0_lookAtCorner 25 = .ok (.land, 1) := by decide +kernel
theorem dX0_lookAtCorner_26 : decode cX0_lookAtCorner 26 = .ok (.invokestatic 107, 3) := by decide +kernel
theorem dX0_lookAtCorner_29 : decode cX0_lookAtCorner 29 = .ok (.istore_n 2, 1) := by decide +kernel
theorem dX0_lookAtCorner_30 : decode cX0_lookAtCorner 30 = .ok (.aload_n 0, 1) := by decide +kernel
theorem dX0_lookAtCorner_31 : decode cX0_lookAtCorner 31 = .ok (.getfield 25, 3) := by decide +kernel
theorem dX0_lookAtCorner_34 : decode cX0_lookAtCorner 34 = .ok (.getfield 120, 3) := by decide +kernel
theorem dX0_lookAtCorner_37 : decode cX0_lookAtCorner 37 = .ok (.iload_n 1, 1) := by decide +kernel
theorem dX0_lookAtCorner_38 : decode cX0_lookAtCorner 38 = .ok (.laload, 1) := by decide +kernel
theorem dX0_lookAtCorner_39 : decode cX0_lookAtCorner 39 = .ok (.aload_n 0, 1) := by decide +kernel
theorem dX0_lookAtCorner_40 : decode cX0_lookAtCorner 40 = .ok (.getfield 50, 3) := by decide +kernel
theorem dX0_lookAtCorner_43 : decode cX0_lookAtCorner 43 = .ok (.land, 1) := by decide +kernel
theorem dX0_lookAtCorner_44 : decode cX0_lookAtCorner 44 = .ok (.invokestatic 107, 3) := by decide +kernel
theorem dX0_lookAtCorner_47 : decode cX0_lookAtCorner 47 = .ok (.istore_n 3, 1) := by decide +kernel
theorem dX0_lookAtCorner_48 : decode cX0_lookAtCorner 48 = .ok (.aload_n 0, 1) := by decide +kernel
theorem dX0_lookAtCorner_49 : decode cX0_lookAtCorner 49 = .ok (.aload_n 0, 1) := by decide +kernel
theorem dX0_lookAtCorner_50 : decode cX0_lookAtCorner 50 = .ok (.getfield 32, 3) := by decide +kernel
theorem dX0_lookAtCorner_53 : decode cX0_lookAtCorner 53 = .ok (.iload_n 1, 1) := by decide +kernel
theorem dX0_lookAtCorner_54 : decode cX0_lookAtCorner 54 = .ok (.iload_n 2, 1) := by decide +kernel
theorem dX0_lookAtCorner_55 : decode cX0_lookAtCorner 55 = .ok (.iconst 2, 1) := by decide +kernel
theorem dX0_lookAtCorner_56 : decode cX0_lookAtCorner 56 = .ok (.if_icmp .gt 12, 3) := by decide +kernel
theorem dX0_lookAtCorner_59 : decode cX0_lookAtCorner 59 = .ok (.iload_n 2, 1) := by decide +kernel
theorem dX0_lookAtCorner_60 : decode cX0_lookAtCorner 60 = .ok (.iconst 1, 1) := by decide +kernel
theorem dX0_lookAtCorner_61 : decode cX0_lookAtCorner 61 = .ok (.if_icmp .ne 11, 3) := by decide +kernel
theorem dX0_lookAtCorner_64 : decode cX0_lookAtCorner 64 = .ok (.iload_n 3, 1) := by decide +kernel
theorem dX0_lookAtCorner_65 : decode cX0_lookAtCorner 65 = .ok (.ifCond .ne 7, 3) := by decide +kernel
theorem dX0_lookAtCorner_68 : decode cX0_lookAtCorner 68 = .ok (.iconst 1, 1) := by decide +kernel
theorem dX0_lookAtCorner_69 : decode cX0_lookAtCorner 69 = .ok (.goto 4, 3) := by decide +kernel
theorem dX0_lookAtCorner_72 : decode cX0_lookAtCorner 72 = .ok (.iconst 0, 1) := by decide +kernel
theorem dX0_lookAtCorner_73 : decode cX0_lookAtCorner 73 = .ok (.invokestatic 113, 3) := by decide +kernel
theorem dX0_lookAtCorner_76 : decode cX0_lookAtCorner 76 = .ok (.putfield 32, 3) := by decide +kernel
theorem dX0_lookAtCorner_79 : decode cX0_lookAtCorner 79 = .ok (.aload_n 0, 1) := by decide +kernel
theorem dX0_lookAtCorner_80 : decode cX0_lookAtCorner 80 = .ok (.aload_n 0, 1) := by decide +kernel
theorem dX0_lookAtCorner_81 : decode cX0_lookAtCorner 81 = .ok (.getfield 56, 3) := by decide +kernel
theorem dX0_lookAtCorner_84 : decode cX0_lookAtCorner 84 = .ok (.iload_n 1, 1) := by decide +kernel
theorem dX0_lookAtCorner_85 : decode cX0_lookAtCorner 85 = .ok (.iload_n 2, 1) := by decide +kernel
theorem dX0_lookAtCorner_86 : decode cX0_lookAtCorner 86 = .ok (.iconst 2, 1) := by decide +kernel
theorem dX0_lookAtCorner_87 : decode cX0_lookAtCorner 87 = .ok (.if_icmp .ne 7, 3) := by decide +kernel
theorem dX0_lookAtCorner_90 : decode cX0_lookAtCorner 90 = .ok (.iconst 1, 1) := by decide +kernel
theorem dX0_lookAtCorner_91 : decode cX0_lookAtCorner 91 = .ok (.goto 4, 3) := by decide +kernel
theorem dX0_lookAtCorner_94 : decode cX0_lookAtCorner 94 = .ok (.iconst 0, 1) := by decide +kernel
theorem dX0_lookAtCorner_95 : decode cX0_lookAtCorner 95 = .ok (.invokestatic 113, 3) := by decide +kernel
theorem dX0_lookAtCorner_98 : decode cX0_lookAtCorner 98 = .ok (.putfield 56, 3) := by decide +kernel
theorem dX0_lookAtCorner_101 : decode cX0_lookAtCorner 101 = .ok (.aload_n 0, 1) := by decide +kernel
theorem dX0_lookAtCorner_102 : decode cX0_lookAtCorner 102 = .ok (.getfield 9, 3) := by decide +kernel
theorem dX0_lookAtCorner_105 : decode cX0_lookAtCorner 105 = .ok (.iconst 2, 1) := by decide +kernel
theorem dX0_lookAtCorner_106 : decode cX0_lookAtCorner 106 = .ok (.aload_n 0, 1) := by decide +kernel
theorem dX0_lookAtCorner_107 : decode cX0_lookAtCorner 107 = .ok (.getfield 9, 3) := by decide +kernel
theorem dX0_lookAtCorner_110 : decode cX0_lookAtCorner 110 = .ok (.iconst 2, 1) := by decide +kernel
theorem dX0_lookAtCorner_111 : decode cX0_lookAtCorner 111 = .ok (.iaload, 1) := by decide +kernel
theorem dX0_lookAtCorner_112 : decode cX0_lookAtCorner 112 = .ok (.iload_n 1, 1) := by decide +kernel
theorem dX0_lookAtCorner_113 : decode cX0_lookAtCorner 113 = .ok (.iload_n 2, 1) := by decide +kernel
theorem dX0_lookAtCorner_114 : decode cX0_lookAtCorner 114 = .ok (.iconst 2, 1) := by decide +kernel
theorem dX0_lookAtCorner_115 : decode cX0_lookAtCorner 115 = .ok (.if_icmp .ne 11, 3) := by decide +kernel
theorem dX0_lookAtCorner_118 : decode cX0_lookAtCorner 118 = .ok (.iload_n 3, 1) := by decide +kernel
theorem dX0_lookAtCorner_119 : decode cX0_lookAtCorner 119 = .ok (.ifCond .le 7, 3) := by decide +kernel
theorem dX0_lookAtCorner_122 : decode cX0_lookAtCorner 122 = .ok (.iconst 1, 1) := by decide +kernel
theorem dX0_lookAtCorner_123 : decode cX0_lookAtCorner 123 = .ok (.goto 4, 3) := by decide +kernel
theorem dX0_lookAtCorner_126 : decode cX0_lookAtCorner 126 = .ok (.iconst 0, 1) := by decide +kernel
theorem dX0_lookAtCorner_127 : decode cX0_lookAtCorner 127 = .ok (.invokestatic 113, 3) := by decide +kernel
theorem dX0_lookAtCorner_130 : decode cX0_lookAtCorner 130 = .ok (.iastore, 1) := by decide +kernel
theorem dX0_lookAtCorner_131 : decode cX0_lookAtCorner 131 = .ok (.aload_n 0, 1) := by decide +kernel
theorem dX0_lookAtCorner_132 : decode cX0_lookAtCorner 132 = .ok (.getfield 9, 3) := by decide +kernel
theorem dX0_lookAtCorner_135 : decode cX0_lookAtCorner 135 = .ok (.iconst 3, 1) := by decide +kernel
theorem dX0_lookAtCorner_136 : decode cX0_lookAtCorner 136 = .ok (.aload_n 0, 1) := by decide +kernel
theorem dX0_lookAtCorner_137 : decode cX0_lookAtCorner 137 = .ok (.getfield 9, 3) := by decide +kernel
theorem dX0_lookAtCorner_140 : decode cX0_lookAtCorner 140 = .ok (.iconst 3, 1) := by decide +kernel
theorem dX0_lookAtCorner_141 : decode cX0_lookAtCorner 141 = .ok (.iaload, 1) := by decide +kernel
theorem dX0_lookAtCorner_142 : decode cX0_lookAtCorner 142 = .ok (.iload_n 1, 1) := by decide +kernel
theorem dX0_lookAtCorner_143 : decode cX0_lookAtCorner 143 = .ok (.iload_n 2, 1) := by decide +kernel
theorem dX0_lookAtCorner_144 : decode cX0_lookAtCorner 144 = .ok (.ifCond .ne 12, 3) := by decide +kernel
theorem dX0_lookAtCorner_147 : decode cX0_lookAtCorner 147 = .ok (.iload_n 3, 1) := by decide +kernel
theorem dX0_lookAtCorner_148 : decode cX0_lookAtCorner 148 = .ok (.iconst 1, 1) := by decide +kernel
theorem dX0_lookAtCorner_149 : decode cX0_lookAtCorner 149 = .ok (.if_icmp .ne 7, 3) := by decide +kernel
theorem dX0_lookAtCorner_152 : decode cX0_lookAtCorner 152 = .ok (.iconst 1, 1) := by decide +kernel
theorem dX0_lookAtCorner_153 : decode cX0_lookAtCorner 153 = .ok (.goto 4, 3) := by decide +kernel
theorem dX0_lookAtCorner_156 : decode cX0_lookAtCorner 156 = .ok (.iconst 0, 1) := by decide +kernel
theorem dX0_lookAtCorner_157 : decode cX0_lookAtCorner 157 = .ok (.invokestatic 113, 3) := by decide +kernel
theorem dX0_lookAtCorner_160 : decode cX0_lookAtCorner 160 = .ok (.iastore, 1) := by decide +kernel
theorem dX0_lookAtCorner_161 : decode cX0_lookAtCorner 161 = .ok (.aload_n 0, 1) := by decide +kernel
theorem dX0_lookAtCorner_162 : decode cX0_lookAtCorner 162 = .ok (.getfield 9, 3) := by decide +kernel
theorem dX0_lookAtCorner_165 : decode cX0_lookAtCorner 165 = .ok (.iconst 4, 1) := by decide +kernel
theorem dX0_lookAtCorner_166 : decode cX0_lookAtCorner 166 = .ok (.aload_n 0, 1) := by decide +kernel
theorem dX0_lookAtCorner_167 : decode cX0_lookAtCorner 167 = .ok (.getfield 9, 3) := by decide +kernel
theorem dX0_lookAtCorner_170 : decode cX0_lookAtCorner 170 = .ok (.iconst 4, 1) := by decide +kernel
theorem dX0_lookAtCorner_171 : decode cX0_lookAtCorner 171 = .ok (.iaload, 1) := by decide +kernel
theorem dX0_lookAtCorner_172 : decode cX0_lookAtCorner 172 = .ok (.iload_n 1, 1) := by decide +kernel
theorem dX0_lookAtCorner_173 : decode cX0_lookAtCorner 173 = .ok (.iload_n 2, 1) := by decide +kernel
theorem dX0_lookAtCorner_174 : decode cX0_lookAtCorner 174 = .ok (.iconst 1, 1) := by decide +kernel
theorem dX0_lookAtCorner_175 : decode cX0_lookAtCorner 175 = .ok (.if_icmp .ne 12, 3) := by decide +kernel
theorem dX0_lookAtCorner_178 : decode cX0_lookAtCorner 178 = .ok (.iload_n 3, 1) := by decide +kernel
theorem dX0_lookAtCorner_179 : decode cX0_lookAtCorner 179 = .ok (.iconst 1, 1) := by decide +kernel
theorem dX0_lookAtCorner_180 : decode cX0_lookAtCorner 180 = .ok (.if_icmp .ne 7, 3) := by decide +kernel
theorem dX0_lookAtCorner_183 : decode cX0_lookAtCorner 183 = .ok (.iconst 1, 1) := by decide +kernel
theorem dX0_lookAtCorner_184 : decode cX0_lookAtCorner 184 = .ok (.goto 4, 3) := by decide +kernel
theorem dX0_lookAtCorner_187 : decode cX0_lookAtCorner 187 = .ok (.iconst 0, 1) := by decide +kernel
theorem dX0_lookAtCorner_188 : decode cX0_lookAtCorner 188 = .ok (.invokestatic 113, 3) := by decide +kernel
theorem dX0_lookAtCorner_191 : decode cX0_lookAtCorner 191 = .ok (.iastore, 1) := by decide +kernel
theorem dX0_lookAtCorner_192 : decode cX0_lookAtCorner 192 = .ok (.return_, 1) := by decide +kernel
theorem dX0_lookAtRings_0 : decode cX0_lookAtRings 0 = .ok (.aload_n 0, 1) := by decide +kernel
theorem dX0_lookAtRings_1 : decode cX0_lookAtRings 1 = .ok (.lconst 0, 1) := by decide +kernel
theorem dX0_lookAtRings_2 : decode cX0_lookAtRings 2 = .ok (.putfield 35, 3) := by decide +kernel
theorem dX0_lookAtRings_5 : decode cX0_lookAtRings 5 = .ok (.aload_n 0, 1) := by decide +kernel
theorem dX0_lookAtRings_6 : decode cX0_lookAtRings 6 = .ok (.iconst 0, 1) := by decide +kernel
theorem dX0_lookAtRings_7 : decode cX0_lookAtRings 7 = .ok (.putfield 39, 3) := by decide +kernel
theorem dX0_lookAtRings_10 : decode cX0_lookAtRings 10 = .ok (.aload_n 0, 1) := by decide +kernel
theorem dX0_lookAtRings_11 : decode cX0_lookAtRings 11 = .ok (.getfield 47, 3) := by decide +kernel
theorem dX0_lookAtRings_14 : decode cX0_lookAtRings 14 = .ok (.lstore_n 1, 1) := by decide +kernel
theorem dX0_lookAtRings_15 : decode cX0_lookAtRings 15 = .ok (.iconst 0, 1) := by decide +kernel
theorem dX0_lookAtRings_16 : decode cX0_lookAtRings 16 = .ok (.istore_n 3, 1) := by decide +kernel
theorem dX0_lookAtRings_17 : decode cX0_lookAtRings 17 = .ok (.iload_n 3, 1) := by decide +kernel
theorem dX0_lookAtRings_18 : decode cX0_lookAtRings 18 = .ok (.bipush 40, 2) := by decide +kernel
theorem dX0_lookAtRings_20 : decode cX0_lookAtRings 20 = .ok (.if_icmp .ge 40, 3) := by decide +kernel
theorem dX0_lookAtRings_23 : decode cX0_lookAtRings 23 = .ok (.lload_n 1, 1) := by decide +kernel
theorem dX0_lookAtRings_24 : decode cX0_lookAtRings 24 = .ok (.lconst 0, 1) := by decide +kernel
theorem dX0_lookAtRings_25 : decode cX0_lookAtRings 25 = .ok (.lcmp, 1) := by decide +kernel
theorem dX0_lookAtRings_26 : decode cX0_lookAtRings 26 = .ok (.ifCond .eq 34, 3) := by decide +kernel
theorem dX0_lookAtRings_29 : decode cX0_lookAtRings 29 = .ok (.aload_n 0, 1) := by decide +kernel
theorem dX0_lookAtRings_30 : decode cX0_lookAtRings 30 = .ok (.lload_n 1, 1) := by decide +kernel
theorem dX0_lookAtRings_31 : decode cX0_lookAtRings 31 = .ok (.lload_n 1, 1) := by decide +kernel
theorem dX0_lookAtRings_32 : decode cX0_lookAtRings 32 = .ok (.lneg, 1) := by decide +kernel
theorem dX0_lookAtRings_33 : decode cX0_lookAtRings 33 = .ok (.land, 1) := by decide +kernel
theorem dX0_lookAtRings_34 : decode cX0_lookAtRings 34 = .ok (.invokevirtual 89, 3) := by decide +kernel
theorem dX0_lookAtRings_37 : decode cX0_lookAtRings 37 = .ok (.lstore 4, 2) := by decide +kernel
theorem dX0_lookAtRings_39 : decode cX0_lookAtRings 39 = .ok (.aload_n 0, 1) := by decide +kernel
theorem dX0_lookAtRings_40 : decode cX0_lookAtRings 40 = .ok (.lload 4, 2) := by decide +kernel
theorem dX0_lookAtRings_42 : decode cX0_lookAtRings 42 = .ok (.invokevirtual 93, 3) := by decide +kernel
theorem dX0_lookAtRings_45 : decode cX0_lookAtRings 45 = .ok (.lload_n 1, 1) := by decide +kernel
theorem dX0_lookAtRings_46 : decode cX0_lookAtRings 46 = .ok (.lload 4, 2) := by decide +kernel
theorem dX0_lookAtRings_48 : decode cX0_lookAtRings 48 = .ok (.ldc2_w 81, 3) := by decide +kernel
theorem dX0_lookAtRings_51 : decode cX0_lookAtRings 51 = .ok (.lxor, 1) := by decide +kernel
theorem dX0_lookAtRings_52 : decode cX0_lookAtRings 52 = .ok (.land, 1) := by decide +kernel
theorem dX0_lookAtRings_53 : decode cX0_lookAtRings 53 = .ok (.lstore_n 1, 1) := by decide +kernel
theorem dX0_lookAtRings_54 : decode cX0_lookAtRings 54 = .ok (.iinc 3 1, 3) := by decide +kernel
theorem dX0_lookAtRings_57 : decode cX0_lookAtRings 57 = .ok (.goto (-40), 3) := by decide +kernel
theorem dX0_lookAtRings_60 : decode cX0_lookAtRings 60 = .ok (.return_, 1) := by decide +kernel
theorem dX0_lookAtWay_0 : decode cX0_lookAtWay 0 = .ok (.aload_n 0, 1) := by decide +kernel
theorem dX0_lookAtWay_1 : decode cX0_lookAtWay 1 = .ok (.lload_n 1, 1) := by decide +kernel
theorem dX0_lookAtWay_2 : decode cX0_lookAtWay 2 = .ok (.invokevirtual 123, 3) := by decide +kernel
theorem dX0_lookAtWay_5 : decode cX0_lookAtWay 5 = .ok (.ifCond .ne 4, 3) := by decide +kernel
theorem dX0_lookAtWay_8 : decode cX0_lookAtWay 8 = .ok (.return_, 1) := by decide +kernel
theorem dX0_lookAtWay_9 : decode cX0_lookAtWay 9 = .ok (.lload_n 1, 1) := by decide +kernel
theorem dX0_lookAtWay_10 : decode cX0_lookAtWay 10 = .ok (.aload_n 0, 1) := by decide +kernel
theorem dX0_lookAtWay_11 : decode cX0_lookAtWay 11 = .ok (.getfield 47, 3) := by decide +kernel
theorem dX0_lookAtWay_14 : decode cX0_lookAtWay 14 = .ok (.lcmp, 1) := by decide +kernel
theorem dX0_lookAtWay_15 : decode cX0_lookAtWay 15 = .ok (.ifCond .ne 18, 3) := by decide +kernel
theorem dX0_lookAtWay_18 : decode cX0_lookAtWay 18 = .ok (.aload_n 0, 1) := by decide +kernel
theorem dX0_lookAtWay_19 : decode cX0_lookAtWay 19 = .ok (.getfield 53, 3) := by decide +kernel
theorem dX0_lookAtWay_22 : decode cX0_lookAtWay 22 = .ok (.ifCond .ne 11, 3) := by decide +kernel
theorem dX0_lookAtWay_25 : decode cX0_lookAtWay 25 = .ok (.aload_n 0, 1) := by decide +kernel
theorem dX0_lookAtWay_26 : decode cX0_lookAtWay 26 = .ok (.iconst 1, 1) := by decide +kernel
theorem dX0_lookAtWay_27 : decode cX0_lookAtWay 27 = .ok (.putfield 39, 3) := by decide +kernel
theorem dX0_lookAtWay_30 : decode cX0_lookAtWay 30 = .ok (.goto 17, 3) := by decide +kernel
theorem dX0_lookAtWay_33 : decode cX0_lookAtWay 33 = .ok (.aload_n 0, 1) := by decide +kernel
theorem dX0_lookAtWay_34 : decode cX0_lookAtWay 34 = .ok (.getfield 35, 3) := by decide +kernel
theorem dX0_lookAtWay_37 : decode cX0_lookAtWay 37 = .ok (.lconst 0, 1) := by decide +kernel
theorem dX0_lookAtWay_38 : decode cX0_lookAtWay 38 = .ok (.lcmp, 1) := by decide +kernel
theorem dX0_lookAtWay_39 : decode cX0_lookAtWay 39 = .ok (.ifCond .ne 8, 3) := by decide +kernel
theorem dX0_lookAtWay_42 : decode cX0_lookAtWay 42 = .ok (.aload_n 0, 1) := by decide +kernel
theorem dX0_lookAtWay_43 : decode cX0_lookAtWay 43 = .ok (.lload_n 1, 1) := by decide +kernel
theorem dX0_lookAtWay_44 : decode cX0_lookAtWay 44 = .ok (.putfield 35, 3) := by decide +kernel
theorem dX0_lookAtWay_47 : decode cX0_lookAtWay 47 = .ok (.return_, 1) := by decide +kernel
theorem dX0_wayOf_0 : decode cX0_wayOf 0 = .ok (.lload_n 1, 1) := by decide +kernel
theorem dX0_wayOf_1 : decode cX0_wayOf 1 = .ok (.aload_n 0, 1) := by decide +kernel
theorem dX0_wayOf_2 : decode cX0_wayOf 2 = .ok (.getfield 47, 3) := by decide +kernel
theorem dX0_wayOf_5 : decode cX0_wayOf 5 = .ok (.land, 1) := by decide +kernel
theorem dX0_wayOf_6 : decode cX0_wayOf 6 = .ok (.lstore_n 3, 1) := by decide +kernel
theorem dX0_wayOf_7 : decode cX0_wayOf 7 = .ok (.iconst 0, 1) := by decide +kernel
theorem dX0_wayOf_8 : decode cX0_wayOf 8 = .ok (.istore 5, 2) := by decide +kernel
theorem dX0_wayOf_10 : decode cX0_wayOf 10 = .ok (.iload 5, 2) := by decide +kernel
theorem dX0_wayOf_12 : decode cX0_wayOf 12 = .ok (.bipush 40, 2) := by decide +kernel
theorem dX0_wayOf_14 : decode cX0_wayOf 14 = .ok (.if_icmp .ge 73, 3) := by decide +kernel
theorem dX0_wayOf_17 : decode cX0_wayOf 17 = .ok (.lload_n 3, 1) := by decide +kernel
theorem dX0_wayOf_18 : decode cX0_wayOf 18 = .ok (.lstore 6, 2) := by decide +kernel
theorem dX0_wayOf_20 : decode cX0_wayOf 20 = .ok (.iconst 0, 1) := by decide +kernel
theorem dX0_wayOf_21 : decode cX0_wayOf 21 = .ok (.istore 8, 2) := by decide +kernel
theorem dX0_wayOf_23 : decode cX0_wayOf 23 = .ok (.iload 8, 2) := by decide +kernel
theorem dX0_wayOf_25 : decode cX0_wayOf 25 = .ok (.aload_n 0, 1) := by decide +kernel
theorem dX0_wayOf_26 : decode cX0_wayOf 26 = .ok (.getfield 25, 3) := by decide +kernel
theorem dX0_wayOf_29 : decode cX0_wayOf 29 = .ok (.getfield 68, 3) := by decide +kernel
theorem dX0_wayOf_32 : decode cX0_wayOf 32 = .ok (.if_icmp .ge 40, 3) := by decide +kernel
theorem dX0_wayOf_35 : decode cX0_wayOf 35 = .ok (.aload_n 0, 1) := by decide +kernel
theorem dX0_wayOf_36 : decode cX0_wayOf 36 = .ok (.getfield 25, 3) := by decide +kernel
theorem dX0_wayOf_39 : decode cX0_wayOf 39 = .ok (.getfield 120, 3) := by decide +kernel
theorem dX0_wayOf_42 : decode cX0_wayOf 42 = .ok (.iload 8, 2) := by decide +kernel
theorem dX0_wayOf_44 : decode cX0_wayOf 44 = .ok (.laload, 1) := by decide +kernel
theorem dX0_wayOf_45 : decode cX0_wayOf 45 = .ok (.aload_n 0, 1) := by decide +kernel
theorem dX0_wayOf_46 : decode cX0_wayOf 46 = .ok (.getfield 47, 3) := by decide +kernel
theorem dX0_wayOf_49 : decode cX0_wayOf 49 = .ok (.land, 1) := by decide +kernel
theorem dX0_wayOf_50 : decode cX0_wayOf 50 = .ok (.lstore 9, 2) := by decide +kernel
theorem dX0_wayOf_52 : decode cX0_wayOf 52 = .ok (.lload 9, 2) := by decide +kernel
theorem dX0_wayOf_54 : decode cX0_wayOf 54 = .ok (.lload_n 3, 1) := by decide +kernel
theorem dX0_wayOf_55 : decode cX0_wayOf 55 = .ok (.land, 1) := by decide +kernel
theorem dX0_wayOf_56 : decode cX0_wayOf 56 = .ok (.lconst 0, 1) := by decide +kernel
theorem dX0_wayOf_57 : decode cX0_wayOf 57 = .ok (.lcmp, 1) := by decide +kernel
theorem dX0_wayOf_58 : decode cX0_wayOf 58 = .ok (.ifCond .eq 8, 3) := by decide +kernel
theorem dX0_wayOf_61 : decode cX0_wayOf 61 = .ok (.lload_n 3, 1) := by decide +kernel
theorem dX0_wayOf_62 : decode cX0_wayOf 62 = .ok (.lload 9, 2) := by decide +kernel
theorem dX0_wayOf_64 : decode cX0_wayOf 64 = .ok (.lor, 1) := by decide +kernel
theorem dX0_wayOf_65 : decode cX0_wayOf 65 = .ok (.lstore_n 3, 1) := by decide +kernel
theorem dX0_wayOf_66 : decode cX0_wayOf 66 = .ok (.iinc 8 1, 3) := by decide +kernel
theorem dX0_wayOf_69 : decode cX0_wayOf 69 = .ok (.goto (-46), 3) := by decide +kernel
theorem dX0_wayOf_72 : decode cX0_wayOf 72 = .ok (.lload_n 3, 1) := by decide +kernel
theorem dX0_wayOf_73 : decode cX0_wayOf 73 = .ok (.lload 6, 2) := by decide +kernel
theorem dX0_wayOf_75 : decode cX0_wayOf 75 = .ok (.lcmp, 1) := by decide +kernel
theorem dX0_wayOf_76 : decode cX0_wayOf 76 = .ok (.ifCond .ne 5, 3) := by decide +kernel
theorem dX0_wayOf_79 : decode cX0_wayOf 79 = .ok (.lload_n 3, 1) := by decide +kernel
theorem dX0_wayOf_80 : decode cX0_wayOf 80 = .ok (.lreturn, 1) := by decide +kernel
theorem dX0_wayOf_81 : decode cX0_wayOf 81 = .ok (.iinc 5 1, 3) := by decide +kernel
theorem dX0_wayOf_84 : decode cX0_wayOf 84 = .ok (.goto (-74), 3) := by decide +kernel
theorem dX0_wayOf_87 : decode cX0_wayOf 87 = .ok (.lload_n 3, 1) := by decide +kernel
theorem dX0_wayOf_88 : decode cX0_wayOf 88 = .ok (.lreturn, 1) := by decide +kernel
theorem dX0_isRing_0 : decode cX0_isRing 0 = .ok (.iconst 0, 1) := by decide +kernel
theorem dX0_isRing_1 : decode cX0_isRing 1 = .ok (.istore_n 3, 1) := by decide +kernel
theorem dX0_isRing_2 : decode cX0_isRing 2 = .ok (.iload_n 3, 1) := by decide +kernel
theorem dX0_isRing_3 : decode cX0_isRing 3 = .ok (.aload_n 0, 1) := by decide +kernel
theorem dX0_isRing_4 : decode cX0_isRing 4 = .ok (.getfield 25, 3) := by decide +kernel
theorem dX0_isRing_7 : decode cX0_isRing 7 = .ok (.getfield 68, 3) := by decide +kernel
theorem dX0_isRing_10 : decode cX0_isRing 10 = .ok (.if_icmp .ge 50, 3) := by decide +kernel
theorem dX0_isRing_13 : decode cX0_isRing 13 = .ok (.aload_n 0, 1) := by decide +kernel
theorem dX0_isRing_14 : decode cX0_isRing 14 = .ok (.getfield 56, 3) := by decide +kernel
theorem dX0_isRing_17 : decode cX0_isRing 17 = .ok (.iload_n 3, 1) := by decide +kernel
theorem dX0_isRing_18 : decode cX0_isRing 18 = .ok (.iushr, 1) := by decide +kernel
theorem dX0_isRing_19 : decode cX0_isRing 19 = .ok (.iconst 1, 1) := by decide +kernel
theorem dX0_isRing_20 : decode cX0_isRing 20 = .ok (.iand, 1) := by decide +kernel
theorem dX0_isRing_21 : decode cX0_isRing 21 = .ok (.ifCond .eq 7, 3) := by decide +kernel
theorem dX0_isRing_24 : decode cX0_isRing 24 = .ok (.iconst 1, 1) := by decide +kernel
theorem dX0_isRing_25 : decode cX0_isRing 25 = .ok (.goto 4, 3) := by decide +kernel
theorem dX0_isRing_28 : decode cX0_isRing 28 = .ok (.iconst 0, 1) := by decide +kernel
theorem dX0_isRing_29 : decode cX0_isRing 29 = .ok (.istore 4, 2) := by decide +kernel
theorem dX0_isRing_31 : decode cX0_isRing 31 = .ok (.aload_n 0, 1) := by decide +kernel
theorem dX0_isRing_32 : decode cX0_isRing 32 = .ok (.getfield 25, 3) := by decide +kernel
theorem dX0_isRing_35 : decode cX0_isRing 35 = .ok (.getfield 120, 3) := by decide +kernel
theorem dX0_isRing_38 : decode cX0_isRing 38 = .ok (.iload_n 3, 1) := by decide +kernel
theorem dX0_isRing_39 : decode cX0_isRing 39 = .ok (.laload, 1) := by decide +kernel
theorem dX0_isRing_40 : decode cX0_isRing 40 = .ok (.lload_n 1, 1) := by decide +kernel
theorem dX0_isRing_41 : decode cX0_isRing 41 = .ok (.land, 1) := by decide +kernel
theorem dX0_isRing_42 : decode cX0_isRing 42 = .ok (.lconst 0, 1) := by decide +kernel
theorem dX0_isRing_43 : decode cX0_isRing 43 = .ok (.lcmp, 1) := by decide +kernel
theorem dX0_isRing_44 : decode cX0_isRing 44 = .ok (.ifCond .eq 10, 3) := by decide +kernel
theorem dX0_isRing_47 : decode cX0_isRing 47 = .ok (.iload 4, 2) := by decide +kernel
theorem dX0_isRing_49 : decode cX0_isRing 49 = .ok (.ifCond .ne 5, 3) := by decide +kernel
theorem dX0_isRing_52 : decode cX0_isRing 52 = .ok (.iconst 0, 1) := by decide +kernel
theorem dX0_isRing_53 : decode cX0_isRing 53 = .ok (.ireturn, 1) := by decide +kernel
theorem dX0_isRing_54 : decode cX0_isRing 54 = .ok (.iinc 3 1, 3) := by decide +kernel
theorem dX0_isRing_57 : decode cX0_isRing 57 = .ok (.goto (-55), 3) := by decide +kernel
theorem dX0_isRing_60 : decode cX0_isRing 60 = .ok (.lload_n 1, 1) := by decide +kernel
theorem dX0_isRing_61 : decode cX0_isRing 61 = .ok (.lconst 0, 1) := by decide +kernel
theorem dX0_isRing_62 : decode cX0_isRing 62 = .ok (.lcmp, 1) := by decide +kernel
theorem dX0_isRing_63 : decode cX0_isRing 63 = .ok (.ifCond .eq 7, 3) := by decide +kernel
theorem dX0_isRing_66 : decode cX0_isRing 66 = .ok (.iconst 1, 1) := by decide +kernel
theorem dX0_isRing_67 : decode cX0_isRing 67 = .ok (.goto 4, 3) := by decide +kernel
theorem dX0_isRing_70 : decode cX0_isRing 70 = .ok (.iconst 0, 1) := by decide +kernel
theorem dX0_isRing_71 : decode cX0_isRing 71 = .ok (.ireturn, 1) := by decide +kernel
theorem dX0_findAtPlace_0 : decode cX0_findAtPlace 0 = .ok (.aload_n 0, 1) := by decide +kernel
theorem dX0_findAtPlace_1 : decode cX0_findAtPlace 1 = .ok (.invokevirtual 43, 3) := by decide +kernel
theorem dX0_findAtPlace_4 : decode cX0_findAtPlace 4 = .ok (.ifCond .eq 10, 3) := by decide +kernel
theorem dX0_findAtPlace_7 : decode cX0_findAtPlace 7 = .ok (.aload_n 0, 1) := by decide +kernel
theorem dX0_findAtPlace_8 : decode cX0_findAtPlace 8 = .ok (.getfield 39, 3) := by decide +kernel
theorem dX0_findAtPlace_11 : decode cX0_findAtPlace 11 = .ok (.ifCond .eq 5, 3) := by decide +kernel
theorem dX0_findAtPlace_14 : decode cX0_findAtPlace 14 = .ok (.iconst 0, 1) := by decide +kernel
theorem dX0_findAtPlace_15 : decode cX0_findAtPlace 15 = .ok (.ireturn, 1) := by decide +kernel
theorem dX0_findAtPlace_16 : decode cX0_findAtPlace 16 = .ok (.iconst 0, 1) := by decide +kernel
theorem dX0_findAtPlace_17 : decode cX0_findAtPlace 17 = .ok (.istore_n 2, 1) := by decide +kernel
theorem dX0_findAtPlace_18 : decode cX0_findAtPlace 18 = .ok (.iload_n 2, 1) := by decide +kernel
theorem dX0_findAtPlace_19 : decode cX0_findAtPlace 19 = .ok (.iload_n 1, 1) := by decide +kernel
theorem dX0_findAtPlace_20 : decode cX0_findAtPlace 20 = .ok (.if_icmp .gt 113, 3) := by decide +kernel
theorem dX0_findAtPlace_23 : decode cX0_findAtPlace 23 = .ok (.iload_n 2, 1) := by decide +kernel
theorem dX0_findAtPlace_24 : decode cX0_findAtPlace 24 = .ok (.iconst 5, 1) := by decide +kernel
theorem dX0_findAtPlace_25 : decode cX0_findAtPlace 25 = .ok (.if_icmp .ge 108, 3) := by decide +kernel
theorem dX0_findAtPlace_28 : decode cX0_findAtPlace 28 = .ok (.aload_n 0, 1) := by decide +kernel
theorem dX0_findAtPlace_29 : decode cX0_findAtPlace 29 = .ok (.getfield 9, 3) := by decide +kernel
theorem dX0_findAtPlace_32 : decode cX0_findAtPlace 32 = .ok (.iload_n 2, 1) := by decide +kernel
theorem dX0_findAtPlace_33 : decode cX0_findAtPlace 33 = .ok (.iaload, 1) := by decide +kernel
theorem dX0_findAtPlace_34 : decode cX0_findAtPlace 34 = .ok (.i2l, 1) := by decide +kernel
theorem dX0_findAtPlace_35 : decode cX0_findAtPlace 35 = .ok (.invokestatic 127, 3) := by decide +kernel
theorem dX0_findAtPlace_38 : decode cX0_findAtPlace 38 = .ok (.istore_n 3, 1) := by decide +kernel
theorem dX0_findAtPlace_39 : decode cX0_findAtPlace 39 = .ok (.iload_n 2, 1) := by decide +kernel
theorem dX0_findAtPlace_40 : decode cX0_findAtPlace 40 = .ok (.iconst 2, 1) := by decide +kernel
theorem dX0_findAtPlace_41 : decode cX0_findAtPlace 41 = .ok (.if_icmp .ge 7, 3) := by decide +kernel
theorem dX0_findAtPlace_44 : decode cX0_findAtPlace 44 = .ok (.iconst 1, 1) := by decide +kernel
theorem dX0_findAtPlace_45 : decode cX0_findAtPlace 45 = .ok (.goto 4, 3) := by decide +kernel
theorem dX0_findAtPlace_48 : decode cX0_findAtPlace 48 = .ok (.iconst 0, 1) := by decide +kernel
theorem dX0_findAtPlace_49 : decode cX0_findAtPlace 49 = .ok (.istore 4, 2) := by decide +kernel
theorem dX0_findAtPlace_51 : decode cX0_findAtPlace 51 = .ok (.iload 4, 2) := by decide +kernel
theorem dX0_findAtPlace_53 : decode cX0_findAtPlace 53 = .ok (.ifCond .eq 17, 3) := by decide +kernel
theorem dX0_findAtPlace_56 : decode cX0_findAtPlace 56 = .ok (.aload_n 0, 1) := by decide +kernel
theorem dX0_findAtPlace_57 : decode cX0_findAtPlace 57 = .ok (.getfield 25, 3) := by decide +kernel
theorem dX0_findAtPlace_60 : decode cX0_findAtPlace 60 = .ok (.iload_n 3, 1) := by decide +kernel
theorem dX0_findAtPlace_61 : decode cX0_findAtPlace 61 = .ok (.invokevirtual 97, 3) := by decide +kernel
theorem dX0_findAtPlace_64 : decode cX0_findAtPlace 64 = .ok (.ifCond .eq 63, 3) := by decide +kernel
theorem dX0_findAtPlace_67 : decode cX0_findAtPlace 67 = .ok (.goto 14, 3) := by decide +kernel
theorem dX0_findAtPlace_70 : decode cX0_findAtPlace 70 = .ok (.aload_n 0, 1) := by decide +kernel
theorem dX0_findAtPlace_71 : decode cX0_findAtPlace 71 = .ok (.getfield 25, 3) := by decide +kernel
theorem dX0_findAtPlace_74 : decode cX0_findAtPlace 74 = .ok (.iload_n 3, 1) := by decide +kernel
theorem dX0_findAtPlace_75 : decode cX0_findAtPlace 75 = .ok (.invokevirtual 117, 3) := by decide +kernel
theorem dX0_findAtPlace_78 : decode cX0_findAtPlace 78 = .ok (.ifCond .eq 49, 3) := by decide +kernel
theorem dX0_findAtPlace_81 : decode cX0_findAtPlace 81 = .ok (.iload 4, 2) := by decide +kernel
theorem dX0_findAtPlace_83 : decode cX0_findAtPlace 83 = .ok (.ifCond .eq 15, 3) := by decide +kernel
theorem dX0_findAtPlace_86 : decode cX0_findAtPlace 86 = .ok (.aload_n 0, 1) := by decide +kernel
theorem dX0_findAtPlace_87 : decode cX0_findAtPlace 87 = .ok (.getfield 25, 3) := by decide +kernel
theorem dX0_findAtPlace_90 : decode cX0_findAtPlace 90 = .ok (.getfield 103, 3) := by decide +kernel
theorem dX0_findAtPlace_93 : decode cX0_findAtPlace 93 = .ok (.iload_n 3, 1) := by decide +kernel
theorem dX0_findAtPlace_94 : decode cX0_findAtPlace 94 = .ok (.laload, 1) := by decide +kernel
theorem dX0_findAtPlace_95 : decode cX0_findAtPlace 95 = .ok (.goto 12, 3) := by decide +kernel
theorem dX0_findAtPlace_98 : decode cX0_findAtPlace 98 = .ok (.aload_n 0, 1) := by decide +kernel
theorem dX0_findAtPlace_99 : decode cX0_findAtPlace 99 = .ok (.getfield 25, 3) := by decide +kernel
theorem dX0_findAtPlace_102 : decode cX0_findAtPlace 102 = .ok (.getfield 120, 3) := by decide +kernel
theorem dX0_findAtPlace_105 : decode cX0_findAtPlace 105 = .ok (.iload_n 3, 1) := by decide +kernel
theorem dX0_findAtPlace_106 : decode cX0_findAtPlace 106 = .ok (.laload, 1) := by decide +kernel
theorem dX0_findAtPlace_107 : decode cX0_findAtPlace 107 = .ok (.lstore 5, 2) := by decide +kernel
theorem dX0_findAtPlace_109 : decode cX0_findAtPlace 109 = .ok (.aload_n 0, 1) := by decide +kernel
theorem dX0_findAtPlace_110 : decode cX0_findAtPlace 110 = .ok (.iload_n 2, 1) := by decide +kernel
theorem dX0_findAtPlace_111 : decode cX0_findAtPlace 111 = .ok (.lload 5, 2) := by decide +kernel
theorem dX0_findAtPlace_113 : decode cX0_findAtPlace 113 = .ok (.aload_n 0, 1) := by decide +kernel
theorem dX0_findAtPlace_114 : decode cX0_findAtPlace 114 = .ok (.getfield 50, 3) := by decide +kernel
theorem dX0_findAtPlace_117 : decode cX0_findAtPlace 117 = .ok (.land, 1) := by decide +kernel
theorem dX0_findAtPlace_118 : decode cX0_findAtPlace 118 = .ok (.invokestatic 127, 3) := by decide +kernel
theorem dX0_findAtPlace_121 : decode cX0_findAtPlace 121 = .ok (.iload_n 3, 1) := by decide +kernel
theorem dX0_findAtPlace_122 : decode cX0_findAtPlace 122 = .ok (.invokevirtual 130, 3) := by decide +kernel
theorem dX0_findAtPlace_125 : decode cX0_findAtPlace 125 = .ok (.iconst 1, 1) := by decide +kernel
theorem dX0_findAtPlace_126 : decode cX0_findAtPlace 126 = .ok (.ireturn, 1) := by decide +kernel
theorem dX0_findAtPlace_127 : decode cX0_findAtPlace 127 = .ok (.iinc 2 1, 3) := by decide +kernel
theorem dX0_findAtPlace_130 : decode cX0_findAtPlace 130 = .ok (.goto (-112), 3) := by decide +kernel
theorem dX0_findAtPlace_133 : decode cX0_findAtPlace 133 = .ok (.iconst 0, 1) := by decide +kernel
theorem dX0_findAtPlace_134 : decode cX0_findAtPlace 134 = .ok (.ireturn, 1) := by decide +kernel
theorem dX0_findClosing_0 : decode cX0_findClosing 0 = .ok (.aload_n 0, 1) := by decide +kernel
theorem dX0_findClosing_1 : decode cX0_findClosing 1 = .ok (.invokevirtual 43, 3) := by decide +kernel
theorem dX0_findClosing_4 : decode cX0_findClosing 4 = .ok (.ifCond .eq 10, 3) := by decide +kernel
theorem dX0_findClosing_7 : decode cX0_findClosing 7 = .ok (.aload_n 0, 1) := by decide +kernel
theorem dX0_findClosing_8 : decode cX0_findClosing 8 = .ok (.getfield 39, 3) := by decide +kernel
theorem dX0_findClosing_11 : decode cX0_findClosing 11 = .ok (.ifCond .eq 5, 3) := by decide +kernel
theorem dX0_findClosing_14 : decode cX0_findClosing 14 = .ok (.iconst 0, 1) := by decide +kernel
theorem dX0_findClosing_15 : decode cX0_findClosing 15 = .ok (.ireturn, 1) := by decide +kernel
theorem dX0_findClosing_16 : decode cX0_findClosing 16 = .ok (.iconst 0, 1) := by decide +kernel
theorem dX0_findClosing_17 : decode cX0_findClosing 17 = .ok (.istore_n 1, 1) := by decide +kernel
theorem dX0_findClosing_18 : decode cX0_findClosing 18 = .ok (.iload_n 1, 1) := by decide +kernel
theorem dX0_findClosing_19 : decode cX0_findClosing 19 = .ok (.aload_n 0, 1) := by decide +kernel
theorem dX0_findClosing_20 : decode cX0_findClosing 20 = .ok (.getfield 25, 3) := by decide +kernel
theorem dX0_findClosing_23 : decode cX0_findClosing 23 = .ok (.getfield 134, 3) := by decide +kernel
theorem dX0_findClosing_26 : decode cX0_findClosing 26 = .ok (.if_icmp .ge 119, 3) := by decide +kernel
theorem dX0_findClosing_29 : decode cX0_findClosing 29 = .ok (.lconst 1, 1) := by decide +kernel
theorem dX0_findClosing_30 : decode cX0_findClosing 30 = .ok (.iload_n 1, 1) := by decide +kernel
theorem dX0_findClosing_31 : decode cX0_findClosing 31 = .ok (.lshl, 1) := by decide +kernel
theorem dX0_findClosing_32 : decode cX0_findClosing 32 = .ok (.lstore_n 2, 1) := by decide +kernel
theorem dX0_findClosing_33 : decode cX0_findClosing 33 = .ok (.aload_n 0, 1) := by decide +kernel
theorem dX0_findClosing_34 : decode cX0_findClosing 34 = .ok (.iload_n 1, 1) := by decide +kernel
theorem dX0_findClosing_35 : decode cX0_findClosing 35 = .ok (.iconst 0, 1) := by decide +kernel
theorem dX0_findClosing_36 : decode cX0_findClosing 36 = .ok (.invokevirtual 137, 3) := by decide +kernel
theorem dX0_findClosing_39 : decode cX0_findClosing 39 = .ok (.lstore 4, 2) := by decide +kernel
theorem dX0_findClosing_41 : decode cX0_findClosing 41 = .ok (.aload_n 0, 1) := by decide +kernel
theorem dX0_findClosing_42 : decode cX0_findClosing 42 = .ok (.iload_n 1, 1) := by decide +kernel
theorem dX0_findClosing_43 : decode cX0_findClosing 43 = .ok (.iconst 1, 1) := by decide +kernel
theorem dX0_findClosing_44 : decode cX0_findClosing 44 = .ok (.invokevirtual 137, 3) := by decide +kernel
theorem dX0_findClosing_47 : decode cX0_findClosing 47 = .ok (.lstore 6, 2) := by decide +kernel
theorem dX0_findClosing_49 : decode cX0_findClosing 49 = .ok (.aload_n 0, 1) := by decide +kernel
theorem dX0_findClosing_50 : decode cX0_findClosing 50 = .ok (.getfield 50, 3) := by decide +kernel
theorem dX0_findClosing_53 : decode cX0_findClosing 53 = .ok (.lload_n 2, 1) := by decide +kernel
theorem dX0_findClosing_54 : decode cX0_findClosing 54 = .ok (.land, 1) := by decide +kernel
theorem dX0_findClosing_55 : decode cX0_findClosing 55 = .ok (.lconst 0, 1) := by decide +kernel
theorem dX0_findClosing_56 : decode cX0_findClosing 56 = .ok (.lcmp, 1) := by decide +kernel
theorem dX0_findClosing_57 : decode cX0_findClosing 57 = .ok (.ifCond .eq 82, 3) := by decide +kernel
theorem dX0_findClosing_60 : decode cX0_findClosing 60 = .ok (.lload 4, 2) := by decide +kernel
theorem dX0_findClosing_62 : decode cX0_findClosing 62 = .ok (.lconst 0, 1) := by decide +kernel
theorem dX0_findClosing_63 : decode cX0_findClosing 63 = .ok (.lcmp, 1) := by decide +kernel
theorem dX0_findClosing_64 : decode cX0_findClosing 64 = .ok (.ifCond .eq 75, 3) := by decide +kernel
theorem dX0_findClosing_67 : decode cX0_findClosing 67 = .ok (.lload 6, 2) := by decide +kernel
theorem dX0_findClosing_69 : decode cX0_findClosing 69 = .ok (.lconst 0, 1) := by decide +kernel
theorem dX0_findClosing_70 : decode cX0_findClosing 70 = .ok (.lcmp, 1) := by decide +kernel
theorem dX0_findClosing_71 : decode cX0_findClosing 71 = .ok (.ifCond .ne 6, 3) := by decide +kernel
theorem dX0_findClosing_74 : decode cX0_findClosing 74 = .ok (.goto 65, 3) := by decide +kernel
theorem dX0_findClosing_77 : decode cX0_findClosing 77 = .ok (.aload_n 0, 1) := by decide +kernel
theorem dX0_findClosing_78 : decode cX0_findClosing 78 = .ok (.lload 4, 2) := by decide +kernel
theorem dX0_findClosing_80 : decode cX0_findClosing 80 = .ok (.invokevirtual 89, 3) := by decide +kernel
theorem dX0_findClosing_83 : decode cX0_findClosing 83 = .ok (.lstore 8, 2) := by decide +kernel
theorem dX0_findClosing_85 : decode cX0_findClosing 85 = .ok (.lload 8, 2) := by decide +kernel
theorem dX0_findClosing_87 : decode cX0_findClosing 87 = .ok (.lload 6, 2) := by decide +kernel
theorem dX0_findClosing_89 : decode cX0_findClosing 89 = .ok (.land, 1) := by decide +kernel
theorem dX0_findClosing_90 : decode cX0_findClosing 90 = .ok (.lconst 0, 1) := by decide +kernel
theorem dX0_findClosing_91 : decode cX0_findClosing 91 = .ok (.lcmp, 1) := by decide +kernel
theorem dX0_findClosing_92 : decode cX0_findClosing 92 = .ok (.ifCond .eq 7, 3) := by decide +kernel
theorem dX0_findClosing_95 : decode cX0_findClosing 95 = .ok (.iconst 1, 1) := by decide +kernel
theorem dX0_findClosing_96 : decode cX0_findClosing 96 = .ok (.goto 4, 3) := by decide +kernel
theorem dX0_findClosing_99 : decode cX0_findClosing 99 = .ok (.iconst 0, 1) := by decide +kernel
theorem dX0_findClosing_100 : decode cX0_findClosing 100 = .ok (.istore 10, 2) := by decide +kernel
theorem dX0_findClosing_102 : decode cX0_findClosing 102 = .ok (.iload 10, 2) := by decide +kernel
theorem dX0_findClosing_104 : decode cX0_findClosing 104 = .ok (.ifCond .eq 35, 3) := by decide +kernel
theorem dX0_findClosing_107 : decode cX0_findClosing 107 = .ok (.lload 8, 2) := by decide +kernel
theorem dX0_findClosing_109 : decode cX0_findClosing 109 = .ok (.aload_n 0, 1) := by decide +kernel
theorem dX0_findClosing_110 : decode cX0_findClosing 110 = .ok (.getfield 47, 3) := by decide +kernel
theorem dX0_findClosing_113 : decode cX0_findClosing 113 = .ok (.lcmp, 1) := by decide +kernel
theorem dX0_findClosing_114 : decode cX0_findClosing 114 = .ok (.ifCond .ne 16, 3) := by decide +kernel
theorem dX0_findClosing_117 : decode cX0_findClosing 117 = .ok (.aload_n 0, 1) := by decide +kernel
theorem dX0_findClosing_118 : decode cX0_findClosing 118 = .ok (.aload_n 0, 1) := by decide +kernel
theorem dX0_findClosing_119 : decode cX0_findClosing 119 = .ok (.getfield 47, 3) := by decide +kernel
theorem dX0_findClosing_122 : decode cX0_findClosing 122 = .ok (.lload_n 2, 1) := by decide +kernel
theorem dX0_findClosing_123 : decode cX0_findClosing 123 = .ok (.lor, 1) := by decide +kernel
theorem dX0_findClosing_124 : decode cX0_findClosing 124 = .ok (.invokevirtual 141, 3) := by decide +kernel
theorem dX0_findClosing_127 : decode cX0_findClosing 127 = .ok (.ifCond .ne 12, 3) := by decide +kernel
theorem dX0_findClosing_130 : decode cX0_findClosing 130 = .ok (.aload_n 0, 1) := by decide +kernel
theorem dX0_findClosing_131 : decode cX0_findClosing 131 = .ok (.iconst 5, 1) := by decide +kernel
theorem dX0_findClosing_132 : decode cX0_findClosing 132 = .ok (.iload_n 1, 1) := by decide +kernel
theorem dX0_findClosing_133 : decode cX0_findClosing 133 = .ok (.iconst (-1), 1) := by decide +kernel
theorem dX0_findClosing_134 : decode cX0_findClosing 134 = .ok (.invokevirtual 130, 3) := by decide +kernel
theorem dX0_findClosing_137 : decode cX0_findClosing 137 = .ok (.iconst 1, 1) := by decide +kernel
theorem dX0_findClosing_138 : decode cX0_findClosing 138 = .ok (.ireturn, 1) := by decide +kernel
theorem dX0_findClosing_139 : decode cX0_findClosing 139 = .ok (.iinc 1 1, 3) := by decide +kernel
theorem dX0_findClosing_142 : decode cX0_findClosing 142 = .ok (.goto (-124), 3) := by decide +kernel
theorem dX0_findClosing_145 : decode cX0_findClosing 145 = .ok (.iconst 0, 1) := by decide +kernel
theorem dX0_findClosing_146 : decode cX0_findClosing 146 = .ok (.ireturn, 1) := by decide +kernel
theorem dX0_drawnAtEnd_0 : decode cX0_drawnAtEnd 0 = .ok (.aload_n 0, 1) := by decide +kernel
theorem dX0_drawnAtEnd_1 : decode cX0_drawnAtEnd 1 = .ok (.getfield 25, 3) := by decide +kernel
theorem dX0_drawnAtEnd_4 : decode cX0_drawnAtEnd 4 = .ok (.getfield 86, 3) := by decide +kernel
theorem dX0_drawnAtEnd_7 : decode cX0_drawnAtEnd 7 = .ok (.iconst 2, 1) := by decide +kernel
theorem dX0_drawnAtEnd_8 : decode cX0_drawnAtEnd 8 = .ok (.iload_n 1, 1) := by decide +kernel
theorem dX0_drawnAtEnd_9 : decode cX0_drawnAtEnd 9 = .ok (.imul, 1) := by decide +kernel
theorem dX0_drawnAtEnd_10 : decode cX0_drawnAtEnd 10 = .ok (.iload_n 2, 1) := by decide +kernel
theorem dX0_drawnAtEnd_11 : decode cX0_drawnAtEnd 11 = .ok (.iadd, 1) := by decide +kernel
theorem dX0_drawnAtEnd_12 : decode cX0_drawnAtEnd 12 = .ok (.iaload, 1) := by decide +kernel
theorem dX0_drawnAtEnd_13 : decode cX0_drawnAtEnd 13 = .ok (.istore_n 3, 1) := by decide +kernel
theorem dX0_drawnAtEnd_14 : decode cX0_drawnAtEnd 14 = .ok (.aload_n 0, 1) := by decide +kernel
theorem dX0_drawnAtEnd_15 : decode cX0_drawnAtEnd 15 = .ok (.getfield 25, 3) := by decide +kernel
theorem dX0_drawnAtEnd_18 : decode cX0_drawnAtEnd 18 = .ok (.iload_n 3, 1) := by decide +kernel
theorem dX0_drawnAtEnd_19 : decode cX0_drawnAtEnd 19 = .ok (.invokevirtual 117, 3) := by decide +kernel
theorem dX0_drawnAtEnd_22 : decode cX0_drawnAtEnd 22 = .ok (.ifCond .eq 20, 3) := by decide +kernel
theorem dX0_drawnAtEnd_25 : decode cX0_drawnAtEnd 25 = .ok (.aload_n 0, 1) := by decide +kernel
theorem dX0_drawnAtEnd_26 : decode cX0_drawnAtEnd 26 = .ok (.getfield 25, 3) := by decide +kernel
theorem dX0_drawnAtEnd_29 : decode cX0_drawnAtEnd 29 = .ok (.getfield 120, 3) := by decide +kernel
theorem dX0_drawnAtEnd_32 : decode cX0_drawnAtEnd 32 = .ok (.iload_n 3, 1) := by decide +kernel
theorem dX0_drawnAtEnd_33 : decode cX0_drawnAtEnd 33 = .ok (.laload, 1) := by decide +kernel
theorem dX0_drawnAtEnd_34 : decode cX0_drawnAtEnd 34 = .ok (.aload_n 0, 1) := by decide +kernel
theorem dX0_drawnAtEnd_35 : decode cX0_drawnAtEnd 35 = .ok (.getfield 47, 3) := by decide +kernel
theorem dX0_drawnAtEnd_38 : decode cX0_drawnAtEnd 38 = .ok (.land, 1) := by decide +kernel
theorem dX0_drawnAtEnd_39 : decode cX0_drawnAtEnd 39 = .ok (.goto 4, 3) := by decide +kernel
theorem dX0_drawnAtEnd_42 : decode cX0_drawnAtEnd 42 = .ok (.lconst 0, 1) := by decide +kernel
theorem dX0_drawnAtEnd_43 : decode cX0_drawnAtEnd 43 = .ok (.lreturn, 1) := by decide +kernel
theorem dX0_meetsCounts_0 : decode cX0_meetsCounts 0 = .ok (.iconst 0, 1) := by decide +kernel
theorem dX0_meetsCounts_1 : decode cX0_meetsCounts 1 = .ok (.istore_n 3, 1) := by decide +kernel
theorem dX0_meetsCounts_2 : decode cX0_meetsCounts 2 = .ok (.iload_n 3, 1) := by decide +kernel
theorem dX0_meetsCounts_3 : decode cX0_meetsCounts 3 = .ok (.aload_n 0, 1) := by decide +kernel
theorem dX0_meetsCounts_4 : decode cX0_meetsCounts 4 = .ok (.getfield 25, 3) := by decide +kernel
theorem dX0_meetsCounts_7 : decode cX0_meetsCounts 7 = .ok (.getfield 59, 3) := by decide +kernel
theorem dX0_meetsCounts_10 : decode cX0_meetsCounts 10 = .ok (.if_icmp .ge 47, 3) := by decide +kernel
theorem dX0_meetsCounts_13 : decode cX0_meetsCounts 13 = .ok (.aload_n 0, 1) := by decide +kernel
theorem dX0_meetsCounts_14 : decode cX0_meetsCounts 14 = .ok (.getfield 25, 3) := by decide +kernel
theorem dX0_meetsCounts_17 : decode cX0_meetsCounts 17 = .ok (.getfield 100, 3) := by decide +kernel
theorem dX0_meetsCounts_20 : decode cX0_meetsCounts 20 = .ok (.iload_n 3, 1) := by decide +kernel
theorem dX0_meetsCounts_21 : decode cX0_meetsCounts 21 = .ok (.iaload, 1) := by decide +kernel
theorem dX0_meetsCounts_22 : decode cX0_meetsCounts 22 = .ok (.istore 4, 2) := by decide +kernel
theorem dX0_meetsCounts_24 : decode cX0_meetsCounts 24 = .ok (.iload 4, 2) := by decide +kernel
theorem dX0_meetsCounts_26 : decode cX0_meetsCounts 26 = .ok (.iconst (-1), 1) := by decide +kernel
theorem dX0_meetsCounts_27 : decode cX0_meetsCounts 27 = .ok (.if_icmp .eq 24, 3) := by decide +kernel
theorem dX0_meetsCounts_30 : decode cX0_meetsCounts 30 = .ok (.aload_n 0, 1) := by decide +kernel
theorem dX0_meetsCounts_31 : decode cX0_meetsCounts 31 = .ok (.getfield 25, 3) := by decide +kernel
theorem dX0_meetsCounts_34 : decode cX0_meetsCounts 34 = .ok (.getfield 103, 3) := by decide +kernel
theorem dX0_meetsCounts_37 : decode cX0_meetsCounts 37 = .ok (.iload_n 3, 1) := by decide +kernel
theorem dX0_meetsCounts_38 : decode cX0_meetsCounts 38 = .ok (.laload, 1) := by decide +kernel
theorem dX0_meetsCounts_39 : decode cX0_meetsCounts 39 = .ok (.lload_n 1, 1) := by decide +kernel
theorem dX0_meetsCounts_40 : decode cX0_meetsCounts 40 = .ok (.land, 1) := by decide +kernel
theorem dX0_meetsCounts_41 : decode cX0_meetsCounts 41 = .ok (.invokestatic 107, 3) := by decide +kernel
theorem dX0_meetsCounts_44 : decode cX0_meetsCounts 44 = .ok (.iload 4, 2) := by decide +kernel
theorem dX0_meetsCounts_46 : decode cX0_meetsCounts 46 = .ok (.if_icmp .eq 5, 3) := by decide +kernel
theorem dX0_meetsCounts_49 : decode cX0_meetsCounts 49 = .ok (.iconst 0, 1) := by decide +kernel
theorem dX0_meetsCounts_50 : decode cX0_meetsCounts 50 = .ok (.ireturn, 1) := by decide +kernel
theorem dX0_meetsCounts_51 : decode cX0_meetsCounts 51 = .ok (.iinc 3 1, 3) := by decide +kernel
theorem dX0_meetsCounts_54 : decode cX0_meetsCounts 54 = .ok (.goto (-52), 3) := by decide +kernel
theorem dX0_meetsCounts_57 : decode cX0_meetsCounts 57 = .ok (.iconst 1, 1) := by decide +kernel
theorem dX0_meetsCounts_58 : decode cX0_meetsCounts 58 = .ok (.ireturn, 1) := by decide +kernel
theorem dX0_found_0 : decode cX0_found 0 = .ok (.aload_n 0, 1) := by decide +kernel
theorem dX0_found_1 : decode cX0_found 1 = .ok (.iload_n 1, 1) := by decide +kernel
theorem dX0_found_2 : decode cX0_found 2 = .ok (.putfield 15, 3) := by decide +kernel
theorem dX0_found_5 : decode cX0_found 5 = .ok (.aload_n 0, 1) := by decide +kernel
theorem dX0_found_6 : decode cX0_found 6 = .ok (.iload_n 2, 1) := by decide +kernel
theorem dX0_found_7 : decode cX0_found 7 = .ok (.putfield 19, 3) := by decide +kernel
theorem dX0_found_10 : decode cX0_found 10 = .ok (.aload_n 0, 1) := by decide +kernel
theorem dX0_found_11 : decode cX0_found 11 = .ok (.iload_n 3, 1) := by decide +kernel
theorem dX0_found_12 : decode cX0_found 12 = .ok (.putfield 22, 3) := by decide +kernel
theorem dX0_found_15 : decode cX0_found 15 = .ok (.return_, 1) := by decide +kernel
theorem dX0_makeFound_0 : decode cX0_makeFound 0 = .ok (.aload_n 0, 1) := by decide +kernel
theorem dX0_makeFound_1 : decode cX0_makeFound 1 = .ok (.aload_n 0, 1) := by decide +kernel
theorem dX0_makeFound_2 : decode cX0_makeFound 2 = .ok (.getfield 19, 3) := by decide +kernel
theorem dX0_makeFound_5 : decode cX0_makeFound 5 = .ok (.aload_n 0, 1) := by decide +kernel
theorem dX0_makeFound_6 : decode cX0_makeFound 6 = .ok (.getfield 15, 3) := by decide +kernel
theorem dX0_makeFound_9 : decode cX0_makeFound 9 = .ok (.invokestatic 144, 3) := by decide +kernel
theorem dX0_makeFound_12 : decode cX0_makeFound 12 = .ok (.invokevirtual 148, 3) := by decide +kernel
theorem dX0_makeFound_15 : decode cX0_makeFound 15 = .ok (.return_, 1) := by decide +kernel
theorem dX0_settle_0 : decode cX0_settle 0 = .ok (.iconst 0, 1) := by decide +kernel
theorem dX0_settle_1 : decode cX0_settle 1 = .ok (.istore_n 1, 1) := by decide +kernel
theorem dX0_settle_2 : decode cX0_settle 2 = .ok (.iload_n 1, 1) := by decide +kernel
theorem dX0_settle_3 : decode cX0_settle 3 = .ok (.bipush 40, 2) := by decide +kernel
theorem dX0_settle_5 : decode cX0_settle 5 = .ok (.if_icmp .ge 40, 3) := by decide +kernel
theorem dX0_settle_8 : decode cX0_settle 8 = .ok (.aload_n 0, 1) := by decide +kernel
theorem dX0_settle_9 : decode cX0_settle 9 = .ok (.iconst 4, 1) := by decide +kernel
theorem dX0_settle_10 : decode cX0_settle 10 = .ok (.invokevirtual 152, 3) := by decide +kernel
theorem dX0_settle_13 : decode cX0_settle 13 = .ok (.ifCond .ne 11, 3) := by decide +kernel
theorem dX0_settle_16 : decode cX0_settle 16 = .ok (.aload_n 0, 1) := by decide +kernel
theorem dX0_settle_17 : decode cX0_settle 17 = .ok (.invokevirtual 155, 3) := by decide +kernel
theorem dX0_settle_20 : decode cX0_settle 20 = .ok (.ifCond .ne 4, 3) := by decide +kernel
theorem dX0_settle_23 : decode cX0_settle 23 = .ok (.return_, 1) := by decide +kernel
theorem dX0_settle_24 : decode cX0_settle 24 = .ok (.aload_n 0, 1) := by decide +kernel
theorem dX0_settle_25 : decode cX0_settle 25 = .ok (.aload_n 0, 1) := by decide +kernel
theorem dX0_settle_26 : decode cX0_settle 26 = .ok (.getfield 19, 3) := by decide +kernel
theorem dX0_settle_29 : decode cX0_settle 29 = .ok (.aload_n 0, 1) := by decide +kernel
theorem dX0_settle_30 : decode cX0_settle 30 = .ok (.getfield 15, 3) := by decide +kernel
theorem dX0_settle_33 : decode cX0_settle 33 = .ok (.invokestatic 144, 3) := by decide +kernel
theorem dX0_settle_36 : decode cX0_settle 36 = .ok (.invokevirtual 148, 3) := by decide +kernel
theorem dX0_settle_39 : decode cX0_settle 39 = .ok (.iinc 1 1, 3) := by decide +kernel
theorem dX0_settle_42 : decode cX0_settle 42 = .ok (.goto (-40), 3) := by decide +kernel
theorem dX0_settle_45 : decode cX0_settle 45 = .ok (.return_, 1) := by decide +kernel
theorem dX1_init_0 : decode cX1_init 0 = .ok (.aload_n 0, 1) := by decide +kernel
theorem dX1_init_1 : decode cX1_init 1 = .ok (.invokespecial 3, 3) := by decide +kernel
theorem dX1_init_4 : decode cX1_init 4 = .ok (.aload_n 0, 1) := by decide +kernel
theorem dX1_init_5 : decode cX1_init 5 = .ok (.bipush 16, 2) := by decide +kernel
theorem dX1_init_7 : decode cX1_init 7 = .ok (.newarray .int, 2) := by decide +kernel
theorem dX1_init_9 : decode cX1_init 9 = .ok (.putfield 9, 3) := by decide +kernel
theorem dX1_init_12 : decode cX1_init 12 = .ok (.aload_n 0, 1) := by decide +kernel
theorem dX1_init_13 : decode cX1_init 13 = .ok (.bipush 16, 2) := by decide +kernel
theorem dX1_init_15 : decode cX1_init 15 = .ok (.newarray .long, 2) := by decide +kernel
theorem dX1_init_17 : decode cX1_init 17 = .ok (.putfield 15, 3) := by decide +kernel
theorem dX1_init_20 : decode cX1_init 20 = .ok (.aload_n 0, 1) := by decide +kernel
theorem dX1_init_21 : decode cX1_init 21 = .ok (.bipush 25, 2) := by decide +kernel
theorem dX1_init_23 : decode cX1_init 23 = .ok (.newarray .long, 2) := by decide +kernel
theorem dX1_init_25 : decode cX1_init 25 = .ok (.putfield 19, 3) := by decide +kernel
theorem dX1_init_28 : decode cX1_init 28 = .ok (.aload_n 0, 1) := by decide +kernel
theorem dX1_init_29 : decode cX1_init 29 = .ok (.bipush 80, 2) := by decide +kernel
theorem dX1_init_31 : decode cX1_init 31 = .ok (.newarray .int, 2) := by decide +kernel
theorem dX1_init_33 : decode cX1_init 33 = .ok (.putfield 22, 3) := by decide +kernel
theorem dX1_init_36 : decode cX1_init 36 = .ok (.aload_n 0, 1) := by decide +kernel
theorem dX1_init_37 : decode cX1_init 37 = .ok (.bipush 80, 2) := by decide +kernel
theorem dX1_init_39 : decode cX1_init 39 = .ok (.newarray .int, 2) := by decide +kernel
theorem dX1_init_41 : decode cX1_init 41 = .ok (.putfield 25, 3) := by decide +kernel
theorem dX1_init_44 : decode cX1_init 44 = .ok (.return_, 1) := by decide +kernel
theorem dX1_hasCell_0 : decode cX1_hasCell 0 = .ok (.iload_n 1, 1) := by decide +kernel
theorem dX1_hasCell_1 : decode cX1_hasCell 1 = .ok (.ifCond .lt 15, 3) := by decide +kernel
theorem dX1_hasCell_4 : decode cX1_hasCell 4 = .ok (.iload_n 1, 1) := by decide +kernel
theorem dX1_hasCell_5 : decode cX1_hasCell 5 = .ok (.aload_n 0, 1) := by decide +kernel
theorem dX1_hasCell_6 : decode cX1_hasCell 6 = .ok (.getfield 28, 3) := by decide +kernel
theorem dX1_hasCell_9 : decode cX1_hasCell 9 = .ok (.if_icmp .ge 7, 3) := by decide +kernel
theorem dX1_hasCell_12 : decode cX1_hasCell 12 = .ok (.iconst 1, 1) := by decide +kernel
theorem dX1_hasCell_13 : decode cX1_hasCell 13 = .ok (.goto 4, 3) := by decide +kernel
theorem dX1_hasCell_16 : decode cX1_hasCell 16 = .ok (.iconst 0, 1) := by decide +kernel
theorem dX1_hasCell_17 : decode cX1_hasCell 17 = .ok (.ireturn, 1) := by decide +kernel
theorem dX1_hasCorner_0 : decode cX1_hasCorner 0 = .ok (.iload_n 1, 1) := by decide +kernel
theorem dX1_hasCorner_1 : decode cX1_hasCorner 1 = .ok (.ifCond .lt 15, 3) := by decide +kernel
theorem dX1_hasCorner_4 : decode cX1_hasCorner 4 = .ok (.iload_n 1, 1) := by decide +kernel
theorem dX1_hasCorner_5 : decode cX1_hasCorner 5 = .ok (.aload_n 0, 1) := by decide +kernel
theorem dX1_hasCorner_6 : decode cX1_hasCorner 6 = .ok (.getfield 32, 3) := by decide +kernel
theorem dX1_hasCorner_9 : decode cX1_hasCorner 9 = .ok (.if_icmp .ge 7, 3) := by decide +kernel
theorem dX1_hasCorner_12 : decode cX1_hasCorner 12 = .ok (.iconst 1, 1) := by decide +kernel
theorem dX1_hasCorner_13 : decode cX1_hasCorner 13 = .ok (.goto 4, 3) := by decide +kernel
theorem dX1_hasCorner_16 : decode cX1_hasCorner 16 = .ok (.iconst 0, 1) := by decide +kernel
theorem dX1_hasCorner_17 : decode cX1_hasCorner 17 = .ok (.ireturn, 1) := by decide +kernel
theorem dX1_hasEdge_0 : decode cX1_hasEdge 0 = .ok (.iload_n 1, 1) := by decide +kernel
theorem dX1_hasEdge_1 : decode cX1_hasEdge 1 = .ok (.ifCond .lt 15, 3) := by decide +kernel
theorem dX1_hasEdge_4 : decode cX1_hasEdge 4 = .ok (.iload_n 1, 1) := by decide +kernel
theorem dX1_hasEdge_5 : decode cX1_hasEdge 5 = .ok (.aload_n 0, 1) := by decide +kernel
theorem dX1_hasEdge_6 : decode cX1_hasEdge 6 = .ok (.getfield 35, 3) := by decide +kernel
theorem dX1_hasEdge_9 : decode cX1_hasEdge 9 = .ok (.if_icmp .ge 7, 3) := by decide +kernel
theorem dX1_hasEdge_12 : decode cX1_hasEdge 12 = .ok (.iconst 1, 1) := by decide +kernel
theorem dX1_hasEdge_13 : decode cX1_hasEdge 13 = .ok (.goto 4, 3) := by decide +kernel
theorem dX1_hasEdge_16 : decode cX1_hasEdge 16 = .ok (.iconst 0, 1) := by decide +kernel
theorem dX1_hasEdge_17 : decode cX1_hasEdge 17 = .ok (.ireturn, 1) := by decide +kernel
theorem dX1_allEdges_0 : decode cX1_allEdges 0 = .ok (.lconst 1, 1) := by decide +kernel
theorem dX1_allEdges_1 : decode cX1_allEdges 1 = .ok (.aload_n 0, 1) := by decide +kernel
theorem dX1_allEdges_2 : decode cX1_allEdges 2 = .ok (.getfield 35, 3) := by decide +kernel
theorem dX1_allEdges_5 : decode cX1_allEdges 5 = .ok (.lshl, 1) := by decide +kernel
theorem dX1_allEdges_6 : decode cX1_allEdges 6 = .ok (.lconst 1, 1) := by decide +kernel
theorem dX1_allEdges_7 : decode cX1_allEdges 7 = .ok (.lsub, 1) := by decide +kernel
theorem dX1_allEdges_8 : decode cX1_allEdges 8 = .ok (.lreturn, 1) := by decide +kernel
theorem dX1_countedCells_0 : decode cX1_countedCells 0 = .ok (.iconst 0, 1) := by decide +kernel
theorem dX1_countedCells_1 : decode cX1_countedCells 1 = .ok (.istore_n 1, 1) := by decide +kernel
theorem dX1_countedCells_2 : decode cX1_countedCells 2 = .ok (.iconst 0, 1) := by decide +kernel
theorem dX1_countedCells_3 : decode cX1_countedCells 3 = .ok (.istore_n 2, 1) := by decide +kernel
theorem dX1_countedCells_4 : decode cX1_countedCells 4 = .ok (.iload_n 2, 1) := by decide +kernel
theorem dX1_countedCells_5 : decode cX1_countedCells 5 = .ok (.aload_n 0, 1) := by decide +kernel
theorem dX1_countedCells_6 : decode cX1_countedCells 6 = .ok (.getfield 28, 3) := by decide +kernel
theorem dX1_countedCells_9 : decode cX1_countedCells 9 = .ok (.if_icmp .ge 22, 3) := by decide +kernel
theorem dX1_countedCells_12 : decode cX1_countedCells 12 = .ok (.aload_n 0, 1) := by decide +kernel
theorem dX1_countedCells_13 : decode cX1_countedCells 13 = .ok (.getfield 9, 3) := by decide +kernel
theorem dX1_countedCells_16 : decode cX1_countedCells 16 = .ok (.iload_n 2, 1) := by decide +kernel
theorem dX1_countedCells_17 : decode cX1_countedCells 17 = .ok (.iaload, 1) := by decide +kernel
theorem dX1_countedCells_18 : decode cX1_countedCells 18 = .ok (.iconst (-1), 1) := by decide +kernel
theorem dX1_countedCells_19 : decode cX1_countedCells 19 = .ok (.if_icmp .eq 6, 3) := by decide +kernel
theorem dX1_countedCells_22 : decode cX1_countedCells 22 = .ok (.iinc 1 1, 3) := by decide +kernel
theorem dX1_countedCells_25 : decode cX1_countedCells 25 = .ok (.iinc 2 1, 3) := by decide +kernel
theorem dX1_countedCells_28 : decode cX1_countedCells 28 = .ok (.goto (-24), 3) := by decide +kernel
theorem dX1_countedCells_31 : decode cX1_countedCells 31 = .ok (.iload_n 1, 1) := by decide +kernel
theorem dX1_countedCells_32 : decode cX1_countedCells 32 = .ok (.ireturn, 1) := by decide +kernel
theorem dX1_lay_0 : decode cX1_lay 0 = .ok (.aload_n 0, 1) := by decide +kernel
theorem dX1_lay_1 : decode cX1_lay 1 = .ok (.iconst 1, 1) := by decide +kernel
theorem dX1_lay_2 : decode cX1_lay 2 = .ok (.iconst 4, 1) := by decide +kernel
theorem dX1_lay_3 : decode cX1_lay 3 = .ok (.iload_n 1, 1) := by decide +kernel
theorem dX1_lay_4 : decode cX1_lay 4 = .ok (.invokestatic 38, 3) := by decide +kernel
theorem dX1_lay_7 : decode cX1_lay 7 = .ok (.invokestatic 44, 3) := by decide +kernel
theorem dX1_lay_10 : decode cX1_lay 10 = .ok (.putfield 47, 3) := by decide +kernel
theorem dX1_lay_13 : decode cX1_lay 13 = .ok (.aload_n 0, 1) := by decide +kernel
theorem dX1_lay_14 : decode cX1_lay 14 = .ok (.iconst 1, 1) := by decide +kernel
theorem dX1_lay_15 : decode cX1_lay 15 = .ok (.iconst 4, 1) := by decide +kernel
theorem dX1_lay_16 : decode cX1_lay 16 = .ok (.iload_n 2, 1) := by decide +kernel
theorem dX1_lay_17 : decode cX1_lay 17 = .ok (.invokestatic 38, 3) := by decide +kernel
theorem dX1_lay_20 : decode cX1_lay 20 = .ok (.invokestatic 44, 3) := by decide +kernel
theorem dX1_lay_23 : decode cX1_lay 23 = .ok (.putfield 50, 3) := by decide +kernel
theorem dX1_lay_26 : decode cX1_lay 26 = .ok (.aload_n 0, 1) := by decide +kernel
theorem dX1_lay_27 : decode cX1_lay 27 = .ok (.aload_n 0, 1) := by decide +kernel
theorem dX1_lay_28 : decode cX1_lay 28 = .ok (.getfield 47, 3) := by decide +kernel
theorem dX1_lay_31 : decode cX1_lay 31 = .ok (.aload_n 0, 1) := by decide +kernel
theorem dX1_lay_32 : decode cX1_lay 32 = .ok (.getfield 50, 3) := by decide +kernel
theorem dX1_lay_35 : decode cX1_lay 35 = .ok (.imul, 1) := by decide +kernel
theorem dX1_lay_36 : decode cX1_lay 36 = .ok (.putfield 28, 3) := by decide +kernel
theorem dX1_lay_39 : decode cX1_lay 39 = .ok (.aload_n 0, 1) := by decide +kernel
theorem dX1_lay_40 : decode cX1_lay 40 = .ok (.aload_n 0, 1) := by decide +kernel
theorem dX1_lay_41 : decode cX1_lay 41 = .ok (.getfield 47, 3) := by decide +kernel
theorem dX1_lay_44 : decode cX1_lay 44 = .ok (.iconst 1, 1) := by decide +kernel
theorem dX1_lay_45 : decode cX1_lay 45 = .ok (.iadd, 1) := by decide +kernel
theorem dX1_lay_46 : decode cX1_lay 46 = .ok (.aload_n 0, 1) := by decide +kernel
theorem dX1_lay_47 : decode cX1_lay 47 = .ok (.getfield 50, 3) := by decide +kernel
theorem dX1_lay_50 : decode cX1_lay 50 = .ok (.iconst 1, 1) := by decide +kernel
theorem dX1_lay_51 : decode cX1_lay 51 = .ok (.iadd, 1) := by decide +kernel
theorem dX1_lay_52 : decode cX1_lay 52 = .ok (.imul, 1) := by decide +kernel
theorem dX1_lay_53 : decode cX1_lay 53 = .ok (.putfield 32, 3) := by decide +kernel
theorem dX1_lay_56 : decode cX1_lay 56 = .ok (.aload_n 0, 1) := by decide +kernel
theorem dX1_lay_57 : decode cX1_lay 57 = .ok (.aload_n 0, 1) := by decide +kernel
theorem dX1_lay_58 : decode cX1_lay 58 = .ok (.getfield 50, 3) := by decide +kernel
theorem dX1_lay_61 : decode cX1_lay 61 = .ok (.iconst 1, 1) := by decide +kernel
theorem dX1_lay_62 : decode cX1_lay 62 = .ok (.iadd, 1) := by decide +kernel
theorem dX1_lay_63 : decode cX1_lay 63 = .ok (.aload_n 0, 1) := by decide +kernel
theorem dX1_lay_64 : decode cX1_lay 64 = .ok (.getfield 47, 3) := by decide +kernel
theorem dX1_lay_67 : decode cX1_lay 67 = .ok (.imul, 1) := by decide +kernel
theorem dX1_lay_68 : decode cX1_lay 68 = .ok (.aload_n 0, 1) := by decide +kernel
theorem dX1_lay_69 : decode cX1_lay 69 = .ok (.getfield 50, 3) := by decide +kernel
theorem dX1_lay_72 : decode cX1_lay 72 = .ok (.aload_n 0, 1) := by decide +kernel
theorem dX1_lay_73 : decode cX1_lay 73 = .ok (.getfield 47, 3) := by decide +kernel
theorem dX1_lay_76 : decode cX1_lay 76 = .ok (.iconst 1, 1) := by decide +kernel
theorem dX1_lay_77 : decode cX1_lay 77 = .ok (.iadd, 1) := by decide +kernel
theorem dX1_lay_78 : decode cX1_lay 78 = .ok (.imul, 1) := by decide +kernel
theorem dX1_lay_79 : decode cX1_lay 79 = .ok (.iadd, 1) := by decide +kernel
theorem dX1_lay_80 : decode cX1_lay 80 = .ok (.putfield 35, 3) := by decide +kernel
theorem dX1_lay_83 : decode cX1_lay 83 = .ok (.iconst 0, 1) := by decide +kernel
theorem dX1_lay_84 : decode cX1_lay 84 = .ok (.istore_n 3, 1) := by decide +kernel
theorem dX1_lay_85 : decode cX1_lay 85 = .ok (.iload_n 3, 1) := by decide +kernel
theorem dX1_lay_86 : decode cX1_lay 86 = .ok (.bipush 16, 2) := by decide +kernel
theorem dX1_lay_88 : decode cX1_lay 88 = .ok (.if_icmp .ge 23, 3) := by decide +kernel
theorem dX1_lay_91 : decode cX1_lay 91 = .ok (.aload_n 0, 1) := by decide +kernel
theorem dX1_lay_92 : decode cX1_lay 92 = .ok (.getfield 9, 3) := by decide +kernel
theorem dX1_lay_95 : decode cX1_lay 95 = .ok (.iload_n 3, 1) := by decide +kernel
theorem dX1_lay_96 : decode cX1_lay 96 = .ok (.iconst (-1), 1) := by decide +kernel
theorem dX1_lay_97 : decode cX1_lay 97 = .ok (.iastore, 1) := by decide +kernel
theorem dX1_lay_98 : decode cX1_lay 98 = .ok (.aload_n 0, 1) := by decide +kernel
theorem dX1_lay_99 : decode cX1_lay 99 = .ok (.getfield 15, 3) := by decide +kernel
theorem dX1_lay_102 : decode cX1_lay 102 = .ok (.iload_n 3, 1) := by decide +kernel
theorem dX1_lay_103 : decode cX1_lay 103 = .ok (.lconst 0, 1) := by decide +kernel
theorem dX1_lay_104 : decode cX1_lay 104 = .ok (.lastore, 1) := by decide +kernel
theorem dX1_lay_105 : decode cX1_lay 105 = .ok (.iinc 3 1, 3) := by decide +kernel
theorem dX1_lay_108 : decode cX1_lay 108 = .ok (.goto (-23), 3) := by decide +kernel
theorem dX1_lay_111 : decode cX1_lay 111 = .ok (.iconst 0, 1) := by decide +kernel
theorem dX1_lay_112 : decode cX1_lay 112 = .ok (.istore_n 3, 1) := by decide +kernel
theorem dX1_lay_113 : decode cX1_lay 113 = .ok (.iload_n 3, 1) := by decide +kernel
theorem dX1_lay_114 : decode cX1_lay 114 = .ok (.bipush 25, 2) := by decide +kernel
theorem dX1_lay_116 : decode cX1_lay 116 = .ok (.if_icmp .ge 16, 3) := by decide +kernel
theorem dX1_lay_119 : decode cX1_lay 119 = .ok (.aload_n 0, 1) := by decide +kernel
theorem dX1_lay_120 : decode cX1_lay 120 = .ok (.getfield 19, 3) := by decide +kernel
theorem dX1_lay_123 : decode cX1_lay 123 = .ok (.iload_n 3, 1) := by decide +kernel
theorem dX1_lay_124 : decode cX1_lay 124 = .ok (.lconst 0, 1) := by decide +kernel
theorem dX1_lay_125 : decode cX1_lay 125 = .ok (.lastore, 1) := by decide +kernel
theorem dX1_lay_126 : decode cX1_lay 126 = .ok (.iinc 3 1, 3) := by decide +kernel
theorem dX1_lay_129 : decode cX1_lay 129 = .ok (.goto (-16), 3) := by decide +kernel
theorem dX1_lay_132 : decode cX1_lay 132 = .ok (.iconst 0, 1) := by decide +kernel
theorem dX1_lay_133 : decode cX1_lay 133 = .ok (.istore_n 3, 1) := by decide +kernel
theorem dX1_lay_134 : decode cX1_lay 134 = .ok (.iload_n 3, 1) := by decide +kernel
theorem dX1_lay_135 : decode cX1_lay 135 = .ok (.aload_n 0, 1) := by decide +kernel
theorem dX1_lay_136 : decode cX1_lay 136 = .ok (.getfield 50, 3) := by decide +kernel
theorem dX1_lay_139 : decode cX1_lay 139 = .ok (.if_icmp .gt 34, 3) := by decide +kernel
theorem dX1_lay_142 : decode cX1_lay 142 = .ok (.iconst 0, 1) := by decide +kernel
theorem dX1_lay_143 : decode cX1_lay 143 = .ok (.istore 4, 2) := by decide +kernel
theorem dX1_lay_145 : decode cX1_lay 145 = .ok (.iload 4, 2) := by decide +kernel
theorem dX1_lay_147 : decode cX1_lay 147 = .ok (.aload_n 0, 1) := by decide +kernel
theorem dX1_lay_148 : decode cX1_lay 148 = .ok (.getfield 47, 3) := by decide +kernel
theorem dX1_lay_151 : decode cX1_lay 151 = .ok (.if_icmp .gt 16, 3) := by decide +kernel
theorem dX1_lay_154 : decode cX1_lay 154 = .ok (.aload_n 0, 1) := by decide +kernel
theorem dX1_lay_155 : decode cX1_lay 155 = .ok (.iload_n 3, 1) := by decide +kernel
theorem dX1_lay_156 : decode cX1_lay 156 = .ok (.iload 4, 2) := by decide +kernel
theorem dX1_lay_158 : decode cX1_lay 158 = .ok (.invokevirtual 53, 3) := by decide +kernel
theorem dX1_lay_161 : decode cX1_lay 161 = .ok (.iinc 4 1, 3) := by decide +kernel
theorem dX1_lay_164 : decode cX1_lay 164 = .ok (.goto (-19), 3) := by decide +kernel
theorem dX1_lay_167 : decode cX1_lay 167 = .ok (.iinc 3 1, 3) := by decide +kernel
theorem dX1_lay_170 : decode cX1_lay 170 = .ok (.goto (-36), 3) := by decide +kernel
theorem dX1_lay_173 : decode cX1_lay 173 = .ok (.return_, 1) := by decide +kernel
theorem dX1_layEdgesFrom_0 : decode cX1_layEdgesFrom 0 = .ok (.iload_n 1, 1) := by decide +kernel
theorem dX1_layEdgesFrom_1 : decode cX1_layEdgesFrom 1 = .ok (.aload_n 0, 1) := by decide +kernel
theorem dX1_layEdgesFrom_2 : decode cX1_layEdgesFrom 2 = .ok (.getfield 47, 3) := by decide +kernel
theorem dX1_layEdgesFrom_5 : decode cX1_layEdgesFrom 5 = .ok (.iconst 1, 1) := by decide +kernel
theorem dX1_layEdgesFrom_6 : decode cX1_layEdgesFrom 6 = .ok (.iadd, 1) := by decide +kernel
theorem dX1_layEdgesFrom_7 : decode cX1_layEdgesFrom 7 = .ok (.imul, 1) := by decide +kernel
theorem dX1_layEdgesFrom_8 : decode cX1_layEdgesFrom 8 = .ok (.iload_n 2, 1) := by decide +kernel
theorem dX1_layEdgesFrom_9 : decode cX1_layEdgesFrom 9 = .ok (.iadd, 1) := by decide +kernel
theorem dX1_layEdgesFrom_10 : decode cX1_layEdgesFrom 10 = .ok (.istore_n 3, 1) := by decide +kernel
theorem dX1_layEdgesFrom_11 : decode cX1_layEdgesFrom 11 = .ok (.aload_n 0, 1) := by decide +kernel
theorem dX1_layEdgesFrom_12 : decode cX1_layEdgesFrom 12 = .ok (.iload_n 1, 1) := by decide +kernel
theorem dX1_layEdgesFrom_13 : decode cX1_layEdgesFrom 13 = .ok (.iload_n 2, 1) := by decide +kernel
theorem dX1_layEdgesFrom_14 : decode cX1_layEdgesFrom 14 = .ok (.invokevirtual 57, 3) := by decide +kernel
theorem dX1_layEdgesFrom_17 : decode cX1_layEdgesFrom 17 = .ok (.istore 4, 2) := by decide +kernel
theorem dX1_layEdgesFrom_19 : decode cX1_layEdgesFrom 19 = .ok (.iload_n 2, 1) := by decide +kernel
theorem dX1_layEdgesFrom_20 : decode cX1_layEdgesFrom 20 = .ok (.aload_n 0, 1) := by decide +kernel
theorem dX1_layEdgesFrom_21 : decode cX1_layEdgesFrom 21 = .ok (.getfield 47, 3) := by decide +kernel
theorem dX1_layEdgesFrom_24 : decode cX1_layEdgesFrom 24 = .ok (.if_icmp .ge 29, 3) := by decide +kernel
theorem dX1_layEdgesFrom_27 : decode cX1_layEdgesFrom 27 = .ok (.aload_n 0, 1) := by decide +kernel
theorem dX1_layEdgesFrom_28 : decode cX1_layEdgesFrom 28 = .ok (.iload_n 1, 1) := by decide +kernel
theorem dX1_layEdgesFrom_29 : decode cX1_layEdgesFrom 29 = .ok (.aload_n 0, 1) := by decide +kernel
theorem dX1_layEdgesFrom_30 : decode cX1_layEdgesFrom 30 = .ok (.getfield 47, 3) := by decide +kernel
theorem dX1_layEdgesFrom_33 : decode cX1_layEdgesFrom 33 = .ok (.imul, 1) := by decide +kernel
theorem dX1_layEdgesFrom_34 : decode cX1_layEdgesFrom 34 = .ok (.iload_n 2, 1) := by decide +kernel
theorem dX1_layEdgesFrom_35 : decode cX1_layEdgesFrom 35 = .ok (.iadd, 1) := by decide +kernel
theorem dX1_layEdgesFrom_36 : decode cX1_layEdgesFrom 36 = .ok (.iload_n 3, 1) := by decide +kernel
theorem dX1_layEdgesFrom_37 : decode cX1_layEdgesFrom 37 = .ok (.iload_n 3, 1) := by decide +kernel
theorem dX1_layEdgesFrom_38 : decode cX1_layEdgesFrom 38 = .ok (.iconst 1, 1) := by decide +kernel
theorem dX1_layEdgesFrom_39 : decode cX1_layEdgesFrom 39 = .ok (.iadd, 1) := by decide +kernel
theorem dX1_layEdgesFrom_40 : decode cX1_layEdgesFrom 40 = .ok (.aload_n 0, 1) := by decide +kernel
theorem dX1_layEdgesFrom_41 : decode cX1_layEdgesFrom 41 = .ok (.iload_n 1, 1) := by decide +kernel
theorem dX1_layEdgesFrom_42 : decode cX1_layEdgesFrom 42 = .ok (.iconst 1, 1) := by decide +kernel
theorem dX1_layEdgesFrom_43 : decode cX1_layEdgesFrom 43 = .ok (.isub, 1) := by decide +kernel
theorem dX1_layEdgesFrom_44 : decode cX1_layEdgesFrom 44 = .ok (.iload_n 2, 1) := by decide +kernel
theorem dX1_layEdgesFrom_45 : decode cX1_layEdgesFrom 45 = .ok (.invokevirtual 57, 3) := by decide +kernel
theorem dX1_layEdgesFrom_48 : decode cX1_layEdgesFrom 48 = .ok (.iload 4, 2) := by decide +kernel
theorem dX1_layEdgesFrom_50 : decode cX1_layEdgesFrom 50 = .ok (.invokevirtual 60, 3) := by decide +kernel
theorem dX1_layEdgesFrom_53 : decode cX1_layEdgesFrom 53 = .ok (.iload_n 1, 1) := by decide +kernel
theorem dX1_layEdgesFrom_54 : decode cX1_layEdgesFrom 54 = .ok (.aload_n 0, 1) := by decide +kernel
theorem dX1_layEdgesFrom_55 : decode cX1_layEdgesFrom 55 = .ok (.getfield 50, 3) := by decide +kernel
theorem dX1_layEdgesFrom_58 : decode cX1_layEdgesFrom 58 = .ok (.if_icmp .ge 43, 3) := by decide +kernel
theorem dX1_layEdgesFrom_61 : decode cX1_layEdgesFrom 61 = .ok (.aload_n 0, 1) := by decide +kernel
theorem dX1_layEdgesFrom_62 : decode cX1_layEdgesFrom 62 = .ok (.getfield 50, 3) := by decide +kernel
theorem dX1_layEdgesFrom_65 : decode cX1_layEdgesFrom 65 = .ok (.iconst 1, 1) := by decide +kernel
theorem dX1_layEdgesFrom_66 : decode cX1_layEdgesFrom 66 = .ok (.iadd, 1) := by decide +kernel
theorem dX1_layEdgesFrom_67 : decode cX1_layEdgesFrom 67 = .ok (.aload_n 0, 1) := by decide +kernel
theorem dX1_layEdgesFrom_68 : decode cX1_layEdgesFrom 68 = .ok (.getfield 47, 3) := by decide +kernel
theorem dX1_layEdgesFrom_71 : decode cX1_layEdgesFrom 71 = .ok (.imul, 1) := by decide +kernel
theorem dX1_layEdgesFrom_72 : decode cX1_layEdgesFrom 72 = .ok (.iload_n 3, 1) := by decide +kernel
theorem dX1_layEdgesFrom_73 : decode cX1_layEdgesFrom 73 = .ok (.iadd, 1) := by decide +kernel
theorem dX1_layEdgesFrom_74 : decode cX1_layEdgesFrom 74 = .ok (.istore 5, 2) := by decide +kernel
theorem dX1_layEdgesFrom_76 : decode cX1_layEdgesFrom 76 = .ok (.aload_n 0, 1) := by decide +kernel
theorem dX1_layEdgesFrom_77 : decode cX1_layEdgesFrom 77 = .ok (.iload 5, 2) := by decide +kernel
theorem dX1_layEdgesFrom_79 : decode cX1_layEdgesFrom 79 = .ok (.iload_n 3, 1) := by decide +kernel
theorem dX1_layEdgesFrom_80 : decode cX1_layEdgesFrom 80 = .ok (.iload_n 3, 1) := by decide +kernel
theorem dX1_layEdgesFrom_81 : decode cX1_layEdgesFrom 81 = .ok (.aload_n 0, 1) := by decide +kernel
theorem dX1_layEdgesFrom_82 : decode cX1_layEdgesFrom 82 = .ok (.getfield 47, 3) := by decide +kernel
theorem dX1_layEdgesFrom_85 : decode cX1_layEdgesFrom 85 = .ok (.iadd, 1) := by decide +kernel
theorem dX1_layEdgesFrom_86 : decode cX1_layEdgesFrom 86 = .ok (.iconst 1, 1) := by decide +kernel
theorem dX1_layEdgesFrom_87 : decode cX1_layEdgesFrom 87 = .ok (.iadd, 1) := by decide +kernel
theorem dX1_layEdgesFrom_88 : decode cX1_layEdgesFrom 88 = .ok (.aload_n 0, 1) := by decide +kernel
theorem dX1_layEdgesFrom_89 : decode cX1_layEdgesFrom 89 = .ok (.iload_n 1, 1) := by decide +kernel
theorem dX1_layEdgesFrom_90 : decode cX1_layEdgesFrom 90 = .ok (.iload_n 2, 1) := by decide +kernel
theorem dX1_layEdgesFrom_91 : decode cX1_layEdgesFrom 91 = .ok (.iconst 1, 1) := by decide +kernel
theorem dX1_layEdgesFrom_92 : decode cX1_layEdgesFrom 92 = .ok (.isub, 1) := by decide +kernel
theorem dX1_layEdgesFrom_93 : decode cX1_layEdgesFrom 93 = .ok (.invokevirtual 57, 3) := by decide +kernel
theorem dX1_layEdgesFrom_96 : decode cX1_layEdgesFrom 96 = .ok (.iload 4, 2) := by decide +kernel
theorem dX1_layEdgesFrom_98 : decode cX1_layEdgesFrom 98 = .ok (.invokevirtual 60, 3) := by decide +kernel
theorem dX1_layEdgesFrom_101 : decode cX1_layEdgesFrom 101 = .ok (.return_, 1) := by decide +kernel
theorem dX1_cellAt_0 : decode cX1_cellAt 0 = .ok (.iload_n 1, 1) := by decide +kernel
theorem dX1_cellAt_1 : decode cX1_cellAt 1 = .ok (.ifCond .lt 27, 3) := by decide +kernel
theorem dX1_cellAt_4 : decode cX1_cellAt 4 = .ok (.iload_n 1, 1) := by decide +kernel
theorem dX1_cellAt_5 : decode cX1_cellAt 5 = .ok (.aload_n 0, 1) := by decide +kernel
theorem dX1_cellAt_6 : decode cX1_cellAt 6 = .ok (.getfield 50, 3) := by decide +kernel
theorem dX1_cellAt_9 : decode cX1_cellAt 9 = .ok (.if_icmp .ge 19, 3) := by decide +kernel
theorem dX1_cellAt_12 : decode cX1_cellAt 12 = .ok (.iload_n 2, 1) := by decide +kernel
theorem dX1_cellAt_13 : decode cX1_cellAt 13 = .ok (.ifCond .lt 15, 3) := by decide +kernel
theorem dX1_cellAt_16 : decode cX1_cellAt 16 = .ok (.iload_n 2, 1) := by decide +kernel
theorem dX1_cellAt_17 : decode cX1_cellAt 17 = .ok (.aload_n 0, 1) := by decide +kernel
theorem dX1_cellAt_18 : decode cX1_cellAt 18 = .ok (.getfield 47, 3) := by decide +kernel
theorem dX1_cellAt_21 : decode cX1_cellAt 21 = .ok (.if_icmp .ge 7, 3) := by decide +kernel
theorem dX1_cellAt_24 : decode cX1_cellAt 24 = .ok (.iconst 1, 1) := by decide +kernel
theorem dX1_cellAt_25 : decode cX1_cellAt 25 = .ok (.goto 4, 3) := by decide +kernel
theorem dX1_cellAt_28 : decode cX1_cellAt 28 = .ok (.iconst 0, 1) := by decide +kernel
theorem dX1_cellAt_29 : decode cX1_cellAt 29 = .ok (.istore_n 3, 1) := by decide +kernel
theorem dX1_cellAt_30 : decode cX1_cellAt 30 = .ok (.iload_n 3, 1) := by decide +kernel
theorem dX1_cellAt_31 : decode cX1_cellAt 31 = .ok (.ifCond .eq 14, 3) := by decide +kernel
theorem dX1_cellAt_34 : decode cX1_cellAt 34 = .ok (.iload_n 1, 1) := by decide +kernel
theorem dX1_cellAt_35 : decode cX1_cellAt 35 = .ok (.aload_n 0, 1) := by decide +kernel
theorem dX1_cellAt_36 : decode cX1_cellAt 36 = .ok (.getfield 47, 3) := by decide +kernel
theorem dX1_cellAt_39 : decode cX1_cellAt 39 = .ok (.imul, 1) := by decide +kernel
theorem dX1_cellAt_40 : decode cX1_cellAt 40 = .ok (.iload_n 2, 1) := by decide +kernel
theorem dX1_cellAt_41 : decode cX1_cellAt 41 = .ok (.iadd, 1) := by decide +kernel
theorem dX1_cellAt_42 : decode cX1_cellAt 42 = .ok (.goto 4, 3) := by decide +kernel
theorem dX1_cellAt_45 : decode cX1_cellAt 45 = .ok (.iconst (-1), 1) := by decide +kernel
theorem dX1_cellAt_46 : decode cX1_cellAt 46 = .ok (.ireturn, 1) := by decide +kernel
theorem dX1_layEdge_0 : decode cX1_layEdge 0 = .ok (.aload_n 0, 1) := by decide +kernel
theorem dX1_layEdge_1 : decode cX1_layEdge 1 = .ok (.iload_n 1, 1) := by decide +kernel
theorem dX1_layEdge_2 : decode cX1_layEdge 2 = .ok (.invokevirtual 64, 3) := by decide +kernel
theorem dX1_layEdge_5 : decode cX1_layEdge 5 = .ok (.ifCond .eq 19, 3) := by decide +kernel
theorem dX1_layEdge_8 : decode cX1_layEdge 8 = .ok (.aload_n 0, 1) := by decide +kernel
theorem dX1_layEdge_9 : decode cX1_layEdge 9 = .ok (.iload_n 2, 1) := by decide +kernel
theorem dX1_layEdge_10 : decode cX1_layEdge 10 = .ok (.invokevirtual 68, 3) := by decide +kernel
theorem dX1_layEdge_13 : decode cX1_layEdge 13 = .ok (.ifCond .eq 11, 3) := by decide +kernel
theorem dX1_layEdge_16 : decode cX1_layEdge 16 = .ok (.aload_n 0, 1) := by decide +kernel
theorem dX1_layEdge_17 : decode cX1_layEdge 17 = .ok (.iload_n 3, 1) := by decide +kernel
theorem dX1_layEdge_18 : decode cX1_layEdge 18 = .ok (.invokevirtual 68, 3) := by decide +kernel
theorem dX1_layEdge_21 : decode cX1_layEdge 21 = .ok (.ifCond .ne 4, 3) := by decide +kernel
theorem dX1_layEdge_24 : decode cX1_layEdge 24 = .ok (.return_, 1) := by decide +kernel
theorem dX1_layEdge_25 : decode cX1_layEdge 25 = .ok (.lconst 1, 1) := by decide +kernel
theorem dX1_layEdge_26 : decode cX1_layEdge 26 = .ok (.iload_n 1, 1) := by decide +kernel
theorem dX1_layEdge_27 : decode cX1_layEdge 27 = .ok (.lshl, 1) := by decide +kernel
theorem dX1_layEdge_28 : decode cX1_layEdge 28 = .ok (.lstore 6, 2) := by decide +kernel
theorem dX1_layEdge_30 : decode cX1_layEdge 30 = .ok (.aload_n 0, 1) := by decide +kernel
theorem dX1_layEdge_31 : decode cX1_layEdge 31 = .ok (.getfield 25, 3) := by decide +kernel
theorem dX1_layEdge_34 : decode cX1_layEdge 34 = .ok (.iconst 2, 1) := by decide +kernel
theorem dX1_layEdge_35 : decode cX1_layEdge 35 = .ok (.iload_n 1, 1) := by decide +kernel
theorem dX1_layEdge_36 : decode cX1_layEdge 36 = .ok (.imul, 1) := by decide +kernel
theorem dX1_layEdge_37 : decode cX1_layEdge 37 = .ok (.iload_n 2, 1) := by decide +kernel
theorem dX1_layEdge_38 : decode cX1_layEdge 38 = .ok (.iastore, 1) := by decide +kernel
theorem dX1_layEdge_39 : decode cX1_layEdge 39 = .ok (.aload_n 0, 1) := by decide +kernel
theorem dX1_layEdge_40 : decode cX1_layEdge 40 = .ok (.getfield 25, 3) := by decide +kernel
theorem dX1_layEdge_43 : decode cX1_layEdge 43 = .ok (.iconst 2, 1) := by decide +kernel
theorem dX1_layEdge_44 : decode cX1_layEdge 44 = .ok (.iload_n 1, 1) := by decide +kernel
theorem dX1_layEdge_45 : decode cX1_layEdge 45 = .ok (.imul, 1) := by decide +kernel
theorem dX1_layEdge_46 : decode cX1_layEdge 46 = .ok (.iconst 1, 1) := by decide +kernel
theorem dX1_layEdge_47 : decode cX1_layEdge 47 = .ok (.iadd, 1) := by decide +kernel
theorem dX1_layEdge_48 : decode cX1_layEdge 48 = .ok (.iload_n 3, 1) := by decide +kernel
theorem dX1_layEdge_49 : decode cX1_layEdge 49 = .ok (.iastore, 1) := by decide +kernel
theorem dX1_layEdge_50 : decode cX1_layEdge 50 = .ok (.aload_n 0, 1) := by decide +kernel
theorem dX1_layEdge_51 : decode cX1_layEdge 51 = .ok (.getfield 19, 3) := by decide +kernel
theorem dX1_layEdge_54 : decode cX1_layEdge 54 = .ok (.iload_n 2, 1) := by decide +kernel
theorem dX1_layEdge_55 : decode cX1_layEdge 55 = .ok (.dup2, 1) := by decide +kernel
theorem dX1_layEdge_56 : decode cX1_layEdge 56 = .ok (.laload, 1) := by decide +kernel
theorem dX1_layEdge_57 : decode cX1_layEdge 57 = .ok (.lload 6, 2) := by decide +kernel
theorem dX1_layEdge_59 : decode cX1_layEdge 59 = .ok (.lor, 1) := by decide +kernel
theorem dX1_layEdge_60 : decode cX1_layEdge 60 = .ok (.lastore, 1) := by decide +kernel
theorem dX1_layEdge_61 : decode cX1_layEdge 61 = .ok (.aload_n 0, 1) := by decide +kernel
theorem dX1_layEdge_62 : decode cX1_layEdge 62 = .ok (.getfield 19, 3) := by decide +kernel
theorem dX1_layEdge_65 : decode cX1_layEdge 65 = .ok (.iload_n 3, 1) := by decide +kernel
theorem dX1_layEdge_66 : decode cX1_layEdge 66 = .ok (.dup2, 1) := by decide +kernel
theorem dX1_layEdge_67 : decode cX1_layEdge 67 = .ok (.laload, 1) := by decide +kernel
theorem dX1_layEdge_68 : decode cX1_layEdge 68 = .ok (.lload 6, 2) := by decide +kernel
theorem dX1_layEdge_70 : decode cX1_layEdge 70 = .ok (.lor, 1) := by decide +kernel
theorem dX1_layEdge_71 : decode cX1_layEdge 71 = .ok (.lastore, 1) := by decide +kernel
theorem dX1_layEdge_72 : decode cX1_layEdge 72 = .ok (.aload_n 0, 1) := by decide +kernel
theorem dX1_layEdge_73 : decode cX1_layEdge 73 = .ok (.getfield 22, 3) := by decide +kernel
theorem dX1_layEdge_76 : decode cX1_layEdge 76 = .ok (.iconst 2, 1) := by decide +kernel
theorem dX1_layEdge_77 : decode cX1_layEdge 77 = .ok (.iload_n 1, 1) := by decide +kernel
theorem dX1_layEdge_78 : decode cX1_layEdge 78 = .ok (.imul, 1) := by decide +kernel
theorem dX1_layEdge_79 : decode cX1_layEdge 79 = .ok (.iload 4, 2) := by decide +kernel
theorem dX1_layEdge_81 : decode cX1_layEdge 81 = .ok (.iastore, 1) := by decide +kernel
theorem dX1_layEdge_82 : decode cX1_layEdge 82 = .ok (.aload_n 0, 1) := by decide +kernel
theorem dX1_layEdge_83 : decode cX1_layEdge 83 = .ok (.getfield 22, 3) := by decide +kernel
theorem dX1_layEdge_86 : decode cX1_layEdge 86 = .ok (.iconst 2, 1) := by decide +kernel
theorem dX1_layEdge_87 : decode cX1_layEdge 87 = .ok (.iload_n 1, 1) := by decide +kernel
theorem dX1_layEdge_88 : decode cX1_layEdge 88 = .ok (.imul, 1) := by decide +kernel
theorem dX1_layEdge_89 : decode cX1_layEdge 89 = .ok (.iconst 1, 1) := by decide +kernel
theorem dX1_layEdge_90 : decode cX1_layEdge 90 = .ok (.iadd, 1) := by decide +kernel
theorem dX1_layEdge_91 : decode cX1_layEdge 91 = .ok (.iload 5, 2) := by decide +kernel
theorem dX1_layEdge_93 : decode cX1_layEdge 93 = .ok (.iastore, 1) := by decide +kernel
theorem dX1_layEdge_94 : decode cX1_layEdge 94 = .ok (.aload_n 0, 1) := by decide +kernel
theorem dX1_layEdge_95 : decode cX1_layEdge 95 = .ok (.iload 4, 2) := by decide +kernel
theorem dX1_layEdge_97 : decode cX1_layEdge 97 = .ok (.invokevirtual 71, 3) := by decide +kernel
theorem dX1_layEdge_100 : decode cX1_layEdge 100 = .ok (.ifCond .eq 15, 3) := by decide +kernel
theorem dX1_layEdge_103 : decode cX1_layEdge 103 = .ok (.aload_n 0, 1) := by decide +kernel
theorem dX1_layEdge_104 : decode cX1_layEdge 104 = .ok (.getfield 15, 3) := by decide +kernel
theorem dX1_layEdge_107 : decode cX1_layEdge 107 = .ok (.iload 4, 2) := by decide +kernel
theorem dX1_layEdge_109 : decode cX1_layEdge 109 = .ok (.dup2, 1) := by decide +kernel
theorem dX1_layEdge_110 : decode cX1_layEdge 110 = .ok (.laload, 1) := by decide +kernel
theorem dX1_layEdge_111 : decode cX1_layEdge 111 = .ok (.lload 6, 2) := by decide +kernel
theorem dX1_layEdge_113 : decode cX1_layEdge 113 = .ok (.lor, 1) := by decide +kernel
theorem dX1_layEdge_114 : decode cX1_layEdge 114 = .ok (.lastore, 1) := by decide +kernel
theorem dX1_layEdge_115 : decode cX1_layEdge 115 = .ok (.aload_n 0, 1) := by decide +kernel
theorem dX1_layEdge_116 : decode cX1_layEdge 116 = .ok (.iload 5, 2) := by decide +kernel
theorem dX1_layEdge_118 : decode cX1_layEdge 118 = .ok (.invokevirtual 71, 3) := by decide +kernel
theorem dX1_layEdge_121 : decode cX1_layEdge 121 = .ok (.ifCond .eq 15, 3) := by decide +kernel
theorem dX1_layEdge_124 : decode cX1_layEdge 124 = .ok (.aload_n 0, 1) := by decide +kernel
theorem dX1_layEdge_125 : decode cX1_layEdge 125 = .ok (.getfield 15, 3) := by decide +kernel
theorem dX1_layEdge_128 : decode cX1_layEdge 128 = .ok (.iload 5, 2) := by decide +kernel
theorem dX1_layEdge_130 : decode cX1_layEdge 130 = .ok (.dup2, 1) := by decide +kernel
theorem dX1_layEdge_131 : decode cX1_layEdge 131 = .ok (.laload, 1) := by decide +kernel
theorem dX1_layEdge_132 : decode cX1_layEdge 132 = .ok (.lload 6, 2) := by decide +kernel
theorem dX1_layEdge_134 : decode cX1_layEdge 134 = .ok (.lor, 1) := by decide +kernel
theorem dX1_layEdge_135 : decode cX1_layEdge 135 = .ok (.lastore, 1) := by decide +kernel
theorem dX1_layEdge_136 : decode cX1_layEdge 136 = .ok (.return_, 1) := by decide +kernel
theorem dX2_init_0 : decode cX2_init 0 = .ok (.aload_n 0, 1) := by decide +kernel
theorem dX2_init_1 : decode cX2_init 1 = .ok (.invokespecial 3, 3) := by decide +kernel
theorem dX2_init_4 : decode cX2_init 4 = .ok (.aload_n 0, 1) := by decide +kernel
theorem dX2_init_5 : decode cX2_init 5 = .ok (.bipush 8, 2) := by decide +kernel
theorem dX2_init_7 : decode cX2_init 7 = .ok (.newarray .int, 2) := by decide +kernel
theorem dX2_init_9 : decode cX2_init 9 = .ok (.putfield 9, 3) := by decide +kernel
theorem dX2_init_12 : decode cX2_init 12 = .ok (.aload_n 0, 1) := by decide +kernel
theorem dX2_init_13 : decode cX2_init 13 = .ok (.bipush 8, 2) := by decide +kernel
theorem dX2_init_15 : decode cX2_init 15 = .ok (.newarray .int, 2) := by decide +kernel
theorem dX2_init_17 : decode cX2_init 17 = .ok (.putfield 15, 3) := by decide +kernel
theorem dX2_init_20 : decode cX2_init 20 = .ok (.aload_n 0, 1) := by decide +kernel
theorem dX2_init_21 : decode cX2_init 21 = .ok (.bipush 8, 2) := by decide +kernel
theorem dX2_init_23 : decode cX2_init 23 = .ok (.newarray .long, 2) := by decide +kernel
theorem dX2_init_25 : decode cX2_init 25 = .ok (.putfield 18, 3) := by decide +kernel
theorem dX2_init_28 : decode cX2_init 28 = .ok (.aload_n 0, 1) := by decide +kernel
theorem dX2_init_29 : decode cX2_init 29 = .ok (.bipush 8, 2) := by decide +kernel
theorem dX2_init_31 : decode cX2_init 31 = .ok (.newarray .long, 2) := by decide +kernel
theorem dX2_init_33 : decode cX2_init 33 = .ok (.putfield 22, 3) := by decide +kernel
theorem dX2_init_36 : decode cX2_init 36 = .ok (.aload_n 0, 1) := by decide +kernel
theorem dX2_init_37 : decode cX2_init 37 = .ok (.sipush 128, 3) := by decide +kernel
theorem dX2_init_40 : decode cX2_init 40 = .ok (.newarray .int, 2) := by decide +kernel
theorem dX2_init_42 : decode cX2_init 42 = .ok (.putfield 25, 3) := by decide +kernel
theorem dX2_init_45 : decode cX2_init 45 = .ok (.aload_n 0, 1) := by decide +kernel
theorem dX2_init_46 : decode cX2_init 46 = .ok (.bipush 64, 2) := by decide +kernel
theorem dX2_init_48 : decode cX2_init 48 = .ok (.newarray .int, 2) := by decide +kernel
theorem dX2_init_50 : decode cX2_init 50 = .ok (.putfield 28, 3) := by decide +kernel
theorem dX2_init_53 : decode cX2_init 53 = .ok (.return_, 1) := by decide +kernel
theorem dX2_keep_0 : decode cX2_keep 0 = .ok (.aload_n 0, 1) := by decide +kernel
theorem dX2_keep_1 : decode cX2_keep 1 = .ok (.getfield 31, 3) := by decide +kernel
theorem dX2_keep_4 : decode cX2_keep 4 = .ok (.bipush 8, 2) := by decide +kernel
theorem dX2_keep_6 : decode cX2_keep 6 = .ok (.invokestatic 35, 3) := by decide +kernel
theorem dX2_keep_9 : decode cX2_keep 9 = .ok (.istore 4, 2) := by decide +kernel
theorem dX2_keep_11 : decode cX2_keep 11 = .ok (.aload_n 0, 1) := by decide +kernel
theorem dX2_keep_12 : decode cX2_keep 12 = .ok (.getfield 9, 3) := by decide +kernel
theorem dX2_keep_15 : decode cX2_keep 15 = .ok (.iload 4, 2) := by decide +kernel
theorem dX2_keep_17 : decode cX2_keep 17 = .ok (.aload_n 1, 1) := by decide +kernel
theorem dX2_keep_18 : decode cX2_keep 18 = .ok (.getfield 41, 3) := by decide +kernel
theorem dX2_keep_21 : decode cX2_keep 21 = .ok (.iastore, 1) := by decide +kernel
theorem dX2_keep_22 : decode cX2_keep 22 = .ok (.aload_n 0, 1) := by decide +kernel
theorem dX2_keep_23 : decode cX2_keep 23 = .ok (.getfield 15, 3) := by decide +kernel
theorem dX2_keep_26 : decode cX2_keep 26 = .ok (.iload 4, 2) := by decide +kernel
theorem dX2_keep_28 : decode cX2_keep 28 = .ok (.aload_n 1, 1) := by decide +kernel
theorem dX2_keep_29 : decode cX2_keep 29 = .ok (.getfield 46, 3) := by decide +kernel
theorem dX2_keep_32 : decode cX2_keep 32 = .ok (.iastore, 1) := by decide +kernel
theorem dX2_keep_33 : decode cX2_keep 33 = .ok (.aload_n 0, 1) := by decide +kernel
theorem dX2_keep_34 : decode cX2_keep 34 = .ok (.getfield 18, 3) := by decide +kernel
theorem dX2_keep_37 : decode cX2_keep 37 = .ok (.iload 4, 2) := by decide +kernel
theorem dX2_keep_39 : decode cX2_keep 39 = .ok (.aload_n 2, 1) := by decide +kernel
theorem dX2_keep_40 : decode cX2_keep 40 = .ok (.getfield 49, 3) := by decide +kernel
theorem dX2_keep_43 : decode cX2_keep 43 = .ok (.lastore, 1) := by decide +kernel
theorem dX2_keep_44 : decode cX2_keep 44 = .ok (.aload_n 0, 1) := by decide +kernel
theorem dX2_keep_45 : decode cX2_keep 45 = .ok (.getfield 22, 3) := by decide +kernel
theorem dX2_keep_48 : decode cX2_keep 48 = .ok (.iload 4, 2) := by decide +kernel
theorem dX2_keep_50 : decode cX2_keep 50 = .ok (.aload_n 2, 1) := by decide +kernel
theorem dX2_keep_51 : decode cX2_keep 51 = .ok (.getfield 54, 3) := by decide +kernel
theorem dX2_keep_54 : decode cX2_keep 54 = .ok (.lastore, 1) := by decide +kernel
theorem dX2_keep_55 : decode cX2_keep 55 = .ok (.iconst 0, 1) := by decide +kernel
theorem dX2_keep_56 : decode cX2_keep 56 = .ok (.istore 5, 2) := by decide +kernel
theorem dX2_keep_58 : decode cX2_keep 58 = .ok (.iload 5, 2) := by decide +kernel
theorem dX2_keep_60 : decode cX2_keep 60 = .ok (.bipush 16, 2) := by decide +kernel
theorem dX2_keep_62 : decode cX2_keep 62 = .ok (.if_icmp .ge 29, 3) := by decide +kernel
theorem dX2_keep_65 : decode cX2_keep 65 = .ok (.aload_n 0, 1) := by decide +kernel
theorem dX2_keep_66 : decode cX2_keep 66 = .ok (.getfield 25, 3) := by decide +kernel
theorem dX2_keep_69 : decode cX2_keep 69 = .ok (.iload 4, 2) := by decide +kernel
theorem dX2_keep_71 : decode cX2_keep 71 = .ok (.bipush 16, 2) := by decide +kernel
theorem dX2_keep_73 : decode cX2_keep 73 = .ok (.imul, 1) := by decide +kernel
theorem dX2_keep_74 : decode cX2_keep 74 = .ok (.iload 5, 2) := by decide +kernel
theorem dX2_keep_76 : decode cX2_keep 76 = .ok (.iadd, 1) := by decide +kernel
theorem dX2_keep_77 : decode cX2_keep 77 = .ok (.aload_n 1, 1) := by decide +kernel
theorem dX2_keep_78 : decode cX2_keep 78 = .ok (.getfield 56, 3) := by decide +kernel
theorem dX2_keep_81 : decode cX2_keep 81 = .ok (.iload 5, 2) := by decide +kernel
theorem dX2_keep_83 : decode cX2_keep 83 = .ok (.iaload, 1) := by decide +kernel
theorem dX2_keep_84 : decode cX2_keep 84 = .ok (.iastore, 1) := by decide +kernel
theorem dX2_keep_85 : decode cX2_keep 85 = .ok (.iinc 5 1, 3) := by decide +kernel
theorem dX2_keep_88 : decode cX2_keep 88 = .ok (.goto (-30), 3) := by decide +kernel
theorem dX2_keep_91 : decode cX2_keep 91 = .ok (.iconst 0, 1) := by decide +kernel
theorem dX2_keep_92 : decode cX2_keep 92 = .ok (.istore 5, 2) := by decide +kernel
theorem dX2_keep_94 : decode cX2_keep 94 = .ok (.iload 5, 2) := by decide +kernel
theorem dX2_keep_96 : decode cX2_keep 96 = .ok (.bipush 8, 2) := by decide +kernel
theorem dX2_keep_98 : decode cX2_keep 98 = .ok (.if_icmp .ge 33, 3) := by decide +kernel
theorem dX2_keep_101 : decode cX2_keep 101 = .ok (.iload 5, 2) := by decide +kernel
theorem dX2_keep_103 : decode cX2_keep 103 = .ok (.aload_n 3, 1) := by decide +kernel
theorem dX2_keep_104 : decode cX2_keep 104 = .ok (.arraylength, 1) := by decide +kernel
theorem dX2_keep_105 : decode cX2_keep 105 = .ok (.if_icmp .ge 26, 3) := by decide +kernel
theorem dX2_keep_108 : decode cX2_keep 108 = .ok (.aload_n 0, 1) := by decide +kernel
theorem dX2_keep_109 : decode cX2_keep 109 = .ok (.getfield 28, 3) := by decide +kernel
theorem dX2_keep_112 : decode cX2_keep 112 = .ok (.iload 4, 2) := by decide +kernel
theorem dX2_keep_114 : decode cX2_keep 114 = .ok (.bipush 8, 2) := by decide +kernel
theorem dX2_keep_116 : decode cX2_keep 116 = .ok (.imul, 1) := by decide +kernel
theorem dX2_keep_117 : decode cX2_keep 117 = .ok (.iload 5, 2) := by decide +kernel
theorem dX2_keep_119 : decode cX2_keep 119 = .ok (.iadd, 1) := by decide +kernel
theorem dX2_keep_120 : decode cX2_keep 120 = .ok (.aload_n 3, 1) := by decide +kernel
theorem dX2_keep_121 : decode cX2_keep 121 = .ok (.iload 5, 2) := by decide +kernel
theorem dX2_keep_123 : decode cX2_keep 123 = .ok (.iaload, 1) := by decide +kernel
theorem dX2_keep_124 : decode cX2_keep 124 = .ok (.iastore, 1) := by decide +kernel
theorem dX2_keep_125 : decode cX2_keep 125 = .ok (.iinc 5 1, 3) := by decide +kernel
theorem dX2_keep_128 : decode cX2_keep 128 = .ok (.goto (-34), 3) := by decide +kernel
theorem dX2_keep_131 : decode cX2_keep 131 = .ok (.aload_n 0, 1) := by decide +kernel
theorem dX2_keep_132 : decode cX2_keep 132 = .ok (.iload 4, 2) := by decide +kernel
theorem dX2_keep_134 : decode cX2_keep 134 = .ok (.iconst 1, 1) := by decide +kernel
theorem dX2_keep_135 : decode cX2_keep 135 = .ok (.iadd, 1) := by decide +kernel
theorem dX2_keep_136 : decode cX2_keep 136 = .ok (.bipush 8, 2) := by decide +kernel
theorem dX2_keep_138 : decode cX2_keep 138 = .ok (.invokestatic 35, 3) := by decide +kernel
theorem dX2_keep_141 : decode cX2_keep 141 = .ok (.putfield 31, 3) := by decide +kernel
theorem dX2_keep_144 : decode cX2_keep 144 = .ok (.aload_n 0, 1) := by decide +kernel
theorem dX2_keep_145 : decode cX2_keep 145 = .ok (.aload_n 0, 1) := by decide +kernel
theorem dX2_keep_146 : decode cX2_keep 146 = .ok (.getfield 57, 3) := by decide +kernel
theorem dX2_keep_149 : decode cX2_keep 149 = .ok (.iconst 1, 1) := by decide +kernel
theorem dX2_keep_150 : decode cX2_keep 150 = .ok (.iadd, 1) := by decide +kernel
theorem dX2_keep_151 : decode cX2_keep 151 = .ok (.bipush 8, 2) := by decide +kernel
theorem dX2_keep_153 : decode cX2_keep 153 = .ok (.invokestatic 60, 3) := by decide +kernel
theorem dX2_keep_156 : decode cX2_keep 156 = .ok (.putfield 57, 3) := by decide +kernel
theorem dX2_keep_159 : decode cX2_keep 159 = .ok (.return_, 1) := by decide +kernel
theorem dX2_restore_0 : decode cX2_restore 0 = .ok (.aload_n 0, 1) := by decide +kernel
theorem dX2_restore_1 : decode cX2_restore 1 = .ok (.getfield 31, 3) := by decide +kernel
theorem dX2_restore_4 : decode cX2_restore 4 = .ok (.iconst 1, 1) := by decide +kernel
theorem dX2_restore_5 : decode cX2_restore 5 = .ok (.isub, 1) := by decide +kernel
theorem dX2_restore_6 : decode cX2_restore 6 = .ok (.bipush 8, 2) := by decide +kernel
theorem dX2_restore_8 : decode cX2_restore 8 = .ok (.invokestatic 35, 3) := by decide +kernel
theorem dX2_restore_11 : decode cX2_restore 11 = .ok (.istore 4, 2) := by decide +kernel
theorem dX2_restore_13 : decode cX2_restore 13 = .ok (.aload_n 1, 1) := by decide +kernel
theorem dX2_restore_14 : decode cX2_restore 14 = .ok (.aload_n 0, 1) := by decide +kernel
theorem dX2_restore_15 : decode cX2_restore 15 = .ok (.getfield 9, 3) := by decide +kernel
theorem dX2_restore_18 : decode cX2_restore 18 = .ok (.iload 4, 2) := by decide +kernel
theorem dX2_restore_20 : decode cX2_restore 20 = .ok (.iaload, 1) := by decide +kernel
theorem dX2_restore_21 : decode cX2_restore 21 = .ok (.aload_n 0, 1) := by decide +kernel
theorem dX2_restore_22 : decode cX2_restore 22 = .ok (.getfield 15, 3) := by decide +kernel
theorem dX2_restore_25 : decode cX2_restore 25 = .ok (.iload 4, 2) := by decide +kernel
theorem dX2_restore_27 : decode cX2_restore 27 = .ok (.iaload, 1) := by decide +kernel
theorem dX2_restore_28 : decode cX2_restore 28 = .ok (.invokevirtual 63, 3) := by decide +kernel
theorem dX2_restore_31 : decode cX2_restore 31 = .ok (.iconst 0, 1) := by decide +kernel
theorem dX2_restore_32 : decode cX2_restore 32 = .ok (.istore 5, 2) := by decide +kernel
theorem dX2_restore_34 : decode cX2_restore 34 = .ok (.iload 5, 2) := by decide +kernel
theorem dX2_restore_36 : decode cX2_restore 36 = .ok (.bipush 16, 2) := by decide +kernel
theorem dX2_restore_38 : decode cX2_restore 38 = .ok (.if_icmp .ge 29, 3) := by decide +kernel
theorem dX2_restore_41 : decode cX2_restore 41 = .ok (.aload_n 1, 1) := by decide +kernel
theorem dX2_restore_42 : decode cX2_restore 42 = .ok (.getfield 56, 3) := by decide +kernel
theorem dX2_restore_45 : decode cX2_restore 45 = .ok (.iload 5, 2) := by decide +kernel
theorem dX2_restore_47 : decode cX2_restore 47 = .ok (.aload_n 0, 1) := by decide +kernel
theorem dX2_restore_48 : decode cX2_restore 48 = .ok (.getfield 25, 3) := by decide +kernel
theorem dX2_restore_51 : decode cX2_restore 51 = .ok (.iload 4, 2) := by decide +kernel
theorem dX2_restore_53 : decode cX2_restore 53 = .ok (.bipush 16, 2) := by decide +kernel
theorem dX2_restore_55 : decode cX2_restore 55 = .ok (.imul, 1) := by decide +kernel
theorem dX2_restore_56 : decode cX2_restore 56 = .ok (.iload 5, 2) := by decide +kernel
theorem dX2_restore_58 : decode cX2_restore 58 = .ok (.iadd, 1) := by decide +kernel
theorem dX2_restore_59 : decode cX2_restore 59 = .ok (.iaload, 1) := by decide +kernel
theorem dX2_restore_60 : decode cX2_restore 60 = .ok (.iastore, 1) := by decide +kernel
theorem dX2_restore_61 : decode cX2_restore 61 = .ok (.iinc 5 1, 3) := by decide +kernel
theorem dX2_restore_64 : decode cX2_restore 64 = .ok (.goto (-30), 3) := by decide +kernel
theorem dX2_restore_67 : decode cX2_restore 67 = .ok (.iconst 0, 1) := by decide +kernel
theorem dX2_restore_68 : decode cX2_restore 68 = .ok (.istore 5, 2) := by decide +kernel
theorem dX2_restore_70 : decode cX2_restore 70 = .ok (.iload 5, 2) := by decide +kernel
theorem dX2_restore_72 : decode cX2_restore 72 = .ok (.bipush 8, 2) := by decide +kernel
theorem dX2_restore_74 : decode cX2_restore 74 = .ok (.if_icmp .ge 33, 3) := by decide +kernel
theorem dX2_restore_77 : decode cX2_restore 77 = .ok (.iload 5, 2) := by decide +kernel
theorem dX2_restore_79 : decode cX2_restore 79 = .ok (.aload_n 3, 1) := by decide +kernel
theorem dX2_restore_80 : decode cX2_restore 80 = .ok (.arraylength, 1) := by decide +kernel
theorem dX2_restore_81 : decode cX2_restore 81 = .ok (.if_icmp .ge 26, 3) := by decide +kernel
theorem dX2_restore_84 : decode cX2_restore 84 = .ok (.aload_n 3, 1) := by decide +kernel
theorem dX2_restore_85 : decode cX2_restore 85 = .ok (.iload 5, 2) := by decide +kernel
theorem dX2_restore_87 : decode cX2_restore 87 = .ok (.aload_n 0, 1) := by decide +kernel
theorem dX2_restore_88 : decode cX2_restore 88 = .ok (.getfield 28, 3) := by decide +kernel
theorem dX2_restore_91 : decode cX2_restore 91 = .ok (.iload 4, 2) := by decide +kernel
theorem dX2_restore_93 : decode cX2_restore 93 = .ok (.bipush 8, 2) := by decide +kernel
theorem dX2_restore_95 : decode cX2_restore 95 = .ok (.imul, 1) := by decide +kernel
theorem dX2_restore_96 : decode cX2_restore 96 = .ok (.iload 5, 2) := by decide +kernel
theorem dX2_restore_98 : decode cX2_restore 98 = .ok (.iadd, 1) := by decide +kernel
theorem dX2_restore_99 : decode cX2_restore 99 = .ok (.iaload, 1) := by decide +kernel
theorem dX2_restore_100 : decode cX2_restore 100 = .ok (.iastore, 1) := by decide +kernel
theorem dX2_restore_101 : decode cX2_restore 101 = .ok (.iinc 5 1, 3) := by decide +kernel
theorem dX2_restore_104 : decode cX2_restore 104 = .ok (.goto (-34), 3) := by decide +kernel
theorem dX2_restore_107 : decode cX2_restore 107 = .ok (.aload_n 2, 1) := by decide +kernel
theorem dX2_restore_108 : decode cX2_restore 108 = .ok (.aload_n 0, 1) := by decide +kernel
theorem dX2_restore_109 : decode cX2_restore 109 = .ok (.getfield 18, 3) := by decide +kernel
theorem dX2_restore_112 : decode cX2_restore 112 = .ok (.iload 4, 2) := by decide +kernel
theorem dX2_restore_114 : decode cX2_restore 114 = .ok (.laload, 1) := by decide +kernel
theorem dX2_restore_115 : decode cX2_restore 115 = .ok (.aload_n 0, 1) := by decide +kernel
theorem dX2_restore_116 : decode cX2_restore 116 = .ok (.getfield 22, 3) := by decide +kernel
theorem dX2_restore_119 : decode cX2_restore 119 = .ok (.iload 4, 2) := by decide +kernel
theorem dX2_restore_121 : decode cX2_restore 121 = .ok (.laload, 1) := by decide +kernel
theorem dX2_restore_122 : decode cX2_restore 122 = .ok (.invokevirtual 67, 3) := by decide +kernel
theorem dX2_restore_125 : decode cX2_restore 125 = .ok (.aload_n 0, 1) := by decide +kernel
theorem dX2_restore_126 : decode cX2_restore 126 = .ok (.iload 4, 2) := by decide +kernel
theorem dX2_restore_128 : decode cX2_restore 128 = .ok (.putfield 31, 3) := by decide +kernel
theorem dX2_restore_131 : decode cX2_restore 131 = .ok (.aload_n 0, 1) := by decide +kernel
theorem dX2_restore_132 : decode cX2_restore 132 = .ok (.aload_n 0, 1) := by decide +kernel
theorem dX2_restore_133 : decode cX2_restore 133 = .ok (.getfield 57, 3) := by decide +kernel
theorem dX2_restore_136 : decode cX2_restore 136 = .ok (.iconst 1, 1) := by decide +kernel
theorem dX2_restore_137 : decode cX2_restore 137 = .ok (.isub, 1) := by decide +kernel
theorem dX2_restore_138 : decode cX2_restore 138 = .ok (.iconst 0, 1) := by decide +kernel
theorem dX2_restore_139 : decode cX2_restore 139 = .ok (.invokestatic 71, 3) := by decide +kernel
theorem dX2_restore_142 : decode cX2_restore 142 = .ok (.putfield 57, 3) := by decide +kernel
theorem dX2_restore_145 : decode cX2_restore 145 = .ok (.return_, 1) := by decide +kernel
theorem dX3_init_0 : decode cX3_init 0 = .ok (.aload_n 0, 1) := by decide +kernel
theorem dX3_init_1 : decode cX3_init 1 = .ok (.invokespecial 3, 3) := by decide +kernel
theorem dX3_init_4 : decode cX3_init 4 = .ok (.aload_n 0, 1) := by decide +kernel
theorem dX3_init_5 : decode cX3_init 5 = .ok (.bipush 42, 2) := by decide +kernel
theorem dX3_init_7 : decode cX3_init 7 = .ok (.newarray .long, 2) := by decide +kernel
theorem dX3_init_9 : decode cX3_init 9 = .ok (.putfield 9, 3) := by decide +kernel
theorem dX3_init_12 : decode cX3_init 12 = .ok (.aload_n 0, 1) := by decide +kernel
theorem dX3_init_13 : decode cX3_init 13 = .ok (.bipush 42, 2) := by decide +kernel
theorem dX3_init_15 : decode cX3_init 15 = .ok (.newarray .long, 2) := by decide +kernel
theorem dX3_init_17 : decode cX3_init 17 = .ok (.putfield 15, 3) := by decide +kernel
theorem dX3_init_20 : decode cX3_init 20 = .ok (.aload_n 0, 1) := by decide +kernel
theorem dX3_init_21 : decode cX3_init 21 = .ok (.new 18, 3) := by decide +kernel
theorem dX3_init_24 : decode cX3_init 24 = .ok (.dup, 1) := by decide +kernel
theorem dX3_init_25 : decode cX3_init 25 = .ok (.aload_n 1, 1) := by decide +kernel
theorem dX3_init_26 : decode cX3_init 26 = .ok (.invokespecial 20, 3) := by decide +kernel
theorem dX3_init_29 : decode cX3_init 29 = .ok (.putfield 23, 3) := by decide +kernel
theorem dX3_init_32 : decode cX3_init 32 = .ok (.return_, 1) := by decide +kernel
theorem dX3_run_0 : decode cX3_run 0 = .ok (.aload_n 0, 1) := by decide +kernel
theorem dX3_run_1 : decode cX3_run 1 = .ok (.iconst 0, 1) := by decide +kernel
theorem dX3_run_2 : decode cX3_run 2 = .ok (.putfield 27, 3) := by decide +kernel
theorem dX3_run_5 : decode cX3_run 5 = .ok (.aload_n 0, 1) := by decide +kernel
theorem dX3_run_6 : decode cX3_run 6 = .ok (.iconst 0, 1) := by decide +kernel
theorem dX3_run_7 : decode cX3_run 7 = .ok (.putfield 31, 3) := by decide +kernel
theorem dX3_run_10 : decode cX3_run 10 = .ok (.aload_n 0, 1) := by decide +kernel
theorem dX3_run_11 : decode cX3_run 11 = .ok (.iconst 0, 1) := by decide +kernel
theorem dX3_run_12 : decode cX3_run 12 = .ok (.putfield 34, 3) := by decide +kernel
theorem dX3_run_15 : decode cX3_run 15 = .ok (.aload_n 0, 1) := by decide +kernel
theorem dX3_run_16 : decode cX3_run 16 = .ok (.lconst 0, 1) := by decide +kernel
theorem dX3_run_17 : decode cX3_run 17 = .ok (.putfield 37, 3) := by decide +kernel
theorem dX3_run_20 : decode cX3_run 20 = .ok (.aload_n 0, 1) := by decide +kernel
theorem dX3_run_21 : decode cX3_run 21 = .ok (.aload_n 1, 1) := by decide +kernel
theorem dX3_run_22 : decode cX3_run 22 = .ok (.getfield 41, 3) := by decide +kernel
theorem dX3_run_25 : decode cX3_run 25 = .ok (.aload_n 1, 1) := by decide +kernel
theorem dX3_run_26 : decode cX3_run 26 = .ok (.getfield 44, 3) := by decide +kernel
theorem dX3_run_29 : decode cX3_run 29 = .ok (.invokevirtual 47, 3) := by decide +kernel
theorem dX3_run_32 : decode cX3_run 32 = .ok (.iconst 0, 1) := by decide +kernel
theorem dX3_run_33 : decode cX3_run 33 = .ok (.istore_n 3, 1) := by decide +kernel
theorem dX3_run_34 : decode cX3_run 34 = .ok (.iload_n 3, 1) := by decide +kernel
theorem dX3_run_35 : decode cX3_run 35 = .ok (.sipush 200, 3) := by decide +kernel
theorem dX3_run_38 : decode cX3_run 38 = .ok (.if_icmp .ge 80, 3) := by decide +kernel
theorem dX3_run_41 : decode cX3_run 41 = .ok (.aload_n 0, 1) := by decide +kernel
theorem dX3_run_42 : decode cX3_run 42 = .ok (.getfield 27, 3) := by decide +kernel
theorem dX3_run_45 : decode cX3_run 45 = .ok (.ifCond .le 73, 3) := by decide +kernel
theorem dX3_run_48 : decode cX3_run 48 = .ok (.aload_n 0, 1) := by decide +kernel
theorem dX3_run_49 : decode cX3_run 49 = .ok (.getfield 31, 3) := by decide +kernel
theorem dX3_run_52 : decode cX3_run 52 = .ok (.iload_n 2, 1) := by decide +kernel
theorem dX3_run_53 : decode cX3_run 53 = .ok (.if_icmp .ge 65, 3) := by decide +kernel
theorem dX3_run_56 : decode cX3_run 56 = .ok (.aload_n 0, 1) := by decide +kernel
theorem dX3_run_57 : decode cX3_run 57 = .ok (.dup, 1) := by decide +kernel
theorem dX3_run_58 : decode cX3_run 58 = .ok (.getfield 34, 3) := by decide +kernel
theorem dX3_run_61 : decode cX3_run 61 = .ok (.iconst 1, 1) := by decide +kernel
theorem dX3_run_62 : decode cX3_run 62 = .ok (.iadd, 1) := by decide +kernel
theorem dX3_run_63 : decode cX3_run 63 = .ok (.putfield 34, 3) := by decide +kernel
theorem dX3_run_66 : decode cX3_run 66 = .ok (.aload_n 0, 1) := by decide +kernel
theorem dX3_run_67 : decode cX3_run 67 = .ok (.dup, 1) := by decide +kernel
theorem dX3_run_68 : decode cX3_run 68 = .ok (.getfield 27, 3) := by decide +kernel
theorem dX3_run_71 : decode cX3_run 71 = .ok (.iconst 1, 1) := by decide +kernel
theorem dX3_run_72 : decode cX3_run 72 = .ok (.isub, 1) := by decide +kernel
theorem dX3_run_73 : decode cX3_run 73 = .ok (.putfield 27, 3) := by decide +kernel
theorem dX3_run_76 : decode cX3_run 76 = .ok (.aload_n 0, 1) := by decide +kernel
theorem dX3_run_77 : decode cX3_run 77 = .ok (.getfield 23, 3) := by decide +kernel
theorem dX3_run_80 : decode cX3_run 80 = .ok (.aload_n 0, 1) := by decide +kernel
theorem dX3_run_81 : decode cX3_run 81 = .ok (.getfield 9, 3) := by decide +kernel
theorem dX3_run_84 : decode cX3_run 84 = .ok (.aload_n 0, 1) := by decide +kernel
theorem dX3_run_85 : decode cX3_run 85 = .ok (.getfield 27, 3) := by decide +kernel
theorem dX3_run_88 : decode cX3_run 88 = .ok (.laload, 1) := by decide +kernel
theorem dX3_run_89 : decode cX3_run 89 = .ok (.aload_n 0, 1) := by decide +kernel
theorem dX3_run_90 : decode cX3_run 90 = .ok (.getfield 15, 3) := by decide +kernel
theorem dX3_run_93 : decode cX3_run 93 = .ok (.aload_n 0, 1) := by decide +kernel
theorem dX3_run_94 : decode cX3_run 94 = .ok (.getfield 27, 3) := by decide +kernel
theorem dX3_run_97 : decode cX3_run 97 = .ok (.laload, 1) := by decide +kernel
theorem dX3_run_98 : decode cX3_run 98 = .ok (.invokevirtual 51, 3) := by decide +kernel
theorem dX3_run_101 : decode cX3_run 101 = .ok (.aload_n 0, 1) := by decide +kernel
theorem dX3_run_102 : decode cX3_run 102 = .ok (.getfield 23, 3) := by decide +kernel
theorem dX3_run_105 : decode cX3_run 105 = .ok (.invokevirtual 54, 3) := by decide +kernel
theorem dX3_run_108 : decode cX3_run 108 = .ok (.aload_n 0, 1) := by decide +kernel
theorem dX3_run_109 : decode cX3_run 109 = .ok (.invokevirtual 57, 3) := by decide +kernel
theorem dX3_run_112 : decode cX3_run 112 = .ok (.iinc 3 1, 3) := by decide +kernel
theorem dX3_run_115 : decode cX3_run 115 = .ok (.goto (-81), 3) := by decide +kernel
theorem dX3_run_118 : decode cX3_run 118 = .ok (.aload_n 0, 1) := by decide +kernel
theorem dX3_run_119 : decode cX3_run 119 = .ok (.aload_n 0, 1) := by decide +kernel
theorem dX3_run_120 : decode cX3_run 120 = .ok (.getfield 27, 3) := by decide +kernel
theorem dX3_run_123 : decode cX3_run 123 = .ok (.ifCond .le 15, 3) := by decide +kernel
theorem dX3_run_126 : decode cX3_run 126 = .ok (.aload_n 0, 1) := by decide +kernel
theorem dX3_run_127 : decode cX3_run 127 = .ok (.getfield 31, 3) := by decide +kernel
theorem dX3_run_130 : decode cX3_run 130 = .ok (.iload_n 2, 1) := by decide +kernel
theorem dX3_run_131 : decode cX3_run 131 = .ok (.if_icmp .ge 7, 3) := by decide +kernel
theorem dX3_run_134 : decode cX3_run 134 = .ok (.iconst 1, 1) := by decide +kernel
theorem dX3_run_135 : decode cX3_run 135 = .ok (.goto 4, 3) := by decide +kernel
theorem dX3_run_138 : decode cX3_run 138 = .ok (.iconst 0, 1) := by decide +kernel
theorem dX3_run_139 : decode cX3_run 139 = .ok (.putfield 60, 3) := by decide +kernel
theorem dX3_run_142 : decode cX3_run 142 = .ok (.return_, 1) := by decide +kernel
theorem dX3_nodesTold_0 : decode cX3_nodesTold 0 = .ok (.aload_n 0, 1) := by decide +kernel
theorem dX3_nodesTold_1 : decode cX3_nodesTold 1 = .ok (.getfield 60, 3) := by decide +kernel
theorem dX3_nodesTold_4 : decode cX3_nodesTold 4 = .ok (.ifCond .eq 9, 3) := by decide +kernel
theorem dX3_nodesTold_7 : decode cX3_nodesTold 7 = .ok (.sipush (-200), 3) := by decide +kernel
theorem dX3_nodesTold_10 : decode cX3_nodesTold 10 = .ok (.goto 7, 3) := by decide +kernel
theorem dX3_nodesTold_13 : decode cX3_nodesTold 13 = .ok (.aload_n 0, 1) := by decide +kernel
theorem dX3_nodesTold_14 : decode cX3_nodesTold 14 = .ok (.getfield 34, 3) := by decide +kernel
theorem dX3_nodesTold_17 : decode cX3_nodesTold 17 = .ok (.ireturn, 1) := by decide +kernel
theorem dX3_goOn_0 : decode cX3_goOn 0 = .ok (.aload_n 0, 1) := by decide +kernel
theorem dX3_goOn_1 : decode cX3_goOn 1 = .ok (.getfield 23, 3) := by decide +kernel
theorem dX3_goOn_4 : decode cX3_goOn 4 = .ok (.invokevirtual 64, 3) := by decide +kernel
theorem dX3_goOn_7 : decode cX3_goOn 7 = .ok (.ifCond .ne 4, 3) := by decide +kernel
theorem dX3_goOn_10 : decode cX3_goOn 10 = .ok (.return_, 1) := by decide +kernel
theorem dX3_goOn_11 : decode cX3_goOn 11 = .ok (.aload_n 0, 1) := by decide +kernel
theorem dX3_goOn_12 : decode cX3_goOn 12 = .ok (.getfield 23, 3) := by decide +kernel
theorem dX3_goOn_15 : decode cX3_goOn 15 = .ok (.invokevirtual 68, 3) := by decide +kernel
theorem dX3_goOn_18 : decode cX3_goOn 18 = .ok (.ifCond .eq 32, 3) := by decide +kernel
theorem dX3_goOn_21 : decode cX3_goOn 21 = .ok (.aload_n 0, 1) := by decide +kernel
theorem dX3_goOn_22 : decode cX3_goOn 22 = .ok (.getfield 31, 3) := by decide +kernel
theorem dX3_goOn_25 : decode cX3_goOn 25 = .ok (.ifCond .ne 14, 3) := by decide +kernel
theorem dX3_goOn_28 : decode cX3_goOn 28 = .ok (.aload_n 0, 1) := by decide +kernel
theorem dX3_goOn_29 : decode cX3_goOn 29 = .ok (.aload_n 0, 1) := by decide +kernel
theorem dX3_goOn_30 : decode cX3_goOn 30 = .ok (.getfield 23, 3) := by decide +kernel
theorem dX3_goOn_33 : decode cX3_goOn 33 = .ok (.getfield 41, 3) := by decide +kernel
theorem dX3_goOn_36 : decode cX3_goOn 36 = .ok (.putfield 37, 3) := by decide +kernel
theorem dX3_goOn_39 : decode cX3_goOn 39 = .ok (.aload_n 0, 1) := by decide +kernel
theorem dX3_goOn_40 : decode cX3_goOn 40 = .ok (.dup, 1) := by decide +kernel
theorem dX3_goOn_41 : decode cX3_goOn 41 = .ok (.getfield 31, 3) := by decide +kernel
theorem dX3_goOn_44 : decode cX3_goOn 44 = .ok (.iconst 1, 1) := by decide +kernel
theorem dX3_goOn_45 : decode cX3_goOn 45 = .ok (.iadd, 1) := by decide +kernel
theorem dX3_goOn_46 : decode cX3_goOn 46 = .ok (.putfield 31, 3) := by decide +kernel
theorem dX3_goOn_49 : decode cX3_goOn 49 = .ok (.return_, 1) := by decide +kernel
theorem dX3_goOn_50 : decode cX3_goOn 50 = .ok (.aload_n 0, 1) := by decide +kernel
theorem dX3_goOn_51 : decode cX3_goOn 51 = .ok (.getfield 23, 3) := by decide +kernel
theorem dX3_goOn_54 : decode cX3_goOn 54 = .ok (.getfield 44, 3) := by decide +kernel
theorem dX3_goOn_57 : decode cX3_goOn 57 = .ok (.aload_n 0, 1) := by decide +kernel
theorem dX3_goOn_58 : decode cX3_goOn 58 = .ok (.getfield 23, 3) := by decide +kernel
theorem dX3_goOn_61 : decode cX3_goOn 61 = .ok (.getfield 44, 3) := by decide +kernel
theorem dX3_goOn_64 : decode cX3_goOn 64 = .ok (.lneg, 1) := by decide +kernel
theorem dX3_goOn_65 : decode cX3_goOn 65 = .ok (.land, 1) := by decide +kernel
theorem dX3_goOn_66 : decode cX3_goOn 66 = .ok (.lstore_n 1, 1) := by decide +kernel
theorem dX3_goOn_67 : decode cX3_goOn 67 = .ok (.lload_n 1, 1) := by decide +kernel
theorem dX3_goOn_68 : decode cX3_goOn 68 = .ok (.lconst 0, 1) := by decide +kernel
theorem dX3_goOn_69 : decode cX3_goOn 69 = .ok (.lcmp, 1) := by decide +kernel
theorem dX3_goOn_70 : decode cX3_goOn 70 = .ok (.ifCond .eq 53, 3) := by decide +kernel
theorem dX3_goOn_73 : decode cX3_goOn 73 = .ok (.aload_n 0, 1) := by decide +kernel
theorem dX3_goOn_74 : decode cX3_goOn 74 = .ok (.aload_n 0, 1) := by decide +kernel
theorem dX3_goOn_75 : decode cX3_goOn 75 = .ok (.getfield 23, 3) := by decide +kernel
theorem dX3_goOn_78 : decode cX3_goOn 78 = .ok (.getfield 41, 3) := by decide +kernel
theorem dX3_goOn_81 : decode cX3_goOn 81 = .ok (.aload_n 0, 1) := by decide +kernel
theorem dX3_goOn_82 : decode cX3_goOn 82 = .ok (.getfield 23, 3) := by decide +kernel
theorem dX3_goOn_85 : decode cX3_goOn 85 = .ok (.getfield 44, 3) := by decide +kernel
theorem dX3_goOn_88 : decode cX3_goOn 88 = .ok (.lload_n 1, 1) := by decide +kernel
theorem dX3_goOn_89 : decode cX3_goOn 89 = .ok (.ldc2_w 71, 3) := by decide +kernel
theorem dX3_goOn_92 : decode cX3_goOn 92 = .ok (.lxor, 1) := by decide +kernel
theorem dX3_goOn_93 : decode cX3_goOn 93 = .ok (.land, 1) := by decide +kernel
theorem dX3_goOn_94 : decode cX3_goOn 94 = .ok (.invokevirtual 47, 3) := by decide +kernel
theorem dX3_goOn_97 : decode cX3_goOn 97 = .ok (.aload_n 0, 1) := by decide +kernel
theorem dX3_goOn_98 : decode cX3_goOn 98 = .ok (.aload_n 0, 1) := by decide +kernel
theorem dX3_goOn_99 : decode cX3_goOn 99 = .ok (.getfield 23, 3) := by decide +kernel
theorem dX3_goOn_102 : decode cX3_goOn 102 = .ok (.getfield 41, 3) := by decide +kernel
theorem dX3_goOn_105 : decode cX3_goOn 105 = .ok (.lload_n 1, 1) := by decide +kernel
theorem dX3_goOn_106 : decode cX3_goOn 106 = .ok (.lor, 1) := by decide +kernel
theorem dX3_goOn_107 : decode cX3_goOn 107 = .ok (.aload_n 0, 1) := by decide +kernel
theorem dX3_goOn_108 : decode cX3_goOn 108 = .ok (.getfield 23, 3) := by decide +kernel
theorem dX3_goOn_111 : decode cX3_goOn 111 = .ok (.getfield 44, 3) := by decide +kernel
theorem dX3_goOn_114 : decode cX3_goOn 114 = .ok (.lload_n 1, 1) := by decide +kernel
theorem dX3_goOn_115 : decode cX3_goOn 115 = .ok (.ldc2_w 71, 3) := by decide +kernel
theorem dX3_goOn_118 : decode cX3_goOn 118 = .ok (.lxor, 1) := by decide +kernel
theorem dX3_goOn_119 : decode cX3_goOn 119 = .ok (.land, 1) := by decide +kernel
theorem dX3_goOn_120 : decode cX3_goOn 120 = .ok (.invokevirtual 47, 3) := by decide +kernel
theorem dX3_goOn_123 : decode cX3_goOn 123 = .ok (.return_, 1) := by decide +kernel
theorem dX3_push_0 : decode cX3_push 0 = .ok (.aload_n 0, 1) := by decide +kernel
theorem dX3_push_1 : decode cX3_push 1 = .ok (.getfield 27, 3) := by decide +kernel
theorem dX3_push_4 : decode cX3_push 4 = .ok (.ifCond .lt 57, 3) := by decide +kernel
theorem dX3_push_7 : decode cX3_push 7 = .ok (.aload_n 0, 1) := by decide +kernel
theorem dX3_push_8 : decode cX3_push 8 = .ok (.getfield 27, 3) := by decide +kernel
theorem dX3_push_11 : decode cX3_push 11 = .ok (.aload_n 0, 1) := by decide +kernel
theorem dX3_push_12 : decode cX3_push 12 = .ok (.getfield 9, 3) := by decide +kernel
theorem dX3_push_15 : decode cX3_push 15 = .ok (.arraylength, 1) := by decide +kernel
theorem dX3_push_16 : decode cX3_push 16 = .ok (.if_icmp .ge 45, 3) := by decide +kernel
theorem dX3_push_19 : decode cX3_push 19 = .ok (.aload_n 0, 1) := by decide +kernel
theorem dX3_push_20 : decode cX3_push 20 = .ok (.getfield 27, 3) := by decide +kernel
theorem dX3_push_23 : decode cX3_push 23 = .ok (.aload_n 0, 1) := by decide +kernel
theorem dX3_push_24 : decode cX3_push 24 = .ok (.getfield 15, 3) := by decide +kernel
theorem dX3_push_27 : decode cX3_push 27 = .ok (.arraylength, 1) := by decide +kernel
theorem dX3_push_28 : decode cX3_push 28 = .ok (.if_icmp .ge 33, 3) := by decide +kernel
theorem dX3_push_31 : decode cX3_push 31 = .ok (.aload_n 0, 1) := by decide +kernel
theorem dX3_push_32 : decode cX3_push 32 = .ok (.getfield 9, 3) := by decide +kernel
theorem dX3_push_35 : decode cX3_push 35 = .ok (.aload_n 0, 1) := by decide +kernel
theorem dX3_push_36 : decode cX3_push 36 = .ok (.getfield 27, 3) := by decide +kernel
theorem dX3_push_39 : decode cX3_push 39 = .ok (.lload_n 1, 1) := by decide +kernel
theorem dX3_push_40 : decode cX3_push 40 = .ok (.lastore, 1) := by decide +kernel
theorem dX3_push_41 : decode cX3_push 41 = .ok (.aload_n 0, 1) := by decide +kernel
theorem dX3_push_42 : decode cX3_push 42 = .ok (.getfield 15, 3) := by decide +kernel
theorem dX3_push_45 : decode cX3_push 45 = .ok (.aload_n 0, 1) := by decide +kernel
theorem dX3_push_46 : decode cX3_push 46 = .ok (.getfield 27, 3) := by decide +kernel
theorem dX3_push_49 : decode cX3_push 49 = .ok (.lload_n 3, 1) := by decide +kernel
theorem dX3_push_50 : decode cX3_push 50 = .ok (.lastore, 1) := by decide +kernel
theorem dX3_push_51 : decode cX3_push 51 = .ok (.aload_n 0, 1) := by decide +kernel
theorem dX3_push_52 : decode cX3_push 52 = .ok (.dup, 1) := by decide +kernel
theorem dX3_push_53 : decode cX3_push 53 = .ok (.getfield 27, 3) := by decide +kernel
theorem dX3_push_56 : decode cX3_push 56 = .ok (.iconst 1, 1) := by decide +kernel
theorem dX3_push_57 : decode cX3_push 57 = .ok (.iadd, 1) := by decide +kernel
theorem dX3_push_58 : decode cX3_push 58 = .ok (.putfield 27, 3) := by decide +kernel
theorem dX3_push_61 : decode cX3_push 61 = .ok (.return_, 1) := by decide +kernel
theorem dX4_init_0 : decode cX4_init 0 = .ok (.aload_n 0, 1) := by decide +kernel
theorem dX4_init_1 : decode cX4_init 1 = .ok (.invokespecial 3, 3) := by decide +kernel
theorem dX4_init_4 : decode cX4_init 4 = .ok (.aload_n 0, 1) := by decide +kernel
theorem dX4_init_5 : decode cX4_init 5 = .ok (.aload_n 1, 1) := by decide +kernel
theorem dX4_init_6 : decode cX4_init 6 = .ok (.putfield 9, 3) := by decide +kernel
theorem dX4_init_9 : decode cX4_init 9 = .ok (.aload_n 0, 1) := by decide +kernel
theorem dX4_init_10 : decode cX4_init 10 = .ok (.new 15, 3) := by decide +kernel
theorem dX4_init_13 : decode cX4_init 13 = .ok (.dup, 1) := by decide +kernel
theorem dX4_init_14 : decode cX4_init 14 = .ok (.aload_n 1, 1) := by decide +kernel
theorem dX4_init_15 : decode cX4_init 15 = .ok (.invokespecial 17, 3) := by decide +kernel
theorem dX4_init_18 : decode cX4_init 18 = .ok (.putfield 20, 3) := by decide +kernel
theorem dX4_init_21 : decode cX4_init 21 = .ok (.aload_n 0, 1) := by decide +kernel
theorem dX4_init_22 : decode cX4_init 22 = .ok (.new 15, 3) := by decide +kernel
theorem dX4_init_25 : decode cX4_init 25 = .ok (.dup, 1) := by decide +kernel
theorem dX4_init_26 : decode cX4_init 26 = .ok (.aload_n 1, 1) := by decide +kernel
theorem dX4_init_27 : decode cX4_init 27 = .ok (.invokespecial 17, 3) := by decide +kernel
theorem dX4_init_30 : decode cX4_init 30 = .ok (.putfield 24, 3) := by decide +kernel
theorem dX4_init_33 : decode cX4_init 33 = .ok (.return_, 1) := by decide +kernel
theorem dX4_findNext_0 : decode cX4_findNext 0 = .ok (.aload_n 1, 1) := by decide +kernel
theorem dX4_findNext_1 : decode cX4_findNext 1 = .ok (.iload_n 2, 1) := by decide +kernel
theorem dX4_findNext_2 : decode cX4_findNext 2 = .ok (.invokevirtual 27, 3) := by decide +kernel
theorem dX4_findNext_5 : decode cX4_findNext 5 = .ok (.ifCond .ne 15, 3) := by decide +kernel
theorem dX4_findNext_8 : decode cX4_findNext 8 = .ok (.iload_n 2, 1) := by decide +kernel
theorem dX4_findNext_9 : decode cX4_findNext 9 = .ok (.iconst 5, 1) := by decide +kernel
theorem dX4_findNext_10 : decode cX4_findNext 10 = .ok (.if_icmp .lt 12, 3) := by decide +kernel
theorem dX4_findNext_13 : decode cX4_findNext 13 = .ok (.aload_n 1, 1) := by decide +kernel
theorem dX4_findNext_14 : decode cX4_findNext 14 = .ok (.invokevirtual 31, 3) := by decide +kernel
theorem dX4_findNext_17 : decode cX4_findNext 17 = .ok (.ifCond .eq 5, 3) := by decide +kernel
theorem dX4_findNext_20 : decode cX4_findNext 20 = .ok (.iconst 1, 1) := by decide +kernel
theorem dX4_findNext_21 : decode cX4_findNext 21 = .ok (.ireturn, 1) := by decide +kernel
theorem dX4_findNext_22 : decode cX4_findNext 22 = .ok (.aload_n 1, 1) := by decide +kernel
theorem dX4_findNext_23 : decode cX4_findNext 23 = .ok (.invokevirtual 35, 3) := by decide +kernel
theorem dX4_findNext_26 : decode cX4_findNext 26 = .ok (.ifCond .eq 10, 3) := by decide +kernel
theorem dX4_findNext_29 : decode cX4_findNext 29 = .ok (.aload_n 1, 1) := by decide +kernel
theorem dX4_findNext_30 : decode cX4_findNext 30 = .ok (.getfield 38, 3) := by decide +kernel
theorem dX4_findNext_33 : decode cX4_findNext 33 = .ok (.ifCond .eq 5, 3) := by decide +kernel
theorem dX4_findNext_36 : decode cX4_findNext 36 = .ok (.iconst 0, 1) := by decide +kernel
theorem dX4_findNext_37 : decode cX4_findNext 37 = .ok (.ireturn, 1) := by decide +kernel
theorem dX4_findNext_38 : decode cX4_findNext 38 = .ok (.bipush 6, 2) := by decide +kernel
theorem dX4_findNext_40 : decode cX4_findNext 40 = .ok (.istore_n 3, 1) := by decide +kernel
theorem dX4_findNext_41 : decode cX4_findNext 41 = .ok (.iload_n 3, 1) := by decide +kernel
theorem dX4_findNext_42 : decode cX4_findNext 42 = .ok (.iload_n 2, 1) := by decide +kernel
theorem dX4_findNext_43 : decode cX4_findNext 43 = .ok (.if_icmp .gt 107, 3) := by decide +kernel
theorem dX4_findNext_46 : decode cX4_findNext 46 = .ok (.iload_n 3, 1) := by decide +kernel
theorem dX4_findNext_47 : decode cX4_findNext 47 = .ok (.bipush 7, 2) := by decide +kernel
theorem dX4_findNext_49 : decode cX4_findNext 49 = .ok (.if_icmp .gt 101, 3) := by decide +kernel
theorem dX4_findNext_52 : decode cX4_findNext 52 = .ok (.iload_n 3, 1) := by decide +kernel
theorem dX4_findNext_53 : decode cX4_findNext 53 = .ok (.bipush 6, 2) := by decide +kernel
theorem dX4_findNext_55 : decode cX4_findNext 55 = .ok (.if_icmp .ne 7, 3) := by decide +kernel
theorem dX4_findNext_58 : decode cX4_findNext 58 = .ok (.iconst 1, 1) := by decide +kernel
theorem dX4_findNext_59 : decode cX4_findNext 59 = .ok (.goto 4, 3) := by decide +kernel
theorem dX4_findNext_62 : decode cX4_findNext 62 = .ok (.iconst 2, 1) := by decide +kernel
theorem dX4_findNext_63 : decode cX4_findNext 63 = .ok (.istore 4, 2) := by decide +kernel
theorem dX4_findNext_65 : decode cX4_findNext 65 = .ok (.iconst 0, 1) := by decide +kernel
theorem dX4_findNext_66 : decode cX4_findNext 66 = .ok (.istore 5, 2) := by decide +kernel
theorem dX4_findNext_68 : decode cX4_findNext 68 = .ok (.iload 5, 2) := by decide +kernel
theorem dX4_findNext_70 : decode cX4_findNext 70 = .ok (.aload_n 0, 1) := by decide +kernel
theorem dX4_findNext_71 : decode cX4_findNext 71 = .ok (.getfield 9, 3) := by decide +kernel
theorem dX4_findNext_74 : decode cX4_findNext 74 = .ok (.getfield 42, 3) := by decide +kernel
theorem dX4_findNext_77 : decode cX4_findNext 77 = .ok (.if_icmp .ge 67, 3) := by decide +kernel
theorem dX4_findNext_80 : decode cX4_findNext 80 = .ok (.aload_n 1, 1) := by decide +kernel
theorem dX4_findNext_81 : decode cX4_findNext 81 = .ok (.iload 5, 2) := by decide +kernel
theorem dX4_findNext_83 : decode cX4_findNext 83 = .ok (.invokevirtual 48, 3) := by decide +kernel
theorem dX4_findNext_86 : decode cX4_findNext 86 = .ok (.ifCond .eq 6, 3) := by decide +kernel
theorem dX4_findNext_89 : decode cX4_findNext 89 = .ok (.goto 49, 3) := by decide +kernel
theorem dX4_findNext_92 : decode cX4_findNext 92 = .ok (.aload_n 0, 1) := by decide +kernel
theorem dX4_findNext_93 : decode cX4_findNext 93 = .ok (.getfield 20, 3) := by decide +kernel
theorem dX4_findNext_96 : decode cX4_findNext 96 = .ok (.aload_n 1, 1) := by decide +kernel
theorem dX4_findNext_97 : decode cX4_findNext 97 = .ok (.invokevirtual 52, 3) := by decide +kernel
theorem dX4_findNext_100 : decode cX4_findNext 100 = .ok (.aload_n 0, 1) := by decide +kernel
theorem dX4_findNext_101 : decode cX4_findNext 101 = .ok (.getfield 20, 3) := by decide +kernel
theorem dX4_findNext_104 : decode cX4_findNext 104 = .ok (.iload 5, 2) := by decide +kernel
theorem dX4_findNext_106 : decode cX4_findNext 106 = .ok (.iload 4, 2) := by decide +kernel
theorem dX4_findNext_108 : decode cX4_findNext 108 = .ok (.invokevirtual 56, 3) := by decide +kernel
theorem dX4_findNext_111 : decode cX4_findNext 111 = .ok (.aload_n 0, 1) := by decide +kernel
theorem dX4_findNext_112 : decode cX4_findNext 112 = .ok (.getfield 20, 3) := by decide +kernel
theorem dX4_findNext_115 : decode cX4_findNext 115 = .ok (.invokevirtual 60, 3) := by decide +kernel
theorem dX4_findNext_118 : decode cX4_findNext 118 = .ok (.aload_n 0, 1) := by decide +kernel
theorem dX4_findNext_119 : decode cX4_findNext 119 = .ok (.getfield 20, 3) := by decide +kernel
theorem dX4_findNext_122 : decode cX4_findNext 122 = .ok (.invokevirtual 35, 3) := by decide +kernel
theorem dX4_findNext_125 : decode cX4_findNext 125 = .ok (.ifCond .ne 13, 3) := by decide +kernel
theorem dX4_findNext_128 : decode cX4_findNext 128 = .ok (.aload_n 1, 1) := by decide +kernel
theorem dX4_findNext_129 : decode cX4_findNext 129 = .ok (.iload_n 3, 1) := by decide +kernel
theorem dX4_findNext_130 : decode cX4_findNext 130 = .ok (.iload 5, 2) := by decide +kernel
theorem dX4_findNext_132 : decode cX4_findNext 132 = .ok (.iconst (-1), 1) := by decide +kernel
theorem dX4_findNext_133 : decode cX4_findNext 133 = .ok (.invokevirtual 63, 3) := by decide +kernel
theorem dX4_findNext_136 : decode cX4_findNext 136 = .ok (.iconst 1, 1) := by decide +kernel
theorem dX4_findNext_137 : decode cX4_findNext 137 = .ok (.ireturn, 1) := by decide +kernel
theorem dX4_findNext_138 : decode cX4_findNext 138 = .ok (.iinc 5 1, 3) := by decide +kernel
theorem dX4_findNext_141 : decode cX4_findNext 141 = .ok (.goto (-73), 3) := by decide +kernel
theorem dX4_findNext_144 : decode cX4_findNext 144 = .ok (.iinc 3 1, 3) := by decide +kernel
theorem dX4_findNext_147 : decode cX4_findNext 147 = .ok (.goto (-106), 3) := by decide +kernel
theorem dX4_findNext_150 : decode cX4_findNext 150 = .ok (.iconst 0, 1) := by decide +kernel
theorem dX4_findNext_151 : decode cX4_findNext 151 = .ok (.ireturn, 1) := by decide +kernel
theorem dX4_greatestGrade_0 : decode cX4_greatestGrade 0 = .ok (.aload_n 0, 1) := by decide +kernel
theorem dX4_greatestGrade_1 : decode cX4_greatestGrade 1 = .ok (.getfield 24, 3) := by decide +kernel
theorem dX4_greatestGrade_4 : decode cX4_greatestGrade 4 = .ok (.lconst 0, 1) := by decide +kernel
theorem dX4_greatestGrade_5 : decode cX4_greatestGrade 5 = .ok (.aload_n 0, 1) := by decide +kernel
theorem dX4_greatestGrade_6 : decode cX4_greatestGrade 6 = .ok (.getfield 9, 3) := by decide +kernel
theorem dX4_greatestGrade_9 : decode cX4_greatestGrade 9 = .ok (.invokevirtual 67, 3) := by decide +kernel
theorem dX4_greatestGrade_12 : decode cX4_greatestGrade 12 = .ok (.invokevirtual 71, 3) := by decide +kernel
theorem dX4_greatestGrade_15 : decode cX4_greatestGrade 15 = .ok (.iconst (-1), 1) := by decide +kernel
theorem dX4_greatestGrade_16 : decode cX4_greatestGrade 16 = .ok (.istore_n 1, 1) := by decide +kernel
theorem dX4_greatestGrade_17 : decode cX4_greatestGrade 17 = .ok (.iconst 0, 1) := by decide +kernel
theorem dX4_greatestGrade_18 : decode cX4_greatestGrade 18 = .ok (.istore_n 2, 1) := by decide +kernel
theorem dX4_greatestGrade_19 : decode cX4_greatestGrade 19 = .ok (.iload_n 2, 1) := by decide +kernel
theorem dX4_greatestGrade_20 : decode cX4_greatestGrade 20 = .ok (.bipush 40, 2) := by decide +kernel
theorem dX4_greatestGrade_22 : decode cX4_greatestGrade 22 = .ok (.if_icmp .ge 44, 3) := by decide +kernel
theorem dX4_greatestGrade_25 : decode cX4_greatestGrade 25 = .ok (.aload_n 0, 1) := by decide +kernel
theorem dX4_greatestGrade_26 : decode cX4_greatestGrade 26 = .ok (.aload_n 0, 1) := by decide +kernel
theorem dX4_greatestGrade_27 : decode cX4_greatestGrade 27 = .ok (.getfield 24, 3) := by decide +kernel
theorem dX4_greatestGrade_30 : decode cX4_greatestGrade 30 = .ok (.bipush 7, 2) := by decide +kernel
theorem dX4_greatestGrade_32 : decode cX4_greatestGrade 32 = .ok (.invokevirtual 75, 3) := by decide +kernel
theorem dX4_greatestGrade_35 : decode cX4_greatestGrade 35 = .ok (.ifCond .eq 31, 3) := by decide +kernel
theorem dX4_greatestGrade_38 : decode cX4_greatestGrade 38 = .ok (.iload_n 1, 1) := by decide +kernel
theorem dX4_greatestGrade_39 : decode cX4_greatestGrade 39 = .ok (.aload_n 0, 1) := by decide +kernel
theorem dX4_greatestGrade_40 : decode cX4_greatestGrade 40 = .ok (.getfield 24, 3) := by decide +kernel
theorem dX4_greatestGrade_43 : decode cX4_greatestGrade 43 = .ok (.getfield 79, 3) := by decide +kernel
theorem dX4_greatestGrade_46 : decode cX4_greatestGrade 46 = .ok (.invokestatic 82, 3) := by decide +kernel
theorem dX4_greatestGrade_49 : decode cX4_greatestGrade 49 = .ok (.invokestatic 85, 3) := by decide +kernel
theorem dX4_greatestGrade_52 : decode cX4_greatestGrade 52 = .ok (.istore_n 1, 1) := by decide +kernel
theorem dX4_greatestGrade_53 : decode cX4_greatestGrade 53 = .ok (.aload_n 0, 1) := by decide +kernel
theorem dX4_greatestGrade_54 : decode cX4_greatestGrade 54 = .ok (.getfield 24, 3) := by decide +kernel
theorem dX4_greatestGrade_57 : decode cX4_greatestGrade 57 = .ok (.invokevirtual 91, 3) := by decide +kernel
theorem dX4_greatestGrade_60 : decode cX4_greatestGrade 60 = .ok (.iinc 2 1, 3) := by decide +kernel
theorem dX4_greatestGrade_63 : decode cX4_greatestGrade 63 = .ok (.goto (-44), 3) := by decide +kernel
theorem dX4_greatestGrade_66 : decode cX4_greatestGrade 66 = .ok (.aload_n 0, 1) := by decide +kernel
theorem dX4_greatestGrade_67 : decode cX4_greatestGrade 67 = .ok (.getfield 24, 3) := by decide +kernel
theorem dX4_greatestGrade_70 : decode cX4_greatestGrade 70 = .ok (.invokevirtual 94, 3) := by decide +kernel
theorem dX4_greatestGrade_73 : decode cX4_greatestGrade 73 = .ok (.ifCond .eq 7, 3) := by decide +kernel
theorem dX4_greatestGrade_76 : decode cX4_greatestGrade 76 = .ok (.iload_n 1, 1) := by decide +kernel
theorem dX4_greatestGrade_77 : decode cX4_greatestGrade 77 = .ok (.goto 4, 3) := by decide +kernel
theorem dX4_greatestGrade_80 : decode cX4_greatestGrade 80 = .ok (.iconst (-1), 1) := by decide +kernel
theorem dX4_greatestGrade_81 : decode cX4_greatestGrade 81 = .ok (.ireturn, 1) := by decide +kernel
theorem dX5_init_0 : decode cX5_init 0 = .ok (.aload_n 0, 1) := by decide +kernel
theorem dX5_init_1 : decode cX5_init 1 = .ok (.invokespecial 3, 3) := by decide +kernel
theorem dX5_init_4 : decode cX5_init 4 = .ok (.aload_n 0, 1) := by decide +kernel
theorem dX5_init_5 : decode cX5_init 5 = .ok (.bipush 40, 2) := by decide +kernel
theorem dX5_init_7 : decode cX5_init 7 = .ok (.newarray .byte, 2) := by decide +kernel
theorem dX5_init_9 : decode cX5_init 9 = .ok (.putfield 9, 3) := by decide +kernel
theorem dX5_init_12 : decode cX5_init 12 = .ok (.aload_n 0, 1) := by decide +kernel
theorem dX5_init_13 : decode cX5_init 13 = .ok (.bipush 16, 2) := by decide +kernel
theorem dX5_init_15 : decode cX5_init 15 = .ok (.newarray .int, 2) := by decide +kernel
theorem dX5_init_17 : decode cX5_init 17 = .ok (.putfield 15, 3) := by decide +kernel
theorem dX5_init_20 : decode cX5_init 20 = .ok (.return_, 1) := by decide +kernel
theorem dX5_append_0 : decode cX5_append 0 = .ok (.aload_n 0, 1) := by decide +kernel
theorem dX5_append_1 : decode cX5_append 1 = .ok (.getfield 19, 3) := by decide +kernel
theorem dX5_append_4 : decode cX5_append 4 = .ok (.ifCond .lt 12, 3) := by decide +kernel
theorem dX5_append_7 : decode cX5_append 7 = .ok (.aload_n 0, 1) := by decide +kernel
theorem dX5_append_8 : decode cX5_append 8 = .ok (.getfield 19, 3) := by decide +kernel
theorem dX5_append_11 : decode cX5_append 11 = .ok (.bipush 40, 2) := by decide +kernel
theorem dX5_append_13 : decode cX5_append 13 = .ok (.if_icmp .lt 6, 3) := by decide +kernel
theorem dX5_append_16 : decode cX5_append 16 = .ok (.bipush (-4), 2) := by decide +kernel
theorem dX5_append_18 : decode cX5_append 18 = .ok (.ireturn, 1) := by decide +kernel
theorem dX5_append_19 : decode cX5_append 19 = .ok (.aload_n 0, 1) := by decide +kernel
theorem dX5_append_20 : decode cX5_append 20 = .ok (.getfield 9, 3) := by decide +kernel
theorem dX5_append_23 : decode cX5_append 23 = .ok (.aload_n 0, 1) := by decide +kernel
theorem dX5_append_24 : decode cX5_append 24 = .ok (.getfield 19, 3) := by decide +kernel
theorem dX5_append_27 : decode cX5_append 27 = .ok (.iload_n 1, 1) := by decide +kernel
theorem dX5_append_28 : decode cX5_append 28 = .ok (.i2b, 1) := by decide +kernel
theorem dX5_append_29 : decode cX5_append 29 = .ok (.bastore, 1) := by decide +kernel
theorem dX5_append_30 : decode cX5_append 30 = .ok (.aload_n 0, 1) := by decide +kernel
theorem dX5_append_31 : decode cX5_append 31 = .ok (.dup, 1) := by decide +kernel
theorem dX5_append_32 : decode cX5_append 32 = .ok (.getfield 19, 3) := by decide +kernel
theorem dX5_append_35 : decode cX5_append 35 = .ok (.iconst 1, 1) := by decide +kernel
theorem dX5_append_36 : decode cX5_append 36 = .ok (.iadd, 1) := by decide +kernel
theorem dX5_append_37 : decode cX5_append 37 = .ok (.putfield 19, 3) := by decide +kernel
theorem dX5_append_40 : decode cX5_append 40 = .ok (.aload_n 0, 1) := by decide +kernel
theorem dX5_append_41 : decode cX5_append 41 = .ok (.getfield 19, 3) := by decide +kernel
theorem dX5_append_44 : decode cX5_append 44 = .ok (.ireturn, 1) := by decide +kernel
theorem dX5_read_0 : decode cX5_read 0 = .ok (.aload_n 0, 1) := by decide +kernel
theorem dX5_read_1 : decode cX5_read 1 = .ok (.iconst 4, 1) := by decide +kernel
theorem dX5_read_2 : decode cX5_read 2 = .ok (.putfield 23, 3) := by decide +kernel
theorem dX5_read_5 : decode cX5_read 5 = .ok (.aload_n 0, 1) := by decide +kernel
theorem dX5_read_6 : decode cX5_read 6 = .ok (.iconst 1, 1) := by decide +kernel
theorem dX5_read_7 : decode cX5_read 7 = .ok (.putfield 26, 3) := by decide +kernel
theorem dX5_read_10 : decode cX5_read 10 = .ok (.iconst 0, 1) := by decide +kernel
theorem dX5_read_11 : decode cX5_read 11 = .ok (.istore_n 1, 1) := by decide +kernel
theorem dX5_read_12 : decode cX5_read 12 = .ok (.iconst 0, 1) := by decide +kernel
theorem dX5_read_13 : decode cX5_read 13 = .ok (.istore_n 2, 1) := by decide +kernel
theorem dX5_read_14 : decode cX5_read 14 = .ok (.iconst 0, 1) := by decide +kernel
theorem dX5_read_15 : decode cX5_read 15 = .ok (.istore_n 3, 1) := by decide +kernel
theorem dX5_read_16 : decode cX5_read 16 = .ok (.iload_n 3, 1) := by decide +kernel
theorem dX5_read_17 : decode cX5_read 17 = .ok (.aload_n 0, 1) := by decide +kernel
theorem dX5_read_18 : decode cX5_read 18 = .ok (.getfield 19, 3) := by decide +kernel
theorem dX5_read_21 : decode cX5_read 21 = .ok (.if_icmp .ge 130, 3) := by decide +kernel
theorem dX5_read_24 : decode cX5_read 24 = .ok (.iload_n 3, 1) := by decide +kernel
theorem dX5_read_25 : decode cX5_read 25 = .ok (.bipush 40, 2) := by decide +kernel
theorem dX5_read_27 : decode cX5_read 27 = .ok (.if_icmp .ge 124, 3) := by decide +kernel
theorem dX5_read_30 : decode cX5_read 30 = .ok (.aload_n 0, 1) := by decide +kernel
theorem dX5_read_31 : decode cX5_read 31 = .ok (.getfield 9, 3) := by decide +kernel
theorem dX5_read_34 : decode cX5_read 34 = .ok (.iload_n 3, 1) := by decide +kernel
theorem dX5_read_35 : decode cX5_read 35 = .ok (.baload, 1) := by decide +kernel
theorem dX5_read_36 : decode cX5_read 36 = .ok (.istore 4, 2) := by decide +kernel
theorem dX5_read_38 : decode cX5_read 38 = .ok (.iload 4, 2) := by decide +kernel
theorem dX5_read_40 : decode cX5_read 40 = .ok (.bipush 32, 2) := by decide +kernel
theorem dX5_read_42 : decode cX5_read 42 = .ok (.if_icmp .ne 6, 3) := by decide +kernel
theorem dX5_read_45 : decode cX5_read 45 = .ok (.goto 100, 3) := by decide +kernel
theorem dX5_read_48 : decode cX5_read 48 = .ok (.iload 4, 2) := by decide +kernel
theorem dX5_read_50 : decode cX5_read 50 = .ok (.bipush 47, 2) := by decide +kernel
theorem dX5_read_52 : decode cX5_read 52 = .ok (.if_icmp .ne 41, 3) := by decide +kernel
theorem dX5_read_55 : decode cX5_read 55 = .ok (.aload_n 0, 1) := by decide +kernel
theorem dX5_read_56 : decode cX5_read 56 = .ok (.iload_n 1, 1) := by decide +kernel
theorem dX5_read_57 : decode cX5_read 57 = .ok (.invokevirtual 29, 3) := by decide +kernel
theorem dX5_read_60 : decode cX5_read 60 = .ok (.ifCond .eq 11, 3) := by decide +kernel
theorem dX5_read_63 : decode cX5_read 63 = .ok (.aload_n 0, 1) := by decide +kernel
theorem dX5_read_64 : decode cX5_read 64 = .ok (.getfield 26, 3) := by decide +kernel
theorem dX5_read_67 : decode cX5_read 67 = .ok (.iconst 4, 1) := by decide +kernel
theorem dX5_read_68 : decode cX5_read 68 = .ok (.if_icmp .ne 5, 3) := by decide +kernel
theorem dX5_read_71 : decode cX5_read 71 = .ok (.iload_n 3, 1) := by decide +kernel
theorem dX5_read_72 : decode cX5_read 72 = .ok (.ireturn, 1) := by decide +kernel
theorem dX5_read_73 : decode cX5_read 73 = .ok (.aload_n 0, 1) := by decide +kernel
theorem dX5_read_74 : decode cX5_read 74 = .ok (.iload_n 1, 1) := by decide +kernel
theorem dX5_read_75 : decode cX5_read 75 = .ok (.putfield 23, 3) := by decide +kernel
theorem dX5_read_78 : decode cX5_read 78 = .ok (.aload_n 0, 1) := by decide +kernel
theorem dX5_read_79 : decode cX5_read 79 = .ok (.dup, 1) := by decide +kernel
theorem dX5_read_80 : decode cX5_read 80 = .ok (.getfield 26, 3) := by decide +kernel
theorem dX5_read_83 : decode cX5_read 83 = .ok (.iconst 1, 1) := by decide +kernel
theorem dX5_read_84 : decode cX5_read 84 = .ok (.iadd, 1) := by decide +kernel
theorem dX5_read_85 : decode cX5_read 85 = .ok (.putfield 26, 3) := by decide +kernel
theorem dX5_read_88 : decode cX5_read 88 = .ok (.iconst 0, 1) := by decide +kernel
theorem dX5_read_89 : decode cX5_read 89 = .ok (.istore_n 1, 1) := by decide +kernel
theorem dX5_read_90 : decode cX5_read 90 = .ok (.goto 55, 3) := by decide +kernel
theorem dX5_read_93 : decode cX5_read 93 = .ok (.iload 4, 2) := by decide +kernel
theorem dX5_read_95 : decode cX5_read 95 = .ok (.invokestatic 33, 3) := by decide +kernel
theorem dX5_read_98 : decode cX5_read 98 = .ok (.ifCond .eq 17, 3) := by decide +kernel
theorem dX5_read_101 : decode cX5_read 101 = .ok (.iload_n 1, 1) := by decide +kernel
theorem dX5_read_102 : decode cX5_read 102 = .ok (.aload_n 0, 1) := by decide +kernel
theorem dX5_read_103 : decode cX5_read 103 = .ok (.getfield 23, 3) := by decide +kernel
theorem dX5_read_106 : decode cX5_read 106 = .ok (.if_icmp .ge 9, 3) := by decide +kernel
theorem dX5_read_109 : decode cX5_read 109 = .ok (.iload_n 2, 1) := by decide +kernel
theorem dX5_read_110 : decode cX5_read 110 = .ok (.bipush 16, 2) := by decide +kernel
theorem dX5_read_112 : decode cX5_read 112 = .ok (.if_icmp .lt 5, 3) := by decide +kernel
theorem dX5_read_115 : decode cX5_read 115 = .ok (.iload_n 3, 1) := by decide +kernel
theorem dX5_read_116 : decode cX5_read 116 = .ok (.ireturn, 1) := by decide +kernel
theorem dX5_read_117 : decode cX5_read 117 = .ok (.aload_n 0, 1) := by decide +kernel
theorem dX5_read_118 : decode cX5_read 118 = .ok (.getfield 15, 3) := by decide +kernel
theorem dX5_read_121 : decode cX5_read 121 = .ok (.iload_n 2, 1) := by decide +kernel
theorem dX5_read_122 : decode cX5_read 122 = .ok (.iload 4, 2) := by decide +kernel
theorem dX5_read_124 : decode cX5_read 124 = .ok (.bipush 46, 2) := by decide +kernel
theorem dX5_read_126 : decode cX5_read 126 = .ok (.if_icmp .ne 7, 3) := by decide +kernel
theorem dX5_read_129 : decode cX5_read 129 = .ok (.iconst (-1), 1) := by decide +kernel
theorem dX5_read_130 : decode cX5_read 130 = .ok (.goto 8, 3) := by decide +kernel
theorem dX5_read_133 : decode cX5_read 133 = .ok (.iload 4, 2) := by decide +kernel
theorem dX5_read_135 : decode cX5_read 135 = .ok (.bipush 48, 2) := by decide +kernel
theorem dX5_read_137 : decode cX5_read 137 = .ok (.isub, 1) := by decide +kernel
theorem dX5_read_138 : decode cX5_read 138 = .ok (.iastore, 1) := by decide +kernel
theorem dX5_read_139 : decode cX5_read 139 = .ok (.iinc 2 1, 3) := by decide +kernel
theorem dX5_read_142 : decode cX5_read 142 = .ok (.iinc 1 1, 3) := by decide +kernel
theorem dX5_read_145 : decode cX5_read 145 = .ok (.iinc 3 1, 3) := by decide +kernel
theorem dX5_read_148 : decode cX5_read 148 = .ok (.goto (-132), 3) := by decide +kernel
theorem dX5_read_151 : decode cX5_read 151 = .ok (.aload_n 0, 1) := by decide +kernel
theorem dX5_read_152 : decode cX5_read 152 = .ok (.iload_n 1, 1) := by decide +kernel
theorem dX5_read_153 : decode cX5_read 153 = .ok (.invokevirtual 29, 3) := by decide +kernel
theorem dX5_read_156 : decode cX5_read 156 = .ok (.ifCond .ne 8, 3) := by decide +kernel
theorem dX5_read_159 : decode cX5_read 159 = .ok (.aload_n 0, 1) := by decide +kernel
theorem dX5_read_160 : decode cX5_read 160 = .ok (.getfield 19, 3) := by decide +kernel
theorem dX5_read_163 : decode cX5_read 163 = .ok (.ireturn, 1) := by decide +kernel
theorem dX5_read_164 : decode cX5_read 164 = .ok (.aload_n 0, 1) := by decide +kernel
theorem dX5_read_165 : decode cX5_read 165 = .ok (.iload_n 1, 1) := by decide +kernel
theorem dX5_read_166 : decode cX5_read 166 = .ok (.putfield 23, 3) := by decide +kernel
theorem dX5_read_169 : decode cX5_read 169 = .ok (.iconst (-1), 1) := by decide +kernel
theorem dX5_read_170 : decode cX5_read 170 = .ok (.ireturn, 1) := by decide +kernel
theorem dX5_endsRow_0 : decode cX5_endsRow 0 = .ok (.aload_n 0, 1) := by decide +kernel
theorem dX5_endsRow_1 : decode cX5_endsRow 1 = .ok (.getfield 26, 3) := by decide +kernel
theorem dX5_endsRow_4 : decode cX5_endsRow 4 = .ok (.iconst 1, 1) := by decide +kernel
theorem dX5_endsRow_5 : decode cX5_endsRow 5 = .ok (.if_icmp .ne 15, 3) := by decide +kernel
theorem dX5_endsRow_8 : decode cX5_endsRow 8 = .ok (.iload_n 1, 1) := by decide +kernel
theorem dX5_endsRow_9 : decode cX5_endsRow 9 = .ok (.ifCond .le 7, 3) := by decide +kernel
theorem dX5_endsRow_12 : decode cX5_endsRow 12 = .ok (.iconst 1, 1) := by decide +kernel
theorem dX5_endsRow_13 : decode cX5_endsRow 13 = .ok (.goto 20, 3) := by decide +kernel
theorem dX5_endsRow_16 : decode cX5_endsRow 16 = .ok (.iconst 0, 1) := by decide +kernel
theorem dX5_endsRow_17 : decode cX5_endsRow 17 = .ok (.goto 16, 3) := by decide +kernel
theorem dX5_endsRow_20 : decode cX5_endsRow 20 = .ok (.iload_n 1, 1) := by decide +kernel
theorem dX5_endsRow_21 : decode cX5_endsRow 21 = .ok (.aload_n 0, 1) := by decide +kernel
theorem dX5_endsRow_22 : decode cX5_endsRow 22 = .ok (.getfield 23, 3) := by decide +kernel
theorem dX5_endsRow_25 : decode cX5_endsRow 25 = .ok (.if_icmp .ne 7, 3) := by decide +kernel
theorem dX5_endsRow_28 : decode cX5_endsRow 28 = .ok (.iconst 1, 1) := by decide +kernel
theorem dX5_endsRow_29 : decode cX5_endsRow 29 = .ok (.goto 4, 3) := by decide +kernel
theorem dX5_endsRow_32 : decode cX5_endsRow 32 = .ok (.iconst 0, 1) := by decide +kernel
theorem dX5_endsRow_33 : decode cX5_endsRow 33 = .ok (.ireturn, 1) := by decide +kernel
theorem dX5_isCell_0 : decode cX5_isCell 0 = .ok (.iload_n 0, 1) := by decide +kernel
theorem dX5_isCell_1 : decode cX5_isCell 1 = .ok (.bipush 46, 2) := by decide +kernel
theorem dX5_isCell_3 : decode cX5_isCell 3 = .ok (.if_icmp .eq 15, 3) := by decide +kernel
theorem dX5_isCell_6 : decode cX5_isCell 6 = .ok (.iload_n 0, 1) := by decide +kernel
theorem dX5_isCell_7 : decode cX5_isCell 7 = .ok (.bipush 48, 2) := by decide +kernel
theorem dX5_isCell_9 : decode cX5_isCell 9 = .ok (.if_icmp .lt 13, 3) := by decide +kernel
theorem dX5_isCell_12 : decode cX5_isCell 12 = .ok (.iload_n 0, 1) := by decide +kernel
theorem dX5_isCell_13 : decode cX5_isCell 13 = .ok (.bipush 51, 2) := by decide +kernel
theorem dX5_isCell_15 : decode cX5_isCell 15 = .ok (.if_icmp .gt 7, 3) := by decide +kernel
theorem dX5_isCell_18 : decode cX5_isCell 18 = .ok (.iconst 1, 1) := by decide +kernel
theorem dX5_isCell_19 : decode cX5_isCell 19 = .ok (.goto 4, 3) := by decide +kernel
theorem dX5_isCell_22 : decode cX5_isCell 22 = .ok (.iconst 0, 1) := by decide +kernel
theorem dX5_isCell_23 : decode cX5_isCell 23 = .ok (.ireturn, 1) := by decide +kernel
theorem dX6_init_0 : decode cX6_init 0 = .ok (.aload_n 0, 1) := by decide +kernel
theorem dX6_init_1 : decode cX6_init 1 = .ok (.invokespecial 1, 3) := by decide +kernel
theorem dX6_init_4 : decode cX6_init 4 = .ok (.new 7, 3) := by decide +kernel
end
section
theorem dX6_init_7 : decode cX6_init 7 = .ok (.dup, 1) := by decide +kernel
theorem dX6_init_8 : decode cX6_init 8 = .ok (.invokespecial 9, 3) := by decide +kernel
theorem dX6_init_11 : decode cX6_init 11 = .ok (.astore_n 1, 1) := by decide +kernel
theorem dX6_init_12 : decode cX6_init 12 = .ok (.aload_n 1, 1) := by decide +kernel
theorem dX6_init_13 : decode cX6_init 13 = .ok (.iconst 3, 1) := by decide +kernel
theorem dX6_init_14 : decode cX6_init 14 = .ok (.iconst 3, 1) := by decide +kernel
theorem dX6_init_15 : decode cX6_init 15 = .ok (.invokevirtual 10, 3) := by decide +kernel
theorem dX6_init_18 : decode cX6_init 18 = .ok (.new 14, 3) := by decide +kernel
theorem dX6_init_21 : decode cX6_init 21 = .ok (.dup, 1) := by decide +kernel
theorem dX6_init_22 : decode cX6_init 22 = .ok (.aload_n 1, 1) := by decide +kernel
theorem dX6_init_23 : decode cX6_init 23 = .ok (.invokespecial 16, 3) := by decide +kernel
theorem dX6_init_26 : decode cX6_init 26 = .ok (.astore_n 2, 1) := by decide +kernel
theorem dX6_init_27 : decode cX6_init 27 = .ok (.aload_n 2, 1) := by decide +kernel
theorem dX6_init_28 : decode cX6_init 28 = .ok (.lconst 0, 1) := by decide +kernel
theorem dX6_init_29 : decode cX6_init 29 = .ok (.aload_n 1, 1) := by decide +kernel
theorem dX6_init_30 : decode cX6_init 30 = .ok (.invokevirtual 19, 3) := by decide +kernel
theorem dX6_init_33 : decode cX6_init 33 = .ok (.invokevirtual 23, 3) := by decide +kernel
theorem dX6_init_36 : decode cX6_init 36 = .ok (.aload_n 0, 1) := by decide +kernel
theorem dX6_init_37 : decode cX6_init 37 = .ok (.aload_n 1, 1) := by decide +kernel
theorem dX6_init_38 : decode cX6_init 38 = .ok (.putfield 27, 3) := by decide +kernel
theorem dX6_init_41 : decode cX6_init 41 = .ok (.aload_n 0, 1) := by decide +kernel
theorem dX6_init_42 : decode cX6_init 42 = .ok (.aload_n 2, 1) := by decide +kernel
theorem dX6_init_43 : decode cX6_init 43 = .ok (.putfield 33, 3) := by decide +kernel
theorem dX6_init_46 : decode cX6_init 46 = .ok (.aload_n 0, 1) := by decide +kernel
theorem dX6_init_47 : decode cX6_init 47 = .ok (.new 37, 3) := by decide +kernel
theorem dX6_init_50 : decode cX6_init 50 = .ok (.dup, 1) := by decide +kernel
theorem dX6_init_51 : decode cX6_init 51 = .ok (.aload_n 1, 1) := by decide +kernel
theorem dX6_init_52 : decode cX6_init 52 = .ok (.invokespecial 39, 3) := by decide +kernel
theorem dX6_init_55 : decode cX6_init 55 = .ok (.putfield 40, 3) := by decide +kernel
theorem dX6_init_58 : decode cX6_init 58 = .ok (.aload_n 0, 1) := by decide +kernel
theorem dX6_init_59 : decode cX6_init 59 = .ok (.new 44, 3) := by decide +kernel
theorem dX6_init_62 : decode cX6_init 62 = .ok (.dup, 1) := by decide +kernel
theorem dX6_init_63 : decode cX6_init 63 = .ok (.aload_n 1, 1) := by decide +kernel
theorem dX6_init_64 : decode cX6_init 64 = .ok (.invokespecial 46, 3) := by decide +kernel
theorem dX6_init_67 : decode cX6_init 67 = .ok (.putfield 47, 3) := by decide +kernel
theorem dX6_init_70 : decode cX6_init 70 = .ok (.aload_n 0, 1) := by decide +kernel
theorem dX6_init_71 : decode cX6_init 71 = .ok (.new 51, 3) := by decide +kernel
theorem dX6_init_74 : decode cX6_init 74 = .ok (.dup, 1) := by decide +kernel
theorem dX6_init_75 : decode cX6_init 75 = .ok (.invokespecial 53, 3) := by decide +kernel
theorem dX6_init_78 : decode cX6_init 78 = .ok (.putfield 54, 3) := by decide +kernel
theorem dX6_init_81 : decode cX6_init 81 = .ok (.aload_n 0, 1) := by decide +kernel
theorem dX6_init_82 : decode cX6_init 82 = .ok (.new 58, 3) := by decide +kernel
theorem dX6_init_85 : decode cX6_init 85 = .ok (.dup, 1) := by decide +kernel
theorem dX6_init_86 : decode cX6_init 86 = .ok (.invokespecial 60, 3) := by decide +kernel
theorem dX6_init_89 : decode cX6_init 89 = .ok (.putfield 61, 3) := by decide +kernel
theorem dX6_init_92 : decode cX6_init 92 = .ok (.aload_n 0, 1) := by decide +kernel
theorem dX6_init_93 : decode cX6_init 93 = .ok (.bipush 8, 2) := by decide +kernel
theorem dX6_init_95 : decode cX6_init 95 = .ok (.newarray .int, 2) := by decide +kernel
theorem dX6_init_97 : decode cX6_init 97 = .ok (.putfield 65, 3) := by decide +kernel
theorem dX6_init_100 : decode cX6_init 100 = .ok (.return_, 1) := by decide +kernel
theorem dX6_type_0 : decode cX6_type 0 = .ok (.iload_n 1, 1) := by decide +kernel
theorem dX6_type_1 : decode cX6_type 1 = .ok (.ifCond .lt 9, 3) := by decide +kernel
theorem dX6_type_4 : decode cX6_type 4 = .ok (.iload_n 1, 1) := by decide +kernel
theorem dX6_type_5 : decode cX6_type 5 = .ok (.bipush 127, 2) := by decide +kernel
theorem dX6_type_7 : decode cX6_type 7 = .ok (.if_icmp .le 6, 3) := by decide +kernel
theorem dX6_type_10 : decode cX6_type 10 = .ok (.bipush (-2), 2) := by decide +kernel
theorem dX6_type_12 : decode cX6_type 12 = .ok (.ireturn, 1) := by decide +kernel
theorem dX6_type_13 : decode cX6_type 13 = .ok (.aload_n 0, 1) := by decide +kernel
theorem dX6_type_14 : decode cX6_type 14 = .ok (.getfield 61, 3) := by decide +kernel
theorem dX6_type_17 : decode cX6_type 17 = .ok (.iload_n 1, 1) := by decide +kernel
theorem dX6_type_18 : decode cX6_type 18 = .ok (.invokevirtual 69, 3) := by decide +kernel
theorem dX6_type_21 : decode cX6_type 21 = .ok (.ireturn, 1) := by decide +kernel
theorem dX6_clearText_0 : decode cX6_clearText 0 = .ok (.aload_n 0, 1) := by decide +kernel
theorem dX6_clearText_1 : decode cX6_clearText 1 = .ok (.getfield 61, 3) := by decide +kernel
theorem dX6_clearText_4 : decode cX6_clearText 4 = .ok (.getfield 73, 3) := by decide +kernel
theorem dX6_clearText_7 : decode cX6_clearText 7 = .ok (.istore_n 1, 1) := by decide +kernel
theorem dX6_clearText_8 : decode cX6_clearText 8 = .ok (.aload_n 0, 1) := by decide +kernel
theorem dX6_clearText_9 : decode cX6_clearText 9 = .ok (.getfield 61, 3) := by decide +kernel
theorem dX6_clearText_12 : decode cX6_clearText 12 = .ok (.iconst 0, 1) := by decide +kernel
theorem dX6_clearText_13 : decode cX6_clearText 13 = .ok (.putfield 73, 3) := by decide +kernel
theorem dX6_clearText_16 : decode cX6_clearText 16 = .ok (.iload_n 1, 1) := by decide +kernel
theorem dX6_clearText_17 : decode cX6_clearText 17 = .ok (.ireturn, 1) := by decide +kernel
theorem dX6_fault_0 : decode cX6_fault 0 = .ok (.aload_n 0, 1) := by decide +kernel
theorem dX6_fault_1 : decode cX6_fault 1 = .ok (.getfield 61, 3) := by decide +kernel
theorem dX6_fault_4 : decode cX6_fault 4 = .ok (.invokevirtual 77, 3) := by decide +kernel
theorem dX6_fault_7 : decode cX6_fault 7 = .ok (.ireturn, 1) := by decide +kernel
theorem dX6_setPuzzle_0 : decode cX6_setPuzzle 0 = .ok (.aload_n 0, 1) := by decide +kernel
theorem dX6_setPuzzle_1 : decode cX6_setPuzzle 1 = .ok (.getfield 61, 3) := by decide +kernel
theorem dX6_setPuzzle_4 : decode cX6_setPuzzle 4 = .ok (.invokevirtual 77, 3) := by decide +kernel
theorem dX6_setPuzzle_7 : decode cX6_setPuzzle 7 = .ok (.iconst (-1), 1) := by decide +kernel
theorem dX6_setPuzzle_8 : decode cX6_setPuzzle 8 = .ok (.if_icmp .eq 6, 3) := by decide +kernel
theorem dX6_setPuzzle_11 : decode cX6_setPuzzle 11 = .ok (.bipush (-3), 2) := by decide +kernel
theorem dX6_setPuzzle_13 : decode cX6_setPuzzle 13 = .ok (.ireturn, 1) := by decide +kernel
theorem dX6_setPuzzle_14 : decode cX6_setPuzzle 14 = .ok (.aload_n 0, 1) := by decide +kernel
theorem dX6_setPuzzle_15 : decode cX6_setPuzzle 15 = .ok (.getfield 54, 3) := by decide +kernel
theorem dX6_setPuzzle_18 : decode cX6_setPuzzle 18 = .ok (.aload_n 0, 1) := by decide +kernel
theorem dX6_setPuzzle_19 : decode cX6_setPuzzle 19 = .ok (.getfield 27, 3) := by decide +kernel
theorem dX6_setPuzzle_22 : decode cX6_setPuzzle 22 = .ok (.aload_n 0, 1) := by decide +kernel
theorem dX6_setPuzzle_23 : decode cX6_setPuzzle 23 = .ok (.getfield 33, 3) := by decide +kernel
theorem dX6_setPuzzle_26 : decode cX6_setPuzzle 26 = .ok (.aload_n 0, 1) := by decide +kernel
theorem dX6_setPuzzle_27 : decode cX6_setPuzzle 27 = .ok (.getfield 65, 3) := by decide +kernel
theorem dX6_setPuzzle_30 : decode cX6_setPuzzle 30 = .ok (.invokevirtual 81, 3) := by decide +kernel
theorem dX6_setPuzzle_33 : decode cX6_setPuzzle 33 = .ok (.aload_n 0, 1) := by decide +kernel
theorem dX6_setPuzzle_34 : decode cX6_setPuzzle 34 = .ok (.getfield 27, 3) := by decide +kernel
theorem dX6_setPuzzle_37 : decode cX6_setPuzzle 37 = .ok (.aload_n 0, 1) := by decide +kernel
theorem dX6_setPuzzle_38 : decode cX6_setPuzzle 38 = .ok (.getfield 61, 3) := by decide +kernel
theorem dX6_setPuzzle_41 : decode cX6_setPuzzle 41 = .ok (.getfield 85, 3) := by decide +kernel
theorem dX6_setPuzzle_44 : decode cX6_setPuzzle 44 = .ok (.aload_n 0, 1) := by decide +kernel
theorem dX6_setPuzzle_45 : decode cX6_setPuzzle 45 = .ok (.getfield 61, 3) := by decide +kernel
theorem dX6_setPuzzle_48 : decode cX6_setPuzzle 48 = .ok (.getfield 88, 3) := by decide +kernel
theorem dX6_setPuzzle_51 : decode cX6_setPuzzle 51 = .ok (.invokevirtual 10, 3) := by decide +kernel
theorem dX6_setPuzzle_54 : decode cX6_setPuzzle 54 = .ok (.iconst 0, 1) := by decide +kernel
theorem dX6_setPuzzle_55 : decode cX6_setPuzzle 55 = .ok (.istore_n 1, 1) := by decide +kernel
theorem dX6_setPuzzle_56 : decode cX6_setPuzzle 56 = .ok (.iload_n 1, 1) := by decide +kernel
theorem dX6_setPuzzle_57 : decode cX6_setPuzzle 57 = .ok (.aload_n 0, 1) := by decide +kernel
theorem dX6_setPuzzle_58 : decode cX6_setPuzzle 58 = .ok (.getfield 27, 3) := by decide +kernel
theorem dX6_setPuzzle_61 : decode cX6_setPuzzle 61 = .ok (.getfield 91, 3) := by decide +kernel
theorem dX6_setPuzzle_64 : decode cX6_setPuzzle 64 = .ok (.if_icmp .ge 27, 3) := by decide +kernel
theorem dX6_setPuzzle_67 : decode cX6_setPuzzle 67 = .ok (.aload_n 0, 1) := by decide +kernel
theorem dX6_setPuzzle_68 : decode cX6_setPuzzle 68 = .ok (.getfield 27, 3) := by decide +kernel
theorem dX6_setPuzzle_71 : decode cX6_setPuzzle 71 = .ok (.getfield 94, 3) := by decide +kernel
theorem dX6_setPuzzle_74 : decode cX6_setPuzzle 74 = .ok (.iload_n 1, 1) := by decide +kernel
theorem dX6_setPuzzle_75 : decode cX6_setPuzzle 75 = .ok (.aload_n 0, 1) := by decide +kernel
theorem dX6_setPuzzle_76 : decode cX6_setPuzzle 76 = .ok (.getfield 61, 3) := by decide +kernel
theorem dX6_setPuzzle_79 : decode cX6_setPuzzle 79 = .ok (.getfield 97, 3) := by decide +kernel
theorem dX6_setPuzzle_82 : decode cX6_setPuzzle 82 = .ok (.iload_n 1, 1) := by decide +kernel
theorem dX6_setPuzzle_83 : decode cX6_setPuzzle 83 = .ok (.iaload, 1) := by decide +kernel
theorem dX6_setPuzzle_84 : decode cX6_setPuzzle 84 = .ok (.iastore, 1) := by decide +kernel
theorem dX6_setPuzzle_85 : decode cX6_setPuzzle 85 = .ok (.iinc 1 1, 3) := by decide +kernel
theorem dX6_setPuzzle_88 : decode cX6_setPuzzle 88 = .ok (.goto (-32), 3) := by decide +kernel
theorem dX6_setPuzzle_91 : decode cX6_setPuzzle 91 = .ok (.aload_n 0, 1) := by decide +kernel
theorem dX6_setPuzzle_92 : decode cX6_setPuzzle 92 = .ok (.invokevirtual 98, 3) := by decide +kernel
theorem dX6_setPuzzle_95 : decode cX6_setPuzzle 95 = .ok (.aload_n 0, 1) := by decide +kernel
theorem dX6_setPuzzle_96 : decode cX6_setPuzzle 96 = .ok (.getfield 33, 3) := by decide +kernel
theorem dX6_setPuzzle_99 : decode cX6_setPuzzle 99 = .ok (.lconst 0, 1) := by decide +kernel
theorem dX6_setPuzzle_100 : decode cX6_setPuzzle 100 = .ok (.aload_n 0, 1) := by decide +kernel
theorem dX6_setPuzzle_101 : decode cX6_setPuzzle 101 = .ok (.getfield 27, 3) := by decide +kernel
theorem dX6_setPuzzle_104 : decode cX6_setPuzzle 104 = .ok (.invokevirtual 19, 3) := by decide +kernel
theorem dX6_setPuzzle_107 : decode cX6_setPuzzle 107 = .ok (.invokevirtual 23, 3) := by decide +kernel
theorem dX6_setPuzzle_110 : decode cX6_setPuzzle 110 = .ok (.aload_n 0, 1) := by decide +kernel
theorem dX6_setPuzzle_111 : decode cX6_setPuzzle 111 = .ok (.getfield 27, 3) := by decide +kernel
theorem dX6_setPuzzle_114 : decode cX6_setPuzzle 114 = .ok (.getfield 101, 3) := by decide +kernel
theorem dX6_setPuzzle_117 : decode cX6_setPuzzle 117 = .ok (.ireturn, 1) := by decide +kernel
theorem dX6_setCount_0 : decode cX6_setCount 0 = .ok (.aload_n 0, 1) := by decide +kernel
theorem dX6_setCount_1 : decode cX6_setCount 1 = .ok (.getfield 27, 3) := by decide +kernel
theorem dX6_setCount_4 : decode cX6_setCount 4 = .ok (.iload_n 1, 1) := by decide +kernel
theorem dX6_setCount_5 : decode cX6_setCount 5 = .ok (.invokevirtual 104, 3) := by decide +kernel
theorem dX6_setCount_8 : decode cX6_setCount 8 = .ok (.ifCond .eq 13, 3) := by decide +kernel
theorem dX6_setCount_11 : decode cX6_setCount 11 = .ok (.iload_n 2, 1) := by decide +kernel
theorem dX6_setCount_12 : decode cX6_setCount 12 = .ok (.iconst (-1), 1) := by decide +kernel
theorem dX6_setCount_13 : decode cX6_setCount 13 = .ok (.if_icmp .lt 8, 3) := by decide +kernel
theorem dX6_setCount_16 : decode cX6_setCount 16 = .ok (.iload_n 2, 1) := by decide +kernel
theorem dX6_setCount_17 : decode cX6_setCount 17 = .ok (.iconst 3, 1) := by decide +kernel
theorem dX6_setCount_18 : decode cX6_setCount 18 = .ok (.if_icmp .le 6, 3) := by decide +kernel
theorem dX6_setCount_21 : decode cX6_setCount 21 = .ok (.bipush (-2), 2) := by decide +kernel
theorem dX6_setCount_23 : decode cX6_setCount 23 = .ok (.ireturn, 1) := by decide +kernel
theorem dX6_setCount_24 : decode cX6_setCount 24 = .ok (.aload_n 0, 1) := by decide +kernel
theorem dX6_setCount_25 : decode cX6_setCount 25 = .ok (.getfield 54, 3) := by decide +kernel
theorem dX6_setCount_28 : decode cX6_setCount 28 = .ok (.aload_n 0, 1) := by decide +kernel
theorem dX6_setCount_29 : decode cX6_setCount 29 = .ok (.getfield 27, 3) := by decide +kernel
theorem dX6_setCount_32 : decode cX6_setCount 32 = .ok (.aload_n 0, 1) := by decide +kernel
theorem dX6_setCount_33 : decode cX6_setCount 33 = .ok (.getfield 33, 3) := by decide +kernel
theorem dX6_setCount_36 : decode cX6_setCount 36 = .ok (.aload_n 0, 1) := by decide +kernel
theorem dX6_setCount_37 : decode cX6_setCount 37 = .ok (.getfield 65, 3) := by decide +kernel
theorem dX6_setCount_40 : decode cX6_setCount 40 = .ok (.invokevirtual 81, 3) := by decide +kernel
theorem dX6_setCount_43 : decode cX6_setCount 43 = .ok (.aload_n 0, 1) := by decide +kernel
theorem dX6_setCount_44 : decode cX6_setCount 44 = .ok (.getfield 27, 3) := by decide +kernel
theorem dX6_setCount_47 : decode cX6_setCount 47 = .ok (.getfield 94, 3) := by decide +kernel
theorem dX6_setCount_50 : decode cX6_setCount 50 = .ok (.iload_n 1, 1) := by decide +kernel
theorem dX6_setCount_51 : decode cX6_setCount 51 = .ok (.iaload, 1) := by decide +kernel
theorem dX6_setCount_52 : decode cX6_setCount 52 = .ok (.istore_n 3, 1) := by decide +kernel
theorem dX6_setCount_53 : decode cX6_setCount 53 = .ok (.aload_n 0, 1) := by decide +kernel
theorem dX6_setCount_54 : decode cX6_setCount 54 = .ok (.getfield 27, 3) := by decide +kernel
theorem dX6_setCount_57 : decode cX6_setCount 57 = .ok (.getfield 94, 3) := by decide +kernel
theorem dX6_setCount_60 : decode cX6_setCount 60 = .ok (.iload_n 1, 1) := by decide +kernel
theorem dX6_setCount_61 : decode cX6_setCount 61 = .ok (.iload_n 2, 1) := by decide +kernel
theorem dX6_setCount_62 : decode cX6_setCount 62 = .ok (.iastore, 1) := by decide +kernel
theorem dX6_setCount_63 : decode cX6_setCount 63 = .ok (.aload_n 0, 1) := by decide +kernel
theorem dX6_setCount_64 : decode cX6_setCount 64 = .ok (.getfield 33, 3) := by decide +kernel
theorem dX6_setCount_67 : decode cX6_setCount 67 = .ok (.aload_n 0, 1) := by decide +kernel
theorem dX6_setCount_68 : decode cX6_setCount 68 = .ok (.getfield 33, 3) := by decide +kernel
theorem dX6_setCount_71 : decode cX6_setCount 71 = .ok (.getfield 108, 3) := by decide +kernel
theorem dX6_setCount_74 : decode cX6_setCount 74 = .ok (.aload_n 0, 1) := by decide +kernel
theorem dX6_setCount_75 : decode cX6_setCount 75 = .ok (.getfield 33, 3) := by decide +kernel
theorem dX6_setCount_78 : decode cX6_setCount 78 = .ok (.getfield 112, 3) := by decide +kernel
theorem dX6_setCount_81 : decode cX6_setCount 81 = .ok (.invokevirtual 23, 3) := by decide +kernel
theorem dX6_setCount_84 : decode cX6_setCount 84 = .ok (.iload_n 3, 1) := by decide +kernel
theorem dX6_setCount_85 : decode cX6_setCount 85 = .ok (.ireturn, 1) := by decide +kernel
theorem dX6_mark_0 : decode cX6_mark 0 = .ok (.aload_n 0, 1) := by decide +kernel
theorem dX6_mark_1 : decode cX6_mark 1 = .ok (.getfield 27, 3) := by decide +kernel
theorem dX6_mark_4 : decode cX6_mark 4 = .ok (.iload_n 1, 1) := by decide +kernel
theorem dX6_mark_5 : decode cX6_mark 5 = .ok (.invokevirtual 115, 3) := by decide +kernel
theorem dX6_mark_8 : decode cX6_mark 8 = .ok (.ifCond .eq 12, 3) := by decide +kernel
theorem dX6_mark_11 : decode cX6_mark 11 = .ok (.iload_n 2, 1) := by decide +kernel
theorem dX6_mark_12 : decode cX6_mark 12 = .ok (.ifCond .lt 8, 3) := by decide +kernel
theorem dX6_mark_15 : decode cX6_mark 15 = .ok (.iload_n 2, 1) := by decide +kernel
theorem dX6_mark_16 : decode cX6_mark 16 = .ok (.iconst 2, 1) := by decide +kernel
theorem dX6_mark_17 : decode cX6_mark 17 = .ok (.if_icmp .le 6, 3) := by decide +kernel
theorem dX6_mark_20 : decode cX6_mark 20 = .ok (.bipush (-2), 2) := by decide +kernel
theorem dX6_mark_22 : decode cX6_mark 22 = .ok (.ireturn, 1) := by decide +kernel
theorem dX6_mark_23 : decode cX6_mark 23 = .ok (.aload_n 0, 1) := by decide +kernel
theorem dX6_mark_24 : decode cX6_mark 24 = .ok (.getfield 54, 3) := by decide +kernel
theorem dX6_mark_27 : decode cX6_mark 27 = .ok (.aload_n 0, 1) := by decide +kernel
theorem dX6_mark_28 : decode cX6_mark 28 = .ok (.getfield 27, 3) := by decide +kernel
theorem dX6_mark_31 : decode cX6_mark 31 = .ok (.aload_n 0, 1) := by decide +kernel
theorem dX6_mark_32 : decode cX6_mark 32 = .ok (.getfield 33, 3) := by decide +kernel
theorem dX6_mark_35 : decode cX6_mark 35 = .ok (.aload_n 0, 1) := by decide +kernel
theorem dX6_mark_36 : decode cX6_mark 36 = .ok (.getfield 65, 3) := by decide +kernel
theorem dX6_mark_39 : decode cX6_mark 39 = .ok (.invokevirtual 81, 3) := by decide +kernel
theorem dX6_mark_42 : decode cX6_mark 42 = .ok (.aload_n 0, 1) := by decide +kernel
theorem dX6_mark_43 : decode cX6_mark 43 = .ok (.getfield 33, 3) := by decide +kernel
theorem dX6_mark_46 : decode cX6_mark 46 = .ok (.iload_n 1, 1) := by decide +kernel
theorem dX6_mark_47 : decode cX6_mark 47 = .ok (.invokevirtual 118, 3) := by decide +kernel
theorem dX6_mark_50 : decode cX6_mark 50 = .ok (.istore_n 3, 1) := by decide +kernel
theorem dX6_mark_51 : decode cX6_mark 51 = .ok (.lconst 1, 1) := by decide +kernel
theorem dX6_mark_52 : decode cX6_mark 52 = .ok (.iload_n 1, 1) := by decide +kernel
theorem dX6_mark_53 : decode cX6_mark 53 = .ok (.lshl, 1) := by decide +kernel
theorem dX6_mark_54 : decode cX6_mark 54 = .ok (.lstore 4, 2) := by decide +kernel
theorem dX6_mark_56 : decode cX6_mark 56 = .ok (.iload_n 2, 1) := by decide +kernel
theorem dX6_mark_57 : decode cX6_mark 57 = .ok (.iconst 1, 1) := by decide +kernel
theorem dX6_mark_58 : decode cX6_mark 58 = .ok (.if_icmp .ne 16, 3) := by decide +kernel
theorem dX6_mark_61 : decode cX6_mark 61 = .ok (.aload_n 0, 1) := by decide +kernel
theorem dX6_mark_62 : decode cX6_mark 62 = .ok (.getfield 33, 3) := by decide +kernel
theorem dX6_mark_65 : decode cX6_mark 65 = .ok (.getfield 108, 3) := by decide +kernel
theorem dX6_mark_68 : decode cX6_mark 68 = .ok (.lload 4, 2) := by decide +kernel
theorem dX6_mark_70 : decode cX6_mark 70 = .ok (.lor, 1) := by decide +kernel
theorem dX6_mark_71 : decode cX6_mark 71 = .ok (.goto 17, 3) := by decide +kernel
theorem dX6_mark_74 : decode cX6_mark 74 = .ok (.aload_n 0, 1) := by decide +kernel
theorem dX6_mark_75 : decode cX6_mark 75 = .ok (.getfield 33, 3) := by decide +kernel
theorem dX6_mark_78 : decode cX6_mark 78 = .ok (.getfield 108, 3) := by decide +kernel
theorem dX6_mark_81 : decode cX6_mark 81 = .ok (.lload 4, 2) := by decide +kernel
theorem dX6_mark_83 : decode cX6_mark 83 = .ok (.ldc2_w 121, 3) := by decide +kernel
theorem dX6_mark_86 : decode cX6_mark 86 = .ok (.lxor, 1) := by decide +kernel
theorem dX6_mark_87 : decode cX6_mark 87 = .ok (.land, 1) := by decide +kernel
theorem dX6_mark_88 : decode cX6_mark 88 = .ok (.lstore 6, 2) := by decide +kernel
theorem dX6_mark_90 : decode cX6_mark 90 = .ok (.iload_n 2, 1) := by decide +kernel
theorem dX6_mark_91 : decode cX6_mark 91 = .ok (.ifCond .ne 16, 3) := by decide +kernel
theorem dX6_mark_94 : decode cX6_mark 94 = .ok (.aload_n 0, 1) := by decide +kernel
theorem dX6_mark_95 : decode cX6_mark 95 = .ok (.getfield 33, 3) := by decide +kernel
theorem dX6_mark_98 : decode cX6_mark 98 = .ok (.getfield 112, 3) := by decide +kernel
theorem dX6_mark_101 : decode cX6_mark 101 = .ok (.lload 4, 2) := by decide +kernel
theorem dX6_mark_103 : decode cX6_mark 103 = .ok (.lor, 1) := by decide +kernel
theorem dX6_mark_104 : decode cX6_mark 104 = .ok (.goto 17, 3) := by decide +kernel
theorem dX6_mark_107 : decode cX6_mark 107 = .ok (.aload_n 0, 1) := by decide +kernel
theorem dX6_mark_108 : decode cX6_mark 108 = .ok (.getfield 33, 3) := by decide +kernel
theorem dX6_mark_111 : decode cX6_mark 111 = .ok (.getfield 112, 3) := by decide +kernel
theorem dX6_mark_114 : decode cX6_mark 114 = .ok (.lload 4, 2) := by decide +kernel
theorem dX6_mark_116 : decode cX6_mark 116 = .ok (.ldc2_w 121, 3) := by decide +kernel
theorem dX6_mark_119 : decode cX6_mark 119 = .ok (.lxor, 1) := by decide +kernel
theorem dX6_mark_120 : decode cX6_mark 120 = .ok (.land, 1) := by decide +kernel
theorem dX6_mark_121 : decode cX6_mark 121 = .ok (.lstore 8, 2) := by decide +kernel
theorem dX6_mark_123 : decode cX6_mark 123 = .ok (.aload_n 0, 1) := by decide +kernel
theorem dX6_mark_124 : decode cX6_mark 124 = .ok (.getfield 33, 3) := by decide +kernel
theorem dX6_mark_127 : decode cX6_mark 127 = .ok (.lload 6, 2) := by decide +kernel
theorem dX6_mark_129 : decode cX6_mark 129 = .ok (.lload 8, 2) := by decide +kernel
theorem dX6_mark_131 : decode cX6_mark 131 = .ok (.invokevirtual 23, 3) := by decide +kernel
theorem dX6_mark_134 : decode cX6_mark 134 = .ok (.iload_n 3, 1) := by decide +kernel
theorem dX6_mark_135 : decode cX6_mark 135 = .ok (.ireturn, 1) := by decide +kernel
theorem dX6_wipe_0 : decode cX6_wipe 0 = .ok (.aload_n 0, 1) := by decide +kernel
theorem dX6_wipe_1 : decode cX6_wipe 1 = .ok (.getfield 54, 3) := by decide +kernel
theorem dX6_wipe_4 : decode cX6_wipe 4 = .ok (.aload_n 0, 1) := by decide +kernel
theorem dX6_wipe_5 : decode cX6_wipe 5 = .ok (.getfield 27, 3) := by decide +kernel
theorem dX6_wipe_8 : decode cX6_wipe 8 = .ok (.aload_n 0, 1) := by decide +kernel
theorem dX6_wipe_9 : decode cX6_wipe 9 = .ok (.getfield 33, 3) := by decide +kernel
theorem dX6_wipe_12 : decode cX6_wipe 12 = .ok (.aload_n 0, 1) := by decide +kernel
theorem dX6_wipe_13 : decode cX6_wipe 13 = .ok (.getfield 65, 3) := by decide +kernel
theorem dX6_wipe_16 : decode cX6_wipe 16 = .ok (.invokevirtual 81, 3) := by decide +kernel
theorem dX6_wipe_19 : decode cX6_wipe 19 = .ok (.aload_n 0, 1) := by decide +kernel
theorem dX6_wipe_20 : decode cX6_wipe 20 = .ok (.getfield 27, 3) := by decide +kernel
theorem dX6_wipe_23 : decode cX6_wipe 23 = .ok (.getfield 101, 3) := by decide +kernel
theorem dX6_wipe_26 : decode cX6_wipe 26 = .ok (.aload_n 0, 1) := by decide +kernel
theorem dX6_wipe_27 : decode cX6_wipe 27 = .ok (.getfield 33, 3) := by decide +kernel
theorem dX6_wipe_30 : decode cX6_wipe 30 = .ok (.getfield 112, 3) := by decide +kernel
theorem dX6_wipe_33 : decode cX6_wipe 33 = .ok (.invokestatic 123, 3) := by decide +kernel
theorem dX6_wipe_36 : decode cX6_wipe 36 = .ok (.isub, 1) := by decide +kernel
theorem dX6_wipe_37 : decode cX6_wipe 37 = .ok (.istore_n 1, 1) := by decide +kernel
theorem dX6_wipe_38 : decode cX6_wipe 38 = .ok (.aload_n 0, 1) := by decide +kernel
theorem dX6_wipe_39 : decode cX6_wipe 39 = .ok (.invokevirtual 98, 3) := by decide +kernel
theorem dX6_wipe_42 : decode cX6_wipe 42 = .ok (.aload_n 0, 1) := by decide +kernel
theorem dX6_wipe_43 : decode cX6_wipe 43 = .ok (.getfield 33, 3) := by decide +kernel
theorem dX6_wipe_46 : decode cX6_wipe 46 = .ok (.lconst 0, 1) := by decide +kernel
theorem dX6_wipe_47 : decode cX6_wipe 47 = .ok (.aload_n 0, 1) := by decide +kernel
theorem dX6_wipe_48 : decode cX6_wipe 48 = .ok (.getfield 27, 3) := by decide +kernel
theorem dX6_wipe_51 : decode cX6_wipe 51 = .ok (.invokevirtual 19, 3) := by decide +kernel
theorem dX6_wipe_54 : decode cX6_wipe 54 = .ok (.invokevirtual 23, 3) := by decide +kernel
theorem dX6_wipe_57 : decode cX6_wipe 57 = .ok (.iload_n 1, 1) := by decide +kernel
theorem dX6_wipe_58 : decode cX6_wipe 58 = .ok (.ireturn, 1) := by decide +kernel
theorem dX6_deduce_0 : decode cX6_deduce 0 = .ok (.aload_n 0, 1) := by decide +kernel
theorem dX6_deduce_1 : decode cX6_deduce 1 = .ok (.getfield 33, 3) := by decide +kernel
theorem dX6_deduce_4 : decode cX6_deduce 4 = .ok (.invokevirtual 129, 3) := by decide +kernel
theorem dX6_deduce_7 : decode cX6_deduce 7 = .ok (.ifCond .ne 6, 3) := by decide +kernel
theorem dX6_deduce_10 : decode cX6_deduce 10 = .ok (.bipush (-3), 2) := by decide +kernel
theorem dX6_deduce_12 : decode cX6_deduce 12 = .ok (.ireturn, 1) := by decide +kernel
theorem dX6_deduce_13 : decode cX6_deduce 13 = .ok (.aload_n 0, 1) := by decide +kernel
theorem dX6_deduce_14 : decode cX6_deduce 14 = .ok (.getfield 54, 3) := by decide +kernel
theorem dX6_deduce_17 : decode cX6_deduce 17 = .ok (.aload_n 0, 1) := by decide +kernel
theorem dX6_deduce_18 : decode cX6_deduce 18 = .ok (.getfield 27, 3) := by decide +kernel
theorem dX6_deduce_21 : decode cX6_deduce 21 = .ok (.aload_n 0, 1) := by decide +kernel
theorem dX6_deduce_22 : decode cX6_deduce 22 = .ok (.getfield 33, 3) := by decide +kernel
theorem dX6_deduce_25 : decode cX6_deduce 25 = .ok (.aload_n 0, 1) := by decide +kernel
theorem dX6_deduce_26 : decode cX6_deduce 26 = .ok (.getfield 65, 3) := by decide +kernel
theorem dX6_deduce_29 : decode cX6_deduce 29 = .ok (.invokevirtual 81, 3) := by decide +kernel
theorem dX6_deduce_32 : decode cX6_deduce 32 = .ok (.aload_n 0, 1) := by decide +kernel
theorem dX6_deduce_33 : decode cX6_deduce 33 = .ok (.getfield 40, 3) := by decide +kernel
theorem dX6_deduce_36 : decode cX6_deduce 36 = .ok (.aload_n 0, 1) := by decide +kernel
theorem dX6_deduce_37 : decode cX6_deduce 37 = .ok (.getfield 33, 3) := by decide +kernel
theorem dX6_deduce_40 : decode cX6_deduce 40 = .ok (.bipush 7, 2) := by decide +kernel
theorem dX6_deduce_42 : decode cX6_deduce 42 = .ok (.invokevirtual 133, 3) := by decide +kernel
theorem dX6_deduce_45 : decode cX6_deduce 45 = .ok (.ifCond .ne 5, 3) := by decide +kernel
theorem dX6_deduce_48 : decode cX6_deduce 48 = .ok (.iconst (-1), 1) := by decide +kernel
theorem dX6_deduce_49 : decode cX6_deduce 49 = .ok (.ireturn, 1) := by decide +kernel
theorem dX6_deduce_50 : decode cX6_deduce 50 = .ok (.aload_n 0, 1) := by decide +kernel
theorem dX6_deduce_51 : decode cX6_deduce 51 = .ok (.invokevirtual 137, 3) := by decide +kernel
theorem dX6_deduce_54 : decode cX6_deduce 54 = .ok (.aload_n 0, 1) := by decide +kernel
theorem dX6_deduce_55 : decode cX6_deduce 55 = .ok (.getfield 33, 3) := by decide +kernel
theorem dX6_deduce_58 : decode cX6_deduce 58 = .ok (.getfield 140, 3) := by decide +kernel
theorem dX6_deduce_61 : decode cX6_deduce 61 = .ok (.ireturn, 1) := by decide +kernel
theorem dX6_deduceAll_0 : decode cX6_deduceAll 0 = .ok (.iload_n 1, 1) := by decide +kernel
theorem dX6_deduceAll_1 : decode cX6_deduceAll 1 = .ok (.ifCond .lt 9, 3) := by decide +kernel
theorem dX6_deduceAll_4 : decode cX6_deduceAll 4 = .ok (.iload_n 1, 1) := by decide +kernel
theorem dX6_deduceAll_5 : decode cX6_deduceAll 5 = .ok (.bipush 7, 2) := by decide +kernel
theorem dX6_deduceAll_7 : decode cX6_deduceAll 7 = .ok (.if_icmp .le 6, 3) := by decide +kernel
theorem dX6_deduceAll_10 : decode cX6_deduceAll 10 = .ok (.bipush (-2), 2) := by decide +kernel
theorem dX6_deduceAll_12 : decode cX6_deduceAll 12 = .ok (.ireturn, 1) := by decide +kernel
theorem dX6_deduceAll_13 : decode cX6_deduceAll 13 = .ok (.aload_n 0, 1) := by decide +kernel
theorem dX6_deduceAll_14 : decode cX6_deduceAll 14 = .ok (.getfield 33, 3) := by decide +kernel
theorem dX6_deduceAll_17 : decode cX6_deduceAll 17 = .ok (.invokevirtual 129, 3) := by decide +kernel
theorem dX6_deduceAll_20 : decode cX6_deduceAll 20 = .ok (.ifCond .ne 6, 3) := by decide +kernel
theorem dX6_deduceAll_23 : decode cX6_deduceAll 23 = .ok (.bipush (-3), 2) := by decide +kernel
theorem dX6_deduceAll_25 : decode cX6_deduceAll 25 = .ok (.ireturn, 1) := by decide +kernel
theorem dX6_deduceAll_26 : decode cX6_deduceAll 26 = .ok (.aload_n 0, 1) := by decide +kernel
theorem dX6_deduceAll_27 : decode cX6_deduceAll 27 = .ok (.getfield 54, 3) := by decide +kernel
theorem dX6_deduceAll_30 : decode cX6_deduceAll 30 = .ok (.aload_n 0, 1) := by decide +kernel
theorem dX6_deduceAll_31 : decode cX6_deduceAll 31 = .ok (.getfield 27, 3) := by decide +kernel
theorem dX6_deduceAll_34 : decode cX6_deduceAll 34 = .ok (.aload_n 0, 1) := by decide +kernel
theorem dX6_deduceAll_35 : decode cX6_deduceAll 35 = .ok (.getfield 33, 3) := by decide +kernel
theorem dX6_deduceAll_38 : decode cX6_deduceAll 38 = .ok (.aload_n 0, 1) := by decide +kernel
theorem dX6_deduceAll_39 : decode cX6_deduceAll 39 = .ok (.getfield 65, 3) := by decide +kernel
theorem dX6_deduceAll_42 : decode cX6_deduceAll 42 = .ok (.invokevirtual 81, 3) := by decide +kernel
theorem dX6_deduceAll_45 : decode cX6_deduceAll 45 = .ok (.iconst 0, 1) := by decide +kernel
theorem dX6_deduceAll_46 : decode cX6_deduceAll 46 = .ok (.istore_n 2, 1) := by decide +kernel
theorem dX6_deduceAll_47 : decode cX6_deduceAll 47 = .ok (.iload_n 2, 1) := by decide +kernel
theorem dX6_deduceAll_48 : decode cX6_deduceAll 48 = .ok (.bipush 40, 2) := by decide +kernel
theorem dX6_deduceAll_50 : decode cX6_deduceAll 50 = .ok (.if_icmp .ge 28, 3) := by decide +kernel
theorem dX6_deduceAll_53 : decode cX6_deduceAll 53 = .ok (.aload_n 0, 1) := by decide +kernel
theorem dX6_deduceAll_54 : decode cX6_deduceAll 54 = .ok (.getfield 40, 3) := by decide +kernel
theorem dX6_deduceAll_57 : decode cX6_deduceAll 57 = .ok (.aload_n 0, 1) := by decide +kernel
theorem dX6_deduceAll_58 : decode cX6_deduceAll 58 = .ok (.getfield 33, 3) := by decide +kernel
theorem dX6_deduceAll_61 : decode cX6_deduceAll 61 = .ok (.iload_n 1, 1) := by decide +kernel
theorem dX6_deduceAll_62 : decode cX6_deduceAll 62 = .ok (.invokevirtual 133, 3) := by decide +kernel
theorem dX6_deduceAll_65 : decode cX6_deduceAll 65 = .ok (.ifCond .eq 13, 3) := by decide +kernel
theorem dX6_deduceAll_68 : decode cX6_deduceAll 68 = .ok (.aload_n 0, 1) := by decide +kernel
theorem dX6_deduceAll_69 : decode cX6_deduceAll 69 = .ok (.invokevirtual 137, 3) := by decide +kernel
theorem dX6_deduceAll_72 : decode cX6_deduceAll 72 = .ok (.iinc 2 1, 3) := by decide +kernel
theorem dX6_deduceAll_75 : decode cX6_deduceAll 75 = .ok (.goto (-28), 3) := by decide +kernel
theorem dX6_deduceAll_78 : decode cX6_deduceAll 78 = .ok (.iload_n 2, 1) := by decide +kernel
theorem dX6_deduceAll_79 : decode cX6_deduceAll 79 = .ok (.ireturn, 1) := by decide +kernel
theorem dX6_undo_0 : decode cX6_undo 0 = .ok (.aload_n 0, 1) := by decide +kernel
theorem dX6_undo_1 : decode cX6_undo 1 = .ok (.getfield 54, 3) := by decide +kernel
theorem dX6_undo_4 : decode cX6_undo 4 = .ok (.getfield 143, 3) := by decide +kernel
theorem dX6_undo_7 : decode cX6_undo 7 = .ok (.ifCond .ne 6, 3) := by decide +kernel
theorem dX6_undo_10 : decode cX6_undo 10 = .ok (.bipush (-3), 2) := by decide +kernel
theorem dX6_undo_12 : decode cX6_undo 12 = .ok (.ireturn, 1) := by decide +kernel
theorem dX6_undo_13 : decode cX6_undo 13 = .ok (.aload_n 0, 1) := by decide +kernel
theorem dX6_undo_14 : decode cX6_undo 14 = .ok (.getfield 54, 3) := by decide +kernel
theorem dX6_undo_17 : decode cX6_undo 17 = .ok (.aload_n 0, 1) := by decide +kernel
theorem dX6_undo_18 : decode cX6_undo 18 = .ok (.getfield 27, 3) := by decide +kernel
theorem dX6_undo_21 : decode cX6_undo 21 = .ok (.aload_n 0, 1) := by decide +kernel
theorem dX6_undo_22 : decode cX6_undo 22 = .ok (.getfield 33, 3) := by decide +kernel
theorem dX6_undo_25 : decode cX6_undo 25 = .ok (.aload_n 0, 1) := by decide +kernel
theorem dX6_undo_26 : decode cX6_undo 26 = .ok (.getfield 65, 3) := by decide +kernel
theorem dX6_undo_29 : decode cX6_undo 29 = .ok (.invokevirtual 146, 3) := by decide +kernel
theorem dX6_undo_32 : decode cX6_undo 32 = .ok (.aload_n 0, 1) := by decide +kernel
theorem dX6_undo_33 : decode cX6_undo 33 = .ok (.getfield 54, 3) := by decide +kernel
theorem dX6_undo_36 : decode cX6_undo 36 = .ok (.getfield 143, 3) := by decide +kernel
theorem dX6_undo_39 : decode cX6_undo 39 = .ok (.ireturn, 1) := by decide +kernel
theorem dX6_countOf_0 : decode cX6_countOf 0 = .ok (.aload_n 0, 1) := by decide +kernel
theorem dX6_countOf_1 : decode cX6_countOf 1 = .ok (.getfield 27, 3) := by decide +kernel
theorem dX6_countOf_4 : decode cX6_countOf 4 = .ok (.iload_n 1, 1) := by decide +kernel
theorem dX6_countOf_5 : decode cX6_countOf 5 = .ok (.invokevirtual 104, 3) := by decide +kernel
theorem dX6_countOf_8 : decode cX6_countOf 8 = .ok (.ifCond .eq 15, 3) := by decide +kernel
theorem dX6_countOf_11 : decode cX6_countOf 11 = .ok (.aload_n 0, 1) := by decide +kernel
theorem dX6_countOf_12 : decode cX6_countOf 12 = .ok (.getfield 27, 3) := by decide +kernel
theorem dX6_countOf_15 : decode cX6_countOf 15 = .ok (.getfield 94, 3) := by decide +kernel
theorem dX6_countOf_18 : decode cX6_countOf 18 = .ok (.iload_n 1, 1) := by decide +kernel
theorem dX6_countOf_19 : decode cX6_countOf 19 = .ok (.iaload, 1) := by decide +kernel
theorem dX6_countOf_20 : decode cX6_countOf 20 = .ok (.goto 5, 3) := by decide +kernel
theorem dX6_countOf_23 : decode cX6_countOf 23 = .ok (.bipush (-2), 2) := by decide +kernel
theorem dX6_countOf_25 : decode cX6_countOf 25 = .ok (.ireturn, 1) := by decide +kernel
theorem dX6_edge_0 : decode cX6_edge 0 = .ok (.aload_n 0, 1) := by decide +kernel
theorem dX6_edge_1 : decode cX6_edge 1 = .ok (.getfield 27, 3) := by decide +kernel
theorem dX6_edge_4 : decode cX6_edge 4 = .ok (.iload_n 1, 1) := by decide +kernel
theorem dX6_edge_5 : decode cX6_edge 5 = .ok (.invokevirtual 115, 3) := by decide +kernel
theorem dX6_edge_8 : decode cX6_edge 8 = .ok (.ifCond .eq 14, 3) := by decide +kernel
theorem dX6_edge_11 : decode cX6_edge 11 = .ok (.aload_n 0, 1) := by decide +kernel
theorem dX6_edge_12 : decode cX6_edge 12 = .ok (.getfield 33, 3) := by decide +kernel
theorem dX6_edge_15 : decode cX6_edge 15 = .ok (.iload_n 1, 1) := by decide +kernel
theorem dX6_edge_16 : decode cX6_edge 16 = .ok (.invokevirtual 118, 3) := by decide +kernel
theorem dX6_edge_19 : decode cX6_edge 19 = .ok (.goto 5, 3) := by decide +kernel
theorem dX6_edge_22 : decode cX6_edge 22 = .ok (.bipush (-2), 2) := by decide +kernel
theorem dX6_edge_24 : decode cX6_edge 24 = .ok (.ireturn, 1) := by decide +kernel
theorem dX6_edgeAt_0 : decode cX6_edgeAt 0 = .ok (.iload_n 1, 1) := by decide +kernel
theorem dX6_edgeAt_1 : decode cX6_edgeAt 1 = .ok (.ifCond .eq 14, 3) := by decide +kernel
theorem dX6_edgeAt_4 : decode cX6_edgeAt 4 = .ok (.aload_n 0, 1) := by decide +kernel
theorem dX6_edgeAt_5 : decode cX6_edgeAt 5 = .ok (.getfield 27, 3) := by decide +kernel
theorem dX6_edgeAt_8 : decode cX6_edgeAt 8 = .ok (.iload_n 2, 1) := by decide +kernel
theorem dX6_edgeAt_9 : decode cX6_edgeAt 9 = .ok (.invokevirtual 149, 3) := by decide +kernel
theorem dX6_edgeAt_12 : decode cX6_edgeAt 12 = .ok (.goto 11, 3) := by decide +kernel
theorem dX6_edgeAt_15 : decode cX6_edgeAt 15 = .ok (.aload_n 0, 1) := by decide +kernel
theorem dX6_edgeAt_16 : decode cX6_edgeAt 16 = .ok (.getfield 27, 3) := by decide +kernel
theorem dX6_edgeAt_19 : decode cX6_edgeAt 19 = .ok (.iload_n 2, 1) := by decide +kernel
theorem dX6_edgeAt_20 : decode cX6_edgeAt 20 = .ok (.invokevirtual 104, 3) := by decide +kernel
theorem dX6_edgeAt_23 : decode cX6_edgeAt 23 = .ok (.istore 4, 2) := by decide +kernel
theorem dX6_edgeAt_25 : decode cX6_edgeAt 25 = .ok (.iload 4, 2) := by decide +kernel
theorem dX6_edgeAt_27 : decode cX6_edgeAt 27 = .ok (.ifCond .eq 7, 3) := by decide +kernel
theorem dX6_edgeAt_30 : decode cX6_edgeAt 30 = .ok (.iload_n 3, 1) := by decide +kernel
theorem dX6_edgeAt_31 : decode cX6_edgeAt 31 = .ok (.ifCond .ge 6, 3) := by decide +kernel
theorem dX6_edgeAt_34 : decode cX6_edgeAt 34 = .ok (.bipush (-2), 2) := by decide +kernel
theorem dX6_edgeAt_36 : decode cX6_edgeAt 36 = .ok (.ireturn, 1) := by decide +kernel
theorem dX6_edgeAt_37 : decode cX6_edgeAt 37 = .ok (.iload_n 1, 1) := by decide +kernel
theorem dX6_edgeAt_38 : decode cX6_edgeAt 38 = .ok (.ifCond .eq 15, 3) := by decide +kernel
theorem dX6_edgeAt_41 : decode cX6_edgeAt 41 = .ok (.aload_n 0, 1) := by decide +kernel
theorem dX6_edgeAt_42 : decode cX6_edgeAt 42 = .ok (.getfield 27, 3) := by decide +kernel
theorem dX6_edgeAt_45 : decode cX6_edgeAt 45 = .ok (.getfield 152, 3) := by decide +kernel
theorem dX6_edgeAt_48 : decode cX6_edgeAt 48 = .ok (.iload_n 2, 1) := by decide +kernel
theorem dX6_edgeAt_49 : decode cX6_edgeAt 49 = .ok (.laload, 1) := by decide +kernel
theorem dX6_edgeAt_50 : decode cX6_edgeAt 50 = .ok (.goto 12, 3) := by decide +kernel
theorem dX6_edgeAt_53 : decode cX6_edgeAt 53 = .ok (.aload_n 0, 1) := by decide +kernel
theorem dX6_edgeAt_54 : decode cX6_edgeAt 54 = .ok (.getfield 27, 3) := by decide +kernel
theorem dX6_edgeAt_57 : decode cX6_edgeAt 57 = .ok (.getfield 156, 3) := by decide +kernel
theorem dX6_edgeAt_60 : decode cX6_edgeAt 60 = .ok (.iload_n 2, 1) := by decide +kernel
theorem dX6_edgeAt_61 : decode cX6_edgeAt 61 = .ok (.laload, 1) := by decide +kernel
theorem dX6_edgeAt_62 : decode cX6_edgeAt 62 = .ok (.lstore 5, 2) := by decide +kernel
theorem dX6_edgeAt_64 : decode cX6_edgeAt 64 = .ok (.iconst 0, 1) := by decide +kernel
theorem dX6_edgeAt_65 : decode cX6_edgeAt 65 = .ok (.istore 7, 2) := by decide +kernel
theorem dX6_edgeAt_67 : decode cX6_edgeAt 67 = .ok (.iload 7, 2) := by decide +kernel
theorem dX6_edgeAt_69 : decode cX6_edgeAt 69 = .ok (.iload_n 3, 1) := by decide +kernel
theorem dX6_edgeAt_70 : decode cX6_edgeAt 70 = .ok (.if_icmp .ge 25, 3) := by decide +kernel
theorem dX6_edgeAt_73 : decode cX6_edgeAt 73 = .ok (.lload 5, 2) := by decide +kernel
theorem dX6_edgeAt_75 : decode cX6_edgeAt 75 = .ok (.lconst 0, 1) := by decide +kernel
theorem dX6_edgeAt_76 : decode cX6_edgeAt 76 = .ok (.lcmp, 1) := by decide +kernel
theorem dX6_edgeAt_77 : decode cX6_edgeAt 77 = .ok (.ifCond .eq 18, 3) := by decide +kernel
theorem dX6_edgeAt_80 : decode cX6_edgeAt 80 = .ok (.lload 5, 2) := by decide +kernel
theorem dX6_edgeAt_82 : decode cX6_edgeAt 82 = .ok (.lload 5, 2) := by decide +kernel
theorem dX6_edgeAt_84 : decode cX6_edgeAt 84 = .ok (.lconst 1, 1) := by decide +kernel
theorem dX6_edgeAt_85 : decode cX6_edgeAt 85 = .ok (.lsub, 1) := by decide +kernel
theorem dX6_edgeAt_86 : decode cX6_edgeAt 86 = .ok (.land, 1) := by decide +kernel
theorem dX6_edgeAt_87 : decode cX6_edgeAt 87 = .ok (.lstore 5, 2) := by decide +kernel
theorem dX6_edgeAt_89 : decode cX6_edgeAt 89 = .ok (.iinc 7 1, 3) := by decide +kernel
theorem dX6_edgeAt_92 : decode cX6_edgeAt 92 = .ok (.goto (-25), 3) := by decide +kernel
theorem dX6_edgeAt_95 : decode cX6_edgeAt 95 = .ok (.lload 5, 2) := by decide +kernel
theorem dX6_edgeAt_97 : decode cX6_edgeAt 97 = .ok (.invokestatic 159, 3) := by decide +kernel
theorem dX6_edgeAt_100 : decode cX6_edgeAt 100 = .ok (.ireturn, 1) := by decide +kernel
theorem dX6_misfit_0 : decode cX6_misfit 0 = .ok (.iload_n 1, 1) := by decide +kernel
theorem dX6_misfit_1 : decode cX6_misfit 1 = .ok (.tableswitch 102 0 4 #[35, 47, 59, 70, 86], 35) := by decide +kernel
theorem dX6_misfit_36 : decode cX6_misfit 36 = .ok (.aload_n 0, 1) := by decide +kernel
theorem dX6_misfit_37 : decode cX6_misfit 37 = .ok (.getfield 33, 3) := by decide +kernel
theorem dX6_misfit_40 : decode cX6_misfit 40 = .ok (.getfield 162, 3) := by decide +kernel
theorem dX6_misfit_43 : decode cX6_misfit 43 = .ok (.i2l, 1) := by decide +kernel
theorem dX6_misfit_44 : decode cX6_misfit 44 = .ok (.invokestatic 159, 3) := by decide +kernel
theorem dX6_misfit_47 : decode cX6_misfit 47 = .ok (.ireturn, 1) := by decide +kernel
theorem dX6_misfit_48 : decode cX6_misfit 48 = .ok (.aload_n 0, 1) := by decide +kernel
theorem dX6_misfit_49 : decode cX6_misfit 49 = .ok (.getfield 33, 3) := by decide +kernel
theorem dX6_misfit_52 : decode cX6_misfit 52 = .ok (.getfield 165, 3) := by decide +kernel
theorem dX6_misfit_55 : decode cX6_misfit 55 = .ok (.i2l, 1) := by decide +kernel
theorem dX6_misfit_56 : decode cX6_misfit 56 = .ok (.invokestatic 159, 3) := by decide +kernel
theorem dX6_misfit_59 : decode cX6_misfit 59 = .ok (.ireturn, 1) := by decide +kernel
theorem dX6_misfit_60 : decode cX6_misfit 60 = .ok (.aload_n 0, 1) := by decide +kernel
theorem dX6_misfit_61 : decode cX6_misfit 61 = .ok (.getfield 33, 3) := by decide +kernel
theorem dX6_misfit_64 : decode cX6_misfit 64 = .ok (.getfield 168, 3) := by decide +kernel
theorem dX6_misfit_67 : decode cX6_misfit 67 = .ok (.invokestatic 159, 3) := by decide +kernel
theorem dX6_misfit_70 : decode cX6_misfit 70 = .ok (.ireturn, 1) := by decide +kernel
theorem dX6_misfit_71 : decode cX6_misfit 71 = .ok (.aload_n 0, 1) := by decide +kernel
theorem dX6_misfit_72 : decode cX6_misfit 72 = .ok (.getfield 33, 3) := by decide +kernel
theorem dX6_misfit_75 : decode cX6_misfit 75 = .ok (.invokevirtual 129, 3) := by decide +kernel
theorem dX6_misfit_78 : decode cX6_misfit 78 = .ok (.ifCond .eq 7, 3) := by decide +kernel
theorem dX6_misfit_81 : decode cX6_misfit 81 = .ok (.iconst 1, 1) := by decide +kernel
theorem dX6_misfit_82 : decode cX6_misfit 82 = .ok (.goto 4, 3) := by decide +kernel
theorem dX6_misfit_85 : decode cX6_misfit 85 = .ok (.iconst 0, 1) := by decide +kernel
theorem dX6_misfit_86 : decode cX6_misfit 86 = .ok (.ireturn, 1) := by decide +kernel
theorem dX6_misfit_87 : decode cX6_misfit 87 = .ok (.aload_n 0, 1) := by decide +kernel
theorem dX6_misfit_88 : decode cX6_misfit 88 = .ok (.getfield 33, 3) := by decide +kernel
theorem dX6_misfit_91 : decode cX6_misfit 91 = .ok (.invokevirtual 171, 3) := by decide +kernel
theorem dX6_misfit_94 : decode cX6_misfit 94 = .ok (.ifCond .eq 7, 3) := by decide +kernel
theorem dX6_misfit_97 : decode cX6_misfit 97 = .ok (.iconst 1, 1) := by decide +kernel
theorem dX6_misfit_98 : decode cX6_misfit 98 = .ok (.goto 4, 3) := by decide +kernel
theorem dX6_misfit_101 : decode cX6_misfit 101 = .ok (.iconst 0, 1) := by decide +kernel
theorem dX6_misfit_102 : decode cX6_misfit 102 = .ok (.ireturn, 1) := by decide +kernel
theorem dX6_misfit_103 : decode cX6_misfit 103 = .ok (.bipush (-2), 2) := by decide +kernel
theorem dX6_misfit_105 : decode cX6_misfit 105 = .ok (.ireturn, 1) := by decide +kernel
theorem dX6_hint_0 : decode cX6_hint 0 = .ok (.iload_n 1, 1) := by decide +kernel
theorem dX6_hint_1 : decode cX6_hint 1 = .ok (.ifCond .lt 8, 3) := by decide +kernel
theorem dX6_hint_4 : decode cX6_hint 4 = .ok (.iload_n 1, 1) := by decide +kernel
theorem dX6_hint_5 : decode cX6_hint 5 = .ok (.iconst 3, 1) := by decide +kernel
theorem dX6_hint_6 : decode cX6_hint 6 = .ok (.if_icmp .le 6, 3) := by decide +kernel
theorem dX6_hint_9 : decode cX6_hint 9 = .ok (.bipush (-2), 2) := by decide +kernel
theorem dX6_hint_11 : decode cX6_hint 11 = .ok (.ireturn, 1) := by decide +kernel
theorem dX6_hint_12 : decode cX6_hint 12 = .ok (.aload_n 0, 1) := by decide +kernel
theorem dX6_hint_13 : decode cX6_hint 13 = .ok (.getfield 33, 3) := by decide +kernel
theorem dX6_hint_16 : decode cX6_hint 16 = .ok (.invokevirtual 129, 3) := by decide +kernel
theorem dX6_hint_19 : decode cX6_hint 19 = .ok (.ifCond .ne 6, 3) := by decide +kernel
theorem dX6_hint_22 : decode cX6_hint 22 = .ok (.bipush (-3), 2) := by decide +kernel
theorem dX6_hint_24 : decode cX6_hint 24 = .ok (.ireturn, 1) := by decide +kernel
theorem dX6_hint_25 : decode cX6_hint 25 = .ok (.aload_n 0, 1) := by decide +kernel
theorem dX6_hint_26 : decode cX6_hint 26 = .ok (.getfield 40, 3) := by decide +kernel
theorem dX6_hint_29 : decode cX6_hint 29 = .ok (.aload_n 0, 1) := by decide +kernel
theorem dX6_hint_30 : decode cX6_hint 30 = .ok (.getfield 33, 3) := by decide +kernel
theorem dX6_hint_33 : decode cX6_hint 33 = .ok (.bipush 7, 2) := by decide +kernel
theorem dX6_hint_35 : decode cX6_hint 35 = .ok (.invokevirtual 133, 3) := by decide +kernel
theorem dX6_hint_38 : decode cX6_hint 38 = .ok (.ifCond .eq 11, 3) := by decide +kernel
theorem dX6_hint_41 : decode cX6_hint 41 = .ok (.aload_n 0, 1) := by decide +kernel
theorem dX6_hint_42 : decode cX6_hint 42 = .ok (.iload_n 1, 1) := by decide +kernel
theorem dX6_hint_43 : decode cX6_hint 43 = .ok (.invokevirtual 174, 3) := by decide +kernel
theorem dX6_hint_46 : decode cX6_hint 46 = .ok (.goto 4, 3) := by decide +kernel
theorem dX6_hint_49 : decode cX6_hint 49 = .ok (.iconst (-1), 1) := by decide +kernel
theorem dX6_hint_50 : decode cX6_hint 50 = .ok (.ireturn, 1) := by decide +kernel
theorem dX6_way_0 : decode cX6_way 0 = .ok (.aload_n 0, 1) := by decide +kernel
theorem dX6_way_1 : decode cX6_way 1 = .ok (.getfield 27, 3) := by decide +kernel
theorem dX6_way_4 : decode cX6_way 4 = .ok (.iload_n 1, 1) := by decide +kernel
theorem dX6_way_5 : decode cX6_way 5 = .ok (.invokevirtual 115, 3) := by decide +kernel
theorem dX6_way_8 : decode cX6_way 8 = .ok (.ifCond .eq 12, 3) := by decide +kernel
theorem dX6_way_11 : decode cX6_way 11 = .ok (.iload_n 2, 1) := by decide +kernel
theorem dX6_way_12 : decode cX6_way 12 = .ok (.ifCond .lt 8, 3) := by decide +kernel
theorem dX6_way_15 : decode cX6_way 15 = .ok (.iload_n 2, 1) := by decide +kernel
theorem dX6_way_16 : decode cX6_way 16 = .ok (.iconst 2, 1) := by decide +kernel
theorem dX6_way_17 : decode cX6_way 17 = .ok (.if_icmp .le 6, 3) := by decide +kernel
theorem dX6_way_20 : decode cX6_way 20 = .ok (.bipush (-2), 2) := by decide +kernel
theorem dX6_way_22 : decode cX6_way 22 = .ok (.ireturn, 1) := by decide +kernel
theorem dX6_way_23 : decode cX6_way 23 = .ok (.aload_n 0, 1) := by decide +kernel
theorem dX6_way_24 : decode cX6_way 24 = .ok (.getfield 33, 3) := by decide +kernel
theorem dX6_way_27 : decode cX6_way 27 = .ok (.lconst 1, 1) := by decide +kernel
theorem dX6_way_28 : decode cX6_way 28 = .ok (.iload_n 1, 1) := by decide +kernel
theorem dX6_way_29 : decode cX6_way 29 = .ok (.lshl, 1) := by decide +kernel
theorem dX6_way_30 : decode cX6_way 30 = .ok (.invokevirtual 177, 3) := by decide +kernel
theorem dX6_way_33 : decode cX6_way 33 = .ok (.lstore_n 3, 1) := by decide +kernel
theorem dX6_way_34 : decode cX6_way 34 = .ok (.lload_n 3, 1) := by decide +kernel
theorem dX6_way_35 : decode cX6_way 35 = .ok (.lconst 0, 1) := by decide +kernel
theorem dX6_way_36 : decode cX6_way 36 = .ok (.lcmp, 1) := by decide +kernel
theorem dX6_way_37 : decode cX6_way 37 = .ok (.ifCond .ne 5, 3) := by decide +kernel
theorem dX6_way_40 : decode cX6_way 40 = .ok (.iconst (-1), 1) := by decide +kernel
theorem dX6_way_41 : decode cX6_way 41 = .ok (.ireturn, 1) := by decide +kernel
theorem dX6_way_42 : decode cX6_way 42 = .ok (.iload_n 2, 1) := by decide +kernel
theorem dX6_way_43 : decode cX6_way 43 = .ok (.ifCond .ne 8, 3) := by decide +kernel
theorem dX6_way_46 : decode cX6_way 46 = .ok (.lload_n 3, 1) := by decide +kernel
theorem dX6_way_47 : decode cX6_way 47 = .ok (.invokestatic 123, 3) := by decide +kernel
theorem dX6_way_50 : decode cX6_way 50 = .ok (.ireturn, 1) := by decide +kernel
theorem dX6_way_51 : decode cX6_way 51 = .ok (.iload_n 2, 1) := by decide +kernel
theorem dX6_way_52 : decode cX6_way 52 = .ok (.iconst 1, 1) := by decide +kernel
theorem dX6_way_53 : decode cX6_way 53 = .ok (.if_icmp .ne 8, 3) := by decide +kernel
theorem dX6_way_56 : decode cX6_way 56 = .ok (.lload_n 3, 1) := by decide +kernel
theorem dX6_way_57 : decode cX6_way 57 = .ok (.invokestatic 159, 3) := by decide +kernel
theorem dX6_way_60 : decode cX6_way 60 = .ok (.ireturn, 1) := by decide +kernel
theorem dX6_way_61 : decode cX6_way 61 = .ok (.aload_n 0, 1) := by decide +kernel
theorem dX6_way_62 : decode cX6_way 62 = .ok (.getfield 33, 3) := by decide +kernel
theorem dX6_way_65 : decode cX6_way 65 = .ok (.lload_n 3, 1) := by decide +kernel
theorem dX6_way_66 : decode cX6_way 66 = .ok (.invokevirtual 181, 3) := by decide +kernel
theorem dX6_way_69 : decode cX6_way 69 = .ok (.ifCond .eq 7, 3) := by decide +kernel
theorem dX6_way_72 : decode cX6_way 72 = .ok (.iconst 1, 1) := by decide +kernel
theorem dX6_way_73 : decode cX6_way 73 = .ok (.goto 4, 3) := by decide +kernel
theorem dX6_way_76 : decode cX6_way 76 = .ok (.iconst 0, 1) := by decide +kernel
theorem dX6_way_77 : decode cX6_way 77 = .ok (.ireturn, 1) := by decide +kernel
theorem dX6_solutions_0 : decode cX6_solutions 0 = .ok (.iload_n 1, 1) := by decide +kernel
theorem dX6_solutions_1 : decode cX6_solutions 1 = .ok (.iconst 1, 1) := by decide +kernel
theorem dX6_solutions_2 : decode cX6_solutions 2 = .ok (.if_icmp .lt 9, 3) := by decide +kernel
theorem dX6_solutions_5 : decode cX6_solutions 5 = .ok (.iload_n 1, 1) := by decide +kernel
theorem dX6_solutions_6 : decode cX6_solutions 6 = .ok (.bipush 20, 2) := by decide +kernel
theorem dX6_solutions_8 : decode cX6_solutions 8 = .ok (.if_icmp .le 6, 3) := by decide +kernel
theorem dX6_solutions_11 : decode cX6_solutions 11 = .ok (.bipush (-2), 2) := by decide +kernel
theorem dX6_solutions_13 : decode cX6_solutions 13 = .ok (.ireturn, 1) := by decide +kernel
theorem dX6_solutions_14 : decode cX6_solutions 14 = .ok (.aload_n 0, 1) := by decide +kernel
theorem dX6_solutions_15 : decode cX6_solutions 15 = .ok (.getfield 47, 3) := by decide +kernel
theorem dX6_solutions_18 : decode cX6_solutions 18 = .ok (.aload_n 0, 1) := by decide +kernel
theorem dX6_solutions_19 : decode cX6_solutions 19 = .ok (.getfield 33, 3) := by decide +kernel
theorem dX6_solutions_22 : decode cX6_solutions 22 = .ok (.iload_n 1, 1) := by decide +kernel
theorem dX6_solutions_23 : decode cX6_solutions 23 = .ok (.invokevirtual 185, 3) := by decide +kernel
theorem dX6_solutions_26 : decode cX6_solutions 26 = .ok (.aload_n 0, 1) := by decide +kernel
theorem dX6_solutions_27 : decode cX6_solutions 27 = .ok (.getfield 47, 3) := by decide +kernel
theorem dX6_solutions_30 : decode cX6_solutions 30 = .ok (.getfield 189, 3) := by decide +kernel
theorem dX6_solutions_33 : decode cX6_solutions 33 = .ok (.ireturn, 1) := by decide +kernel
theorem dX6_nodes_0 : decode cX6_nodes 0 = .ok (.iload_n 1, 1) := by decide +kernel
theorem dX6_nodes_1 : decode cX6_nodes 1 = .ok (.iconst 1, 1) := by decide +kernel
theorem dX6_nodes_2 : decode cX6_nodes 2 = .ok (.if_icmp .lt 9, 3) := by decide +kernel
theorem dX6_nodes_5 : decode cX6_nodes 5 = .ok (.iload_n 1, 1) := by decide +kernel
theorem dX6_nodes_6 : decode cX6_nodes 6 = .ok (.bipush 20, 2) := by decide +kernel
theorem dX6_nodes_8 : decode cX6_nodes 8 = .ok (.if_icmp .le 6, 3) := by decide +kernel
theorem dX6_nodes_11 : decode cX6_nodes 11 = .ok (.bipush (-2), 2) := by decide +kernel
theorem dX6_nodes_13 : decode cX6_nodes 13 = .ok (.ireturn, 1) := by decide +kernel
theorem dX6_nodes_14 : decode cX6_nodes 14 = .ok (.aload_n 0, 1) := by decide +kernel
theorem dX6_nodes_15 : decode cX6_nodes 15 = .ok (.getfield 47, 3) := by decide +kernel
theorem dX6_nodes_18 : decode cX6_nodes 18 = .ok (.aload_n 0, 1) := by decide +kernel
theorem dX6_nodes_19 : decode cX6_nodes 19 = .ok (.getfield 33, 3) := by decide +kernel
theorem dX6_nodes_22 : decode cX6_nodes 22 = .ok (.iload_n 1, 1) := by decide +kernel
theorem dX6_nodes_23 : decode cX6_nodes 23 = .ok (.invokevirtual 185, 3) := by decide +kernel
theorem dX6_nodes_26 : decode cX6_nodes 26 = .ok (.aload_n 0, 1) := by decide +kernel
theorem dX6_nodes_27 : decode cX6_nodes 27 = .ok (.getfield 47, 3) := by decide +kernel
theorem dX6_nodes_30 : decode cX6_nodes 30 = .ok (.invokevirtual 192, 3) := by decide +kernel
theorem dX6_nodes_33 : decode cX6_nodes 33 = .ok (.ireturn, 1) := by decide +kernel
theorem dX6_solved_0 : decode cX6_solved 0 = .ok (.aload_n 0, 1) := by decide +kernel
theorem dX6_solved_1 : decode cX6_solved 1 = .ok (.getfield 27, 3) := by decide +kernel
theorem dX6_solved_4 : decode cX6_solved 4 = .ok (.iload_n 1, 1) := by decide +kernel
theorem dX6_solved_5 : decode cX6_solved 5 = .ok (.invokevirtual 115, 3) := by decide +kernel
theorem dX6_solved_8 : decode cX6_solved 8 = .ok (.ifCond .ne 6, 3) := by decide +kernel
theorem dX6_solved_11 : decode cX6_solved 11 = .ok (.bipush (-2), 2) := by decide +kernel
theorem dX6_solved_13 : decode cX6_solved 13 = .ok (.ireturn, 1) := by decide +kernel
theorem dX6_solved_14 : decode cX6_solved 14 = .ok (.aload_n 0, 1) := by decide +kernel
theorem dX6_solved_15 : decode cX6_solved 15 = .ok (.getfield 47, 3) := by decide +kernel
theorem dX6_solved_18 : decode cX6_solved 18 = .ok (.aload_n 0, 1) := by decide +kernel
theorem dX6_solved_19 : decode cX6_solved 19 = .ok (.getfield 33, 3) := by decide +kernel
theorem dX6_solved_22 : decode cX6_solved 22 = .ok (.iconst 1, 1) := by decide +kernel
theorem dX6_solved_23 : decode cX6_solved 23 = .ok (.invokevirtual 185, 3) := by decide +kernel
theorem dX6_solved_26 : decode cX6_solved 26 = .ok (.aload_n 0, 1) := by decide +kernel
theorem dX6_solved_27 : decode cX6_solved 27 = .ok (.getfield 47, 3) := by decide +kernel
theorem dX6_solved_30 : decode cX6_solved 30 = .ok (.getfield 189, 3) := by decide +kernel
theorem dX6_solved_33 : decode cX6_solved 33 = .ok (.ifCond .ne 5, 3) := by decide +kernel
theorem dX6_solved_36 : decode cX6_solved 36 = .ok (.iconst (-1), 1) := by decide +kernel
theorem dX6_solved_37 : decode cX6_solved 37 = .ok (.ireturn, 1) := by decide +kernel
theorem dX6_solved_38 : decode cX6_solved 38 = .ok (.aload_n 0, 1) := by decide +kernel
theorem dX6_solved_39 : decode cX6_solved 39 = .ok (.getfield 47, 3) := by decide +kernel
theorem dX6_solved_42 : decode cX6_solved 42 = .ok (.getfield 195, 3) := by decide +kernel
theorem dX6_solved_45 : decode cX6_solved 45 = .ok (.iload_n 1, 1) := by decide +kernel
theorem dX6_solved_46 : decode cX6_solved 46 = .ok (.lushr, 1) := by decide +kernel
theorem dX6_solved_47 : decode cX6_solved 47 = .ok (.lconst 1, 1) := by decide +kernel
theorem dX6_solved_48 : decode cX6_solved 48 = .ok (.land, 1) := by decide +kernel
theorem dX6_solved_49 : decode cX6_solved 49 = .ok (.lconst 0, 1) := by decide +kernel
theorem dX6_solved_50 : decode cX6_solved 50 = .ok (.lcmp, 1) := by decide +kernel
theorem dX6_solved_51 : decode cX6_solved 51 = .ok (.ifCond .ne 7, 3) := by decide +kernel
theorem dX6_solved_54 : decode cX6_solved 54 = .ok (.iconst 0, 1) := by decide +kernel
theorem dX6_solved_55 : decode cX6_solved 55 = .ok (.goto 4, 3) := by decide +kernel
theorem dX6_solved_58 : decode cX6_solved 58 = .ok (.iconst 1, 1) := by decide +kernel
theorem dX6_solved_59 : decode cX6_solved 59 = .ok (.ireturn, 1) := by decide +kernel
theorem dX6_grade_0 : decode cX6_grade 0 = .ok (.aload_n 0, 1) := by decide +kernel
theorem dX6_grade_1 : decode cX6_grade 1 = .ok (.getfield 40, 3) := by decide +kernel
theorem dX6_grade_4 : decode cX6_grade 4 = .ok (.invokevirtual 198, 3) := by decide +kernel
theorem dX6_grade_7 : decode cX6_grade 7 = .ok (.ireturn, 1) := by decide +kernel
theorem dX6_count_0 : decode cX6_count 0 = .ok (.iload_n 1, 1) := by decide +kernel
theorem dX6_count_1 : decode cX6_count 1 = .ok (.ifCond .lt 9, 3) := by decide +kernel
theorem dX6_count_4 : decode cX6_count 4 = .ok (.iload_n 1, 1) := by decide +kernel
theorem dX6_count_5 : decode cX6_count 5 = .ok (.bipush 15, 2) := by decide +kernel
theorem dX6_count_7 : decode cX6_count 7 = .ok (.if_icmp .le 6, 3) := by decide +kernel
theorem dX6_count_10 : decode cX6_count 10 = .ok (.bipush (-2), 2) := by decide +kernel
theorem dX6_count_12 : decode cX6_count 12 = .ok (.ireturn, 1) := by decide +kernel
theorem dX6_count_13 : decode cX6_count 13 = .ok (.iload_n 1, 1) := by decide +kernel
theorem dX6_count_14 : decode cX6_count 14 = .ok (.bipush 6, 2) := by decide +kernel
theorem dX6_count_16 : decode cX6_count 16 = .ok (.if_icmp .lt 19, 3) := by decide +kernel
theorem dX6_count_19 : decode cX6_count 19 = .ok (.iload_n 1, 1) := by decide +kernel
theorem dX6_count_20 : decode cX6_count 20 = .ok (.bipush 14, 2) := by decide +kernel
theorem dX6_count_22 : decode cX6_count 22 = .ok (.if_icmp .ge 13, 3) := by decide +kernel
theorem dX6_count_25 : decode cX6_count 25 = .ok (.aload_n 0, 1) := by decide +kernel
theorem dX6_count_26 : decode cX6_count 26 = .ok (.getfield 65, 3) := by decide +kernel
theorem dX6_count_29 : decode cX6_count 29 = .ok (.iload_n 1, 1) := by decide +kernel
theorem dX6_count_30 : decode cX6_count 30 = .ok (.bipush 6, 2) := by decide +kernel
theorem dX6_count_32 : decode cX6_count 32 = .ok (.isub, 1) := by decide +kernel
theorem dX6_count_33 : decode cX6_count 33 = .ok (.iaload, 1) := by decide +kernel
theorem dX6_count_34 : decode cX6_count 34 = .ok (.ireturn, 1) := by decide +kernel
theorem dX6_count_35 : decode cX6_count 35 = .ok (.iload_n 1, 1) := by decide +kernel
theorem dX6_count_36 : decode cX6_count 36 = .ok (.tableswitch 138 0 14 #[76, 84, 92, 100, 111, 122, 138, 138, 138, 138, 138, 138, 138, 138, 130], 76) := by decide +kernel
theorem dX6_count_112 : decode cX6_count 112 = .ok (.aload_n 0, 1) := by decide +kernel
theorem dX6_count_113 : decode cX6_count 113 = .ok (.getfield 27, 3) := by decide +kernel
theorem dX6_count_116 : decode cX6_count 116 = .ok (.getfield 201, 3) := by decide +kernel
theorem dX6_count_119 : decode cX6_count 119 = .ok (.ireturn, 1) := by decide +kernel
theorem dX6_count_120 : decode cX6_count 120 = .ok (.aload_n 0, 1) := by decide +kernel
theorem dX6_count_121 : decode cX6_count 121 = .ok (.getfield 27, 3) := by decide +kernel
theorem dX6_count_124 : decode cX6_count 124 = .ok (.getfield 204, 3) := by decide +kernel
theorem dX6_count_127 : decode cX6_count 127 = .ok (.ireturn, 1) := by decide +kernel
theorem dX6_count_128 : decode cX6_count 128 = .ok (.aload_n 0, 1) := by decide +kernel
theorem dX6_count_129 : decode cX6_count 129 = .ok (.getfield 27, 3) := by decide +kernel
theorem dX6_count_132 : decode cX6_count 132 = .ok (.getfield 101, 3) := by decide +kernel
theorem dX6_count_135 : decode cX6_count 135 = .ok (.ireturn, 1) := by decide +kernel
theorem dX6_count_136 : decode cX6_count 136 = .ok (.aload_n 0, 1) := by decide +kernel
theorem dX6_count_137 : decode cX6_count 137 = .ok (.getfield 33, 3) := by decide +kernel
theorem dX6_count_140 : decode cX6_count 140 = .ok (.getfield 112, 3) := by decide +kernel
theorem dX6_count_143 : decode cX6_count 143 = .ok (.invokestatic 123, 3) := by decide +kernel
theorem dX6_count_146 : decode cX6_count 146 = .ok (.ireturn, 1) := by decide +kernel
theorem dX6_count_147 : decode cX6_count 147 = .ok (.aload_n 0, 1) := by decide +kernel
theorem dX6_count_148 : decode cX6_count 148 = .ok (.getfield 33, 3) := by decide +kernel
theorem dX6_count_151 : decode cX6_count 151 = .ok (.getfield 108, 3) := by decide +kernel
theorem dX6_count_154 : decode cX6_count 154 = .ok (.invokestatic 123, 3) := by decide +kernel
theorem dX6_count_157 : decode cX6_count 157 = .ok (.ireturn, 1) := by decide +kernel
theorem dX6_count_158 : decode cX6_count 158 = .ok (.aload_n 0, 1) := by decide +kernel
theorem dX6_count_159 : decode cX6_count 159 = .ok (.getfield 27, 3) := by decide +kernel
theorem dX6_count_162 : decode cX6_count 162 = .ok (.invokevirtual 207, 3) := by decide +kernel
theorem dX6_count_165 : decode cX6_count 165 = .ok (.ireturn, 1) := by decide +kernel
theorem dX6_count_166 : decode cX6_count 166 = .ok (.aload_n 0, 1) := by decide +kernel
theorem dX6_count_167 : decode cX6_count 167 = .ok (.getfield 54, 3) := by decide +kernel
theorem dX6_count_170 : decode cX6_count 170 = .ok (.getfield 143, 3) := by decide +kernel
theorem dX6_count_173 : decode cX6_count 173 = .ok (.ireturn, 1) := by decide +kernel
theorem dX6_count_174 : decode cX6_count 174 = .ok (.aload_n 0, 1) := by decide +kernel
theorem dX6_count_175 : decode cX6_count 175 = .ok (.getfield 61, 3) := by decide +kernel
theorem dX6_count_178 : decode cX6_count 178 = .ok (.getfield 73, 3) := by decide +kernel
theorem dX6_count_181 : decode cX6_count 181 = .ok (.ireturn, 1) := by decide +kernel
theorem dX6_digest_0 : decode cX6_digest 0 = .ok (.ldc2_w 210, 3) := by decide +kernel
theorem dX6_digest_3 : decode cX6_digest 3 = .ok (.lstore_n 1, 1) := by decide +kernel
theorem dX6_digest_4 : decode cX6_digest 4 = .ok (.iconst 0, 1) := by decide +kernel
theorem dX6_digest_5 : decode cX6_digest 5 = .ok (.istore_n 3, 1) := by decide +kernel
theorem dX6_digest_6 : decode cX6_digest 6 = .ok (.iload_n 3, 1) := by decide +kernel
theorem dX6_digest_7 : decode cX6_digest 7 = .ok (.bipush 15, 2) := by decide +kernel
theorem dX6_digest_9 : decode cX6_digest 9 = .ok (.if_icmp .gt 22, 3) := by decide +kernel
theorem dX6_digest_12 : decode cX6_digest 12 = .ok (.ldc2_w 212, 3) := by decide +kernel
theorem dX6_digest_15 : decode cX6_digest 15 = .ok (.lload_n 1, 1) := by decide +kernel
theorem dX6_digest_16 : decode cX6_digest 16 = .ok (.lmul, 1) := by decide +kernel
theorem dX6_digest_17 : decode cX6_digest 17 = .ok (.aload_n 0, 1) := by decide +kernel
theorem dX6_digest_18 : decode cX6_digest 18 = .ok (.iload_n 3, 1) := by decide +kernel
theorem dX6_digest_19 : decode cX6_digest 19 = .ok (.invokevirtual 214, 3) := by decide +kernel
theorem dX6_digest_22 : decode cX6_digest 22 = .ok (.i2l, 1) := by decide +kernel
theorem dX6_digest_23 : decode cX6_digest 23 = .ok (.ladd, 1) := by decide +kernel
theorem dX6_digest_24 : decode cX6_digest 24 = .ok (.lstore_n 1, 1) := by decide +kernel
theorem dX6_digest_25 : decode cX6_digest 25 = .ok (.iinc 3 1, 3) := by decide +kernel
theorem dX6_digest_28 : decode cX6_digest 28 = .ok (.goto (-22), 3) := by decide +kernel
theorem dX6_digest_31 : decode cX6_digest 31 = .ok (.iconst 0, 1) := by decide +kernel
theorem dX6_digest_32 : decode cX6_digest 32 = .ok (.istore_n 3, 1) := by decide +kernel
theorem dX6_digest_33 : decode cX6_digest 33 = .ok (.iload_n 3, 1) := by decide +kernel
theorem dX6_digest_34 : decode cX6_digest 34 = .ok (.aload_n 0, 1) := by decide +kernel
theorem dX6_digest_35 : decode cX6_digest 35 = .ok (.getfield 27, 3) := by decide +kernel
theorem dX6_digest_38 : decode cX6_digest 38 = .ok (.getfield 91, 3) := by decide +kernel
theorem dX6_digest_41 : decode cX6_digest 41 = .ok (.if_icmp .ge 26, 3) := by decide +kernel
theorem dX6_digest_44 : decode cX6_digest 44 = .ok (.ldc2_w 212, 3) := by decide +kernel
theorem dX6_digest_47 : decode cX6_digest 47 = .ok (.lload_n 1, 1) := by decide +kernel
theorem dX6_digest_48 : decode cX6_digest 48 = .ok (.lmul, 1) := by decide +kernel
theorem dX6_digest_49 : decode cX6_digest 49 = .ok (.aload_n 0, 1) := by decide +kernel
theorem dX6_digest_50 : decode cX6_digest 50 = .ok (.getfield 27, 3) := by decide +kernel
theorem dX6_digest_53 : decode cX6_digest 53 = .ok (.getfield 94, 3) := by decide +kernel
theorem dX6_digest_56 : decode cX6_digest 56 = .ok (.iload_n 3, 1) := by decide +kernel
theorem dX6_digest_57 : decode cX6_digest 57 = .ok (.iaload, 1) := by decide +kernel
theorem dX6_digest_58 : decode cX6_digest 58 = .ok (.i2l, 1) := by decide +kernel
theorem dX6_digest_59 : decode cX6_digest 59 = .ok (.ladd, 1) := by decide +kernel
theorem dX6_digest_60 : decode cX6_digest 60 = .ok (.lstore_n 1, 1) := by decide +kernel
theorem dX6_digest_61 : decode cX6_digest 61 = .ok (.iinc 3 1, 3) := by decide +kernel
theorem dX6_digest_64 : decode cX6_digest 64 = .ok (.goto (-31), 3) := by decide +kernel
theorem dX6_digest_67 : decode cX6_digest 67 = .ok (.iconst 0, 1) := by decide +kernel
theorem dX6_digest_68 : decode cX6_digest 68 = .ok (.istore_n 3, 1) := by decide +kernel
theorem dX6_digest_69 : decode cX6_digest 69 = .ok (.iload_n 3, 1) := by decide +kernel
theorem dX6_digest_70 : decode cX6_digest 70 = .ok (.aload_n 0, 1) := by decide +kernel
theorem dX6_digest_71 : decode cX6_digest 71 = .ok (.getfield 27, 3) := by decide +kernel
theorem dX6_digest_74 : decode cX6_digest 74 = .ok (.getfield 101, 3) := by decide +kernel
theorem dX6_digest_77 : decode cX6_digest 77 = .ok (.if_icmp .ge 25, 3) := by decide +kernel
theorem dX6_digest_80 : decode cX6_digest 80 = .ok (.ldc2_w 212, 3) := by decide +kernel
theorem dX6_digest_83 : decode cX6_digest 83 = .ok (.lload_n 1, 1) := by decide +kernel
theorem dX6_digest_84 : decode cX6_digest 84 = .ok (.lmul, 1) := by decide +kernel
theorem dX6_digest_85 : decode cX6_digest 85 = .ok (.aload_n 0, 1) := by decide +kernel
theorem dX6_digest_86 : decode cX6_digest 86 = .ok (.getfield 33, 3) := by decide +kernel
theorem dX6_digest_89 : decode cX6_digest 89 = .ok (.iload_n 3, 1) := by decide +kernel
theorem dX6_digest_90 : decode cX6_digest 90 = .ok (.invokevirtual 118, 3) := by decide +kernel
theorem dX6_digest_93 : decode cX6_digest 93 = .ok (.i2l, 1) := by decide +kernel
theorem dX6_digest_94 : decode cX6_digest 94 = .ok (.ladd, 1) := by decide +kernel
theorem dX6_digest_95 : decode cX6_digest 95 = .ok (.lstore_n 1, 1) := by decide +kernel
theorem dX6_digest_96 : decode cX6_digest 96 = .ok (.iinc 3 1, 3) := by decide +kernel
theorem dX6_digest_99 : decode cX6_digest 99 = .ok (.goto (-30), 3) := by decide +kernel
theorem dX6_digest_102 : decode cX6_digest 102 = .ok (.iconst 0, 1) := by decide +kernel
theorem dX6_digest_103 : decode cX6_digest 103 = .ok (.istore_n 3, 1) := by decide +kernel
theorem dX6_digest_104 : decode cX6_digest 104 = .ok (.iload_n 3, 1) := by decide +kernel
theorem dX6_digest_105 : decode cX6_digest 105 = .ok (.iconst 4, 1) := by decide +kernel
theorem dX6_digest_106 : decode cX6_digest 106 = .ok (.if_icmp .gt 22, 3) := by decide +kernel
theorem dX6_digest_109 : decode cX6_digest 109 = .ok (.ldc2_w 212, 3) := by decide +kernel
theorem dX6_digest_112 : decode cX6_digest 112 = .ok (.lload_n 1, 1) := by decide +kernel
theorem dX6_digest_113 : decode cX6_digest 113 = .ok (.lmul, 1) := by decide +kernel
theorem dX6_digest_114 : decode cX6_digest 114 = .ok (.aload_n 0, 1) := by decide +kernel
theorem dX6_digest_115 : decode cX6_digest 115 = .ok (.iload_n 3, 1) := by decide +kernel
theorem dX6_digest_116 : decode cX6_digest 116 = .ok (.invokevirtual 217, 3) := by decide +kernel
theorem dX6_digest_119 : decode cX6_digest 119 = .ok (.i2l, 1) := by decide +kernel
theorem dX6_digest_120 : decode cX6_digest 120 = .ok (.ladd, 1) := by decide +kernel
theorem dX6_digest_121 : decode cX6_digest 121 = .ok (.lstore_n 1, 1) := by decide +kernel
theorem dX6_digest_122 : decode cX6_digest 122 = .ok (.iinc 3 1, 3) := by decide +kernel
theorem dX6_digest_125 : decode cX6_digest 125 = .ok (.goto (-21), 3) := by decide +kernel
theorem dX6_digest_128 : decode cX6_digest 128 = .ok (.aload_n 0, 1) := by decide +kernel
theorem dX6_digest_129 : decode cX6_digest 129 = .ok (.lload_n 1, 1) := by decide +kernel
theorem dX6_digest_130 : decode cX6_digest 130 = .ok (.invokevirtual 220, 3) := by decide +kernel
theorem dX6_digest_133 : decode cX6_digest 133 = .ok (.lstore_n 1, 1) := by decide +kernel
theorem dX6_digest_134 : decode cX6_digest 134 = .ok (.aload_n 0, 1) := by decide +kernel
theorem dX6_digest_135 : decode cX6_digest 135 = .ok (.getfield 47, 3) := by decide +kernel
theorem dX6_digest_138 : decode cX6_digest 138 = .ok (.aload_n 0, 1) := by decide +kernel
theorem dX6_digest_139 : decode cX6_digest 139 = .ok (.getfield 33, 3) := by decide +kernel
theorem dX6_digest_142 : decode cX6_digest 142 = .ok (.iconst 2, 1) := by decide +kernel
theorem dX6_digest_143 : decode cX6_digest 143 = .ok (.invokevirtual 185, 3) := by decide +kernel
theorem dX6_digest_146 : decode cX6_digest 146 = .ok (.ldc2_w 212, 3) := by decide +kernel
theorem dX6_digest_149 : decode cX6_digest 149 = .ok (.lload_n 1, 1) := by decide +kernel
theorem dX6_digest_150 : decode cX6_digest 150 = .ok (.lmul, 1) := by decide +kernel
theorem dX6_digest_151 : decode cX6_digest 151 = .ok (.aload_n 0, 1) := by decide +kernel
theorem dX6_digest_152 : decode cX6_digest 152 = .ok (.getfield 47, 3) := by decide +kernel
theorem dX6_digest_155 : decode cX6_digest 155 = .ok (.getfield 189, 3) := by decide +kernel
theorem dX6_digest_158 : decode cX6_digest 158 = .ok (.i2l, 1) := by decide +kernel
theorem dX6_digest_159 : decode cX6_digest 159 = .ok (.ladd, 1) := by decide +kernel
theorem dX6_digest_160 : decode cX6_digest 160 = .ok (.lstore_n 1, 1) := by decide +kernel
theorem dX6_digest_161 : decode cX6_digest 161 = .ok (.ldc2_w 212, 3) := by decide +kernel
theorem dX6_digest_164 : decode cX6_digest 164 = .ok (.lload_n 1, 1) := by decide +kernel
theorem dX6_digest_165 : decode cX6_digest 165 = .ok (.lmul, 1) := by decide +kernel
theorem dX6_digest_166 : decode cX6_digest 166 = .ok (.aload_n 0, 1) := by decide +kernel
theorem dX6_digest_167 : decode cX6_digest 167 = .ok (.getfield 47, 3) := by decide +kernel
theorem dX6_digest_170 : decode cX6_digest 170 = .ok (.invokevirtual 192, 3) := by decide +kernel
theorem dX6_digest_173 : decode cX6_digest 173 = .ok (.i2l, 1) := by decide +kernel
theorem dX6_digest_174 : decode cX6_digest 174 = .ok (.ladd, 1) := by decide +kernel
theorem dX6_digest_175 : decode cX6_digest 175 = .ok (.lstore_n 1, 1) := by decide +kernel
theorem dX6_digest_176 : decode cX6_digest 176 = .ok (.ldc2_w 212, 3) := by decide +kernel
theorem dX6_digest_179 : decode cX6_digest 179 = .ok (.lload_n 1, 1) := by decide +kernel
theorem dX6_digest_180 : decode cX6_digest 180 = .ok (.lmul, 1) := by decide +kernel
theorem dX6_digest_181 : decode cX6_digest 181 = .ok (.aload_n 0, 1) := by decide +kernel
theorem dX6_digest_182 : decode cX6_digest 182 = .ok (.getfield 40, 3) := by decide +kernel
theorem dX6_digest_185 : decode cX6_digest 185 = .ok (.invokevirtual 198, 3) := by decide +kernel
theorem dX6_digest_188 : decode cX6_digest 188 = .ok (.i2l, 1) := by decide +kernel
theorem dX6_digest_189 : decode cX6_digest 189 = .ok (.ladd, 1) := by decide +kernel
theorem dX6_digest_190 : decode cX6_digest 190 = .ok (.lstore_n 1, 1) := by decide +kernel
theorem dX6_digest_191 : decode cX6_digest 191 = .ok (.iconst 0, 1) := by decide +kernel
theorem dX6_digest_192 : decode cX6_digest 192 = .ok (.istore_n 3, 1) := by decide +kernel
theorem dX6_digest_193 : decode cX6_digest 193 = .ok (.iload_n 3, 1) := by decide +kernel
theorem dX6_digest_194 : decode cX6_digest 194 = .ok (.aload_n 0, 1) := by decide +kernel
theorem dX6_digest_195 : decode cX6_digest 195 = .ok (.getfield 61, 3) := by decide +kernel
theorem dX6_digest_198 : decode cX6_digest 198 = .ok (.getfield 73, 3) := by decide +kernel
theorem dX6_digest_201 : decode cX6_digest 201 = .ok (.if_icmp .ge 26, 3) := by decide +kernel
theorem dX6_digest_204 : decode cX6_digest 204 = .ok (.ldc2_w 212, 3) := by decide +kernel
theorem dX6_digest_207 : decode cX6_digest 207 = .ok (.lload_n 1, 1) := by decide +kernel
theorem dX6_digest_208 : decode cX6_digest 208 = .ok (.lmul, 1) := by decide +kernel
theorem dX6_digest_209 : decode cX6_digest 209 = .ok (.aload_n 0, 1) := by decide +kernel
theorem dX6_digest_210 : decode cX6_digest 210 = .ok (.getfield 61, 3) := by decide +kernel
theorem dX6_digest_213 : decode cX6_digest 213 = .ok (.getfield 223, 3) := by decide +kernel
theorem dX6_digest_216 : decode cX6_digest 216 = .ok (.iload_n 3, 1) := by decide +kernel
theorem dX6_digest_217 : decode cX6_digest 217 = .ok (.baload, 1) := by decide +kernel
theorem dX6_digest_218 : decode cX6_digest 218 = .ok (.i2l, 1) := by decide +kernel
theorem dX6_digest_219 : decode cX6_digest 219 = .ok (.ladd, 1) := by decide +kernel
theorem dX6_digest_220 : decode cX6_digest 220 = .ok (.lstore_n 1, 1) := by decide +kernel
theorem dX6_digest_221 : decode cX6_digest 221 = .ok (.iinc 3 1, 3) := by decide +kernel
theorem dX6_digest_224 : decode cX6_digest 224 = .ok (.goto (-31), 3) := by decide +kernel
theorem dX6_digest_227 : decode cX6_digest 227 = .ok (.lload_n 1, 1) := by decide +kernel
theorem dX6_digest_228 : decode cX6_digest 228 = .ok (.lreturn, 1) := by decide +kernel
theorem dX6_addHints_0 : decode cX6_addHints 0 = .ok (.lload_n 1, 1) := by decide +kernel
theorem dX6_addHints_1 : decode cX6_addHints 1 = .ok (.lstore_n 3, 1) := by decide +kernel
theorem dX6_addHints_2 : decode cX6_addHints 2 = .ok (.aload_n 0, 1) := by decide +kernel
theorem dX6_addHints_3 : decode cX6_addHints 3 = .ok (.getfield 33, 3) := by decide +kernel
theorem dX6_addHints_6 : decode cX6_addHints 6 = .ok (.invokevirtual 129, 3) := by decide +kernel
theorem dX6_addHints_9 : decode cX6_addHints 9 = .ok (.istore 5, 2) := by decide +kernel
theorem dX6_addHints_11 : decode cX6_addHints 11 = .ok (.iload 5, 2) := by decide +kernel
theorem dX6_addHints_13 : decode cX6_addHints 13 = .ok (.ifCond .eq 23, 3) := by decide +kernel
theorem dX6_addHints_16 : decode cX6_addHints 16 = .ok (.aload_n 0, 1) := by decide +kernel
theorem dX6_addHints_17 : decode cX6_addHints 17 = .ok (.getfield 40, 3) := by decide +kernel
theorem dX6_addHints_20 : decode cX6_addHints 20 = .ok (.aload_n 0, 1) := by decide +kernel
theorem dX6_addHints_21 : decode cX6_addHints 21 = .ok (.getfield 33, 3) := by decide +kernel
theorem dX6_addHints_24 : decode cX6_addHints 24 = .ok (.bipush 7, 2) := by decide +kernel
theorem dX6_addHints_26 : decode cX6_addHints 26 = .ok (.invokevirtual 133, 3) := by decide +kernel
theorem dX6_addHints_29 : decode cX6_addHints 29 = .ok (.ifCond .eq 7, 3) := by decide +kernel
theorem dX6_addHints_32 : decode cX6_addHints 32 = .ok (.iconst 1, 1) := by decide +kernel
theorem dX6_addHints_33 : decode cX6_addHints 33 = .ok (.goto 4, 3) := by decide +kernel
theorem dX6_addHints_36 : decode cX6_addHints 36 = .ok (.iconst 0, 1) := by decide +kernel
theorem dX6_addHints_37 : decode cX6_addHints 37 = .ok (.istore 6, 2) := by decide +kernel
theorem dX6_addHints_39 : decode cX6_addHints 39 = .ok (.iconst 0, 1) := by decide +kernel
theorem dX6_addHints_40 : decode cX6_addHints 40 = .ok (.istore 7, 2) := by decide +kernel
theorem dX6_addHints_42 : decode cX6_addHints 42 = .ok (.iload 7, 2) := by decide +kernel
theorem dX6_addHints_44 : decode cX6_addHints 44 = .ok (.iconst 3, 1) := by decide +kernel
theorem dX6_addHints_45 : decode cX6_addHints 45 = .ok (.if_icmp .gt 46, 3) := by decide +kernel
theorem dX6_addHints_48 : decode cX6_addHints 48 = .ok (.iload 6, 2) := by decide +kernel
theorem dX6_addHints_50 : decode cX6_addHints 50 = .ok (.ifCond .eq 12, 3) := by decide +kernel
theorem dX6_addHints_53 : decode cX6_addHints 53 = .ok (.aload_n 0, 1) := by decide +kernel
theorem dX6_addHints_54 : decode cX6_addHints 54 = .ok (.iload 7, 2) := by decide +kernel
theorem dX6_addHints_56 : decode cX6_addHints 56 = .ok (.invokevirtual 174, 3) := by decide +kernel
theorem dX6_addHints_59 : decode cX6_addHints 59 = .ok (.goto 14, 3) := by decide +kernel
theorem dX6_addHints_62 : decode cX6_addHints 62 = .ok (.iload 5, 2) := by decide +kernel
theorem dX6_addHints_64 : decode cX6_addHints 64 = .ok (.ifCond .eq 7, 3) := by decide +kernel
theorem dX6_addHints_67 : decode cX6_addHints 67 = .ok (.iconst (-1), 1) := by decide +kernel
theorem dX6_addHints_68 : decode cX6_addHints 68 = .ok (.goto 5, 3) := by decide +kernel
theorem dX6_addHints_71 : decode cX6_addHints 71 = .ok (.bipush (-3), 2) := by decide +kernel
theorem dX6_addHints_73 : decode cX6_addHints 73 = .ok (.istore 8, 2) := by decide +kernel
theorem dX6_addHints_75 : decode cX6_addHints 75 = .ok (.ldc2_w 212, 3) := by decide +kernel
theorem dX6_addHints_78 : decode cX6_addHints 78 = .ok (.lload_n 3, 1) := by decide +kernel
theorem dX6_addHints_79 : decode cX6_addHints 79 = .ok (.lmul, 1) := by decide +kernel
theorem dX6_addHints_80 : decode cX6_addHints 80 = .ok (.iload 8, 2) := by decide +kernel
theorem dX6_addHints_82 : decode cX6_addHints 82 = .ok (.i2l, 1) := by decide +kernel
theorem dX6_addHints_83 : decode cX6_addHints 83 = .ok (.ladd, 1) := by decide +kernel
theorem dX6_addHints_84 : decode cX6_addHints 84 = .ok (.lstore_n 3, 1) := by decide +kernel
theorem dX6_addHints_85 : decode cX6_addHints 85 = .ok (.iinc 7 1, 3) := by decide +kernel
theorem dX6_addHints_88 : decode cX6_addHints 88 = .ok (.goto (-46), 3) := by decide +kernel
theorem dX6_addHints_91 : decode cX6_addHints 91 = .ok (.lload_n 3, 1) := by decide +kernel
theorem dX6_addHints_92 : decode cX6_addHints 92 = .ok (.lreturn, 1) := by decide +kernel
theorem dX6_foundPart_0 : decode cX6_foundPart 0 = .ok (.iload_n 1, 1) := by decide +kernel
theorem dX6_foundPart_1 : decode cX6_foundPart 1 = .ok (.tableswitch 54 0 2 #[27, 35, 43], 27) := by decide +kernel
theorem dX6_foundPart_28 : decode cX6_foundPart 28 = .ok (.aload_n 0, 1) := by decide +kernel
theorem dX6_foundPart_29 : decode cX6_foundPart 29 = .ok (.getfield 33, 3) := by decide +kernel
theorem dX6_foundPart_32 : decode cX6_foundPart 32 = .ok (.getfield 140, 3) := by decide +kernel
theorem dX6_foundPart_35 : decode cX6_foundPart 35 = .ok (.ireturn, 1) := by decide +kernel
theorem dX6_foundPart_36 : decode cX6_foundPart 36 = .ok (.aload_n 0, 1) := by decide +kernel
theorem dX6_foundPart_37 : decode cX6_foundPart 37 = .ok (.getfield 33, 3) := by decide +kernel
theorem dX6_foundPart_40 : decode cX6_foundPart 40 = .ok (.getfield 227, 3) := by decide +kernel
theorem dX6_foundPart_43 : decode cX6_foundPart 43 = .ok (.ireturn, 1) := by decide +kernel
theorem dX6_foundPart_44 : decode cX6_foundPart 44 = .ok (.aload_n 0, 1) := by decide +kernel
theorem dX6_foundPart_45 : decode cX6_foundPart 45 = .ok (.getfield 33, 3) := by decide +kernel
theorem dX6_foundPart_48 : decode cX6_foundPart 48 = .ok (.getfield 140, 3) := by decide +kernel
theorem dX6_foundPart_51 : decode cX6_foundPart 51 = .ok (.invokestatic 230, 3) := by decide +kernel
theorem dX6_foundPart_54 : decode cX6_foundPart 54 = .ok (.ireturn, 1) := by decide +kernel
theorem dX6_foundPart_55 : decode cX6_foundPart 55 = .ok (.aload_n 0, 1) := by decide +kernel
theorem dX6_foundPart_56 : decode cX6_foundPart 56 = .ok (.getfield 33, 3) := by decide +kernel
theorem dX6_foundPart_59 : decode cX6_foundPart 59 = .ok (.getfield 233, 3) := by decide +kernel
theorem dX6_foundPart_62 : decode cX6_foundPart 62 = .ok (.ireturn, 1) := by decide +kernel
theorem dX6_makeFound_0 : decode cX6_makeFound 0 = .ok (.aload_n 0, 1) := by decide +kernel
theorem dX6_makeFound_1 : decode cX6_makeFound 1 = .ok (.getfield 33, 3) := by decide +kernel
theorem dX6_makeFound_4 : decode cX6_makeFound 4 = .ok (.getfield 140, 3) := by decide +kernel
theorem dX6_makeFound_7 : decode cX6_makeFound 7 = .ok (.istore_n 1, 1) := by decide +kernel
theorem dX6_makeFound_8 : decode cX6_makeFound 8 = .ok (.iload_n 1, 1) := by decide +kernel
theorem dX6_makeFound_9 : decode cX6_makeFound 9 = .ok (.ifCond .lt 19, 3) := by decide +kernel
theorem dX6_makeFound_12 : decode cX6_makeFound 12 = .ok (.iload_n 1, 1) := by decide +kernel
theorem dX6_makeFound_13 : decode cX6_makeFound 13 = .ok (.bipush 8, 2) := by decide +kernel
theorem dX6_makeFound_15 : decode cX6_makeFound 15 = .ok (.if_icmp .ge 13, 3) := by decide +kernel
theorem dX6_makeFound_18 : decode cX6_makeFound 18 = .ok (.aload_n 0, 1) := by decide +kernel
theorem dX6_makeFound_19 : decode cX6_makeFound 19 = .ok (.getfield 65, 3) := by decide +kernel
theorem dX6_makeFound_22 : decode cX6_makeFound 22 = .ok (.iload_n 1, 1) := by decide +kernel
theorem dX6_makeFound_23 : decode cX6_makeFound 23 = .ok (.dup2, 1) := by decide +kernel
theorem dX6_makeFound_24 : decode cX6_makeFound 24 = .ok (.iaload, 1) := by decide +kernel
theorem dX6_makeFound_25 : decode cX6_makeFound 25 = .ok (.iconst 1, 1) := by decide +kernel
theorem dX6_makeFound_26 : decode cX6_makeFound 26 = .ok (.iadd, 1) := by decide +kernel
theorem dX6_makeFound_27 : decode cX6_makeFound 27 = .ok (.iastore, 1) := by decide +kernel
theorem dX6_makeFound_28 : decode cX6_makeFound 28 = .ok (.aload_n 0, 1) := by decide +kernel
theorem dX6_makeFound_29 : decode cX6_makeFound 29 = .ok (.getfield 33, 3) := by decide +kernel
theorem dX6_makeFound_32 : decode cX6_makeFound 32 = .ok (.invokevirtual 236, 3) := by decide +kernel
theorem dX6_makeFound_35 : decode cX6_makeFound 35 = .ok (.return_, 1) := by decide +kernel
theorem dX6_forgetMade_0 : decode cX6_forgetMade 0 = .ok (.iconst 0, 1) := by decide +kernel
theorem dX6_forgetMade_1 : decode cX6_forgetMade 1 = .ok (.istore_n 1, 1) := by decide +kernel
theorem dX6_forgetMade_2 : decode cX6_forgetMade 2 = .ok (.iload_n 1, 1) := by decide +kernel
theorem dX6_forgetMade_3 : decode cX6_forgetMade 3 = .ok (.bipush 8, 2) := by decide +kernel
theorem dX6_forgetMade_5 : decode cX6_forgetMade 5 = .ok (.if_icmp .ge 16, 3) := by decide +kernel
theorem dX6_forgetMade_8 : decode cX6_forgetMade 8 = .ok (.aload_n 0, 1) := by decide +kernel
theorem dX6_forgetMade_9 : decode cX6_forgetMade 9 = .ok (.getfield 65, 3) := by decide +kernel
theorem dX6_forgetMade_12 : decode cX6_forgetMade 12 = .ok (.iload_n 1, 1) := by decide +kernel
theorem dX6_forgetMade_13 : decode cX6_forgetMade 13 = .ok (.iconst 0, 1) := by decide +kernel
theorem dX6_forgetMade_14 : decode cX6_forgetMade 14 = .ok (.iastore, 1) := by decide +kernel
theorem dX6_forgetMade_15 : decode cX6_forgetMade 15 = .ok (.iinc 1 1, 3) := by decide +kernel
theorem dX6_forgetMade_18 : decode cX6_forgetMade 18 = .ok (.goto (-16), 3) := by decide +kernel
theorem dX6_forgetMade_21 : decode cX6_forgetMade 21 = .ok (.return_, 1) := by decide +kernel
theorem dX6_becomes_0 : decode cX6_becomes 0 = .ok (.iload_n 0, 1) := by decide +kernel
theorem dX6_becomes_1 : decode cX6_becomes 1 = .ok (.ifCond .lt 17, 3) := by decide +kernel
theorem dX6_becomes_4 : decode cX6_becomes 4 = .ok (.iload_n 0, 1) := by decide +kernel
theorem dX6_becomes_5 : decode cX6_becomes 5 = .ok (.bipush 8, 2) := by decide +kernel
theorem dX6_becomes_7 : decode cX6_becomes 7 = .ok (.if_icmp .ge 11, 3) := by decide +kernel
theorem dX6_becomes_10 : decode cX6_becomes 10 = .ok (.getstatic 237, 3) := by decide +kernel
theorem dX6_becomes_13 : decode cX6_becomes 13 = .ok (.iload_n 0, 1) := by decide +kernel
theorem dX6_becomes_14 : decode cX6_becomes 14 = .ok (.iaload, 1) := by decide +kernel
theorem dX6_becomes_15 : decode cX6_becomes 15 = .ok (.goto 4, 3) := by decide +kernel
theorem dX6_becomes_18 : decode cX6_becomes 18 = .ok (.iconst 0, 1) := by decide +kernel
theorem dX6_becomes_19 : decode cX6_becomes 19 = .ok (.ireturn, 1) := by decide +kernel
theorem dX6_gradeOf_0 : decode cX6_gradeOf 0 = .ok (.iload_n 0, 1) := by decide +kernel
theorem dX6_gradeOf_1 : decode cX6_gradeOf 1 = .ok (.ifCond .lt 17, 3) := by decide +kernel
theorem dX6_gradeOf_4 : decode cX6_gradeOf 4 = .ok (.iload_n 0, 1) := by decide +kernel
theorem dX6_gradeOf_5 : decode cX6_gradeOf 5 = .ok (.bipush 8, 2) := by decide +kernel
theorem dX6_gradeOf_7 : decode cX6_gradeOf 7 = .ok (.if_icmp .ge 11, 3) := by decide +kernel
theorem dX6_gradeOf_10 : decode cX6_gradeOf 10 = .ok (.getstatic 240, 3) := by decide +kernel
theorem dX6_gradeOf_13 : decode cX6_gradeOf 13 = .ok (.iload_n 0, 1) := by decide +kernel
theorem dX6_gradeOf_14 : decode cX6_gradeOf 14 = .ok (.iaload, 1) := by decide +kernel
theorem dX6_gradeOf_15 : decode cX6_gradeOf 15 = .ok (.goto 4, 3) := by decide +kernel
theorem dX6_gradeOf_18 : decode cX6_gradeOf 18 = .ok (.iconst 0, 1) := by decide +kernel
theorem dX6_gradeOf_19 : decode cX6_gradeOf 19 = .ok (.ireturn, 1) := by decide +kernel
theorem dX6_leastOf_0 : decode cX6_leastOf 0 = .ok (.lload_n 0, 1) := by decide +kernel
theorem dX6_leastOf_1 : decode cX6_leastOf 1 = .ok (.lconst 0, 1) := by decide +kernel
theorem dX6_leastOf_2 : decode cX6_leastOf 2 = .ok (.lcmp, 1) := by decide +kernel
theorem dX6_leastOf_3 : decode cX6_leastOf 3 = .ok (.ifCond .ne 7, 3) := by decide +kernel
theorem dX6_leastOf_6 : decode cX6_leastOf 6 = .ok (.iconst (-1), 1) := by decide +kernel
theorem dX6_leastOf_7 : decode cX6_leastOf 7 = .ok (.goto 12, 3) := by decide +kernel
theorem dX6_leastOf_10 : decode cX6_leastOf 10 = .ok (.lload_n 0, 1) := by decide +kernel
theorem dX6_leastOf_11 : decode cX6_leastOf 11 = .ok (.lload_n 0, 1) := by decide +kernel
theorem dX6_leastOf_12 : decode cX6_leastOf 12 = .ok (.lneg, 1) := by decide +kernel
theorem dX6_leastOf_13 : decode cX6_leastOf 13 = .ok (.land, 1) := by decide +kernel
theorem dX6_leastOf_14 : decode cX6_leastOf 14 = .ok (.lconst 1, 1) := by decide +kernel
theorem dX6_leastOf_15 : decode cX6_leastOf 15 = .ok (.lsub, 1) := by decide +kernel
theorem dX6_leastOf_16 : decode cX6_leastOf 16 = .ok (.invokestatic 123, 3) := by decide +kernel
theorem dX6_leastOf_19 : decode cX6_leastOf 19 = .ok (.ireturn, 1) := by decide +kernel
theorem dX6_with_0 : decode cX6_with 0 = .ok (.iload_n 2, 1) := by decide +kernel
theorem dX6_with_1 : decode cX6_with 1 = .ok (.ifCond .eq 11, 3) := by decide +kernel
theorem dX6_with_4 : decode cX6_with 4 = .ok (.iload_n 0, 1) := by decide +kernel
theorem dX6_with_5 : decode cX6_with 5 = .ok (.iconst 1, 1) := by decide +kernel
theorem dX6_with_6 : decode cX6_with 6 = .ok (.iload_n 1, 1) := by decide +kernel
theorem dX6_with_7 : decode cX6_with 7 = .ok (.ishl, 1) := by decide +kernel
theorem dX6_with_8 : decode cX6_with 8 = .ok (.ior, 1) := by decide +kernel
theorem dX6_with_9 : decode cX6_with 9 = .ok (.goto 10, 3) := by decide +kernel
theorem dX6_with_12 : decode cX6_with 12 = .ok (.iload_n 0, 1) := by decide +kernel
theorem dX6_with_13 : decode cX6_with 13 = .ok (.iconst 1, 1) := by decide +kernel
theorem dX6_with_14 : decode cX6_with 14 = .ok (.iload_n 1, 1) := by decide +kernel
theorem dX6_with_15 : decode cX6_with 15 = .ok (.ishl, 1) := by decide +kernel
theorem dX6_with_16 : decode cX6_with 16 = .ok (.iconst (-1), 1) := by decide +kernel
theorem dX6_with_17 : decode cX6_with 17 = .ok (.ixor, 1) := by decide +kernel
theorem dX6_with_18 : decode cX6_with 18 = .ok (.iand, 1) := by decide +kernel
theorem dX6_with_19 : decode cX6_with 19 = .ok (.ireturn, 1) := by decide +kernel
theorem dX7_init_0 : decode cX7_init 0 = .ok (.aload_n 0, 1) := by decide +kernel
theorem dX7_init_1 : decode cX7_init 1 = .ok (.invokespecial 1, 3) := by decide +kernel
theorem dX7_init_4 : decode cX7_init 4 = .ok (.aload_n 0, 1) := by decide +kernel
theorem dX7_init_5 : decode cX7_init 5 = .ok (.bipush 66, 2) := by decide +kernel
theorem dX7_init_7 : decode cX7_init 7 = .ok (.newarray .int, 2) := by decide +kernel
theorem dX7_init_9 : decode cX7_init 9 = .ok (.putfield 7, 3) := by decide +kernel
theorem dX7_init_12 : decode cX7_init 12 = .ok (.aload_n 0, 1) := by decide +kernel
theorem dX7_init_13 : decode cX7_init 13 = .ok (.sipush 528, 3) := by decide +kernel
theorem dX7_init_16 : decode cX7_init 16 = .ok (.newarray .int, 2) := by decide +kernel
theorem dX7_init_18 : decode cX7_init 18 = .ok (.putfield 13, 3) := by decide +kernel
theorem dX7_init_21 : decode cX7_init 21 = .ok (.aload_n 0, 1) := by decide +kernel
theorem dX7_init_22 : decode cX7_init 22 = .ok (.bipush 40, 2) := by decide +kernel
theorem dX7_init_24 : decode cX7_init 24 = .ok (.newarray .int, 2) := by decide +kernel
theorem dX7_init_26 : decode cX7_init 26 = .ok (.putfield 16, 3) := by decide +kernel
theorem dX7_init_29 : decode cX7_init 29 = .ok (.aload_n 0, 1) := by decide +kernel
theorem dX7_init_30 : decode cX7_init 30 = .ok (.bipush 25, 2) := by decide +kernel
theorem dX7_init_32 : decode cX7_init 32 = .ok (.newarray .int, 2) := by decide +kernel
theorem dX7_init_34 : decode cX7_init 34 = .ok (.putfield 19, 3) := by decide +kernel
theorem dX7_init_37 : decode cX7_init 37 = .ok (.aload_n 0, 1) := by decide +kernel
theorem dX7_init_38 : decode cX7_init 38 = .ok (.bipush 25, 2) := by decide +kernel
theorem dX7_init_40 : decode cX7_init 40 = .ok (.newarray .int, 2) := by decide +kernel
theorem dX7_init_42 : decode cX7_init 42 = .ok (.putfield 22, 3) := by decide +kernel
theorem dX7_init_45 : decode cX7_init 45 = .ok (.aload_n 0, 1) := by decide +kernel
theorem dX7_init_46 : decode cX7_init 46 = .ok (.bipush 25, 2) := by decide +kernel
theorem dX7_init_48 : decode cX7_init 48 = .ok (.newarray .boolean, 2) := by decide +kernel
theorem dX7_init_50 : decode cX7_init 50 = .ok (.putfield 25, 3) := by decide +kernel
theorem dX7_init_53 : decode cX7_init 53 = .ok (.aload_n 0, 1) := by decide +kernel
theorem dX7_init_54 : decode cX7_init 54 = .ok (.bipush 40, 2) := by decide +kernel
theorem dX7_init_56 : decode cX7_init 56 = .ok (.newarray .int, 2) := by decide +kernel
theorem dX7_init_58 : decode cX7_init 58 = .ok (.putfield 29, 3) := by decide +kernel
theorem dX7_init_61 : decode cX7_init 61 = .ok (.aload_n 0, 1) := by decide +kernel
theorem dX7_init_62 : decode cX7_init 62 = .ok (.bipush 16, 2) := by decide +kernel
theorem dX7_init_64 : decode cX7_init 64 = .ok (.newarray .int, 2) := by decide +kernel
theorem dX7_init_66 : decode cX7_init 66 = .ok (.putfield 32, 3) := by decide +kernel
theorem dX7_init_69 : decode cX7_init 69 = .ok (.aload_n 0, 1) := by decide +kernel
theorem dX7_init_70 : decode cX7_init 70 = .ok (.sipush 1920, 3) := by decide +kernel
theorem dX7_init_73 : decode cX7_init 73 = .ok (.newarray .int, 2) := by decide +kernel
theorem dX7_init_75 : decode cX7_init 75 = .ok (.putfield 35, 3) := by decide +kernel
theorem dX7_init_78 : decode cX7_init 78 = .ok (.aload_n 0, 1) := by decide +kernel
theorem dX7_init_79 : decode cX7_init 79 = .ok (.bipush 40, 2) := by decide +kernel
theorem dX7_init_81 : decode cX7_init 81 = .ok (.newarray .int, 2) := by decide +kernel
theorem dX7_init_83 : decode cX7_init 83 = .ok (.putfield 38, 3) := by decide +kernel
theorem dX7_init_86 : decode cX7_init 86 = .ok (.aload_n 0, 1) := by decide +kernel
theorem dX7_init_87 : decode cX7_init 87 = .ok (.bipush 40, 2) := by decide +kernel
theorem dX7_init_89 : decode cX7_init 89 = .ok (.newarray .int, 2) := by decide +kernel
theorem dX7_init_91 : decode cX7_init 91 = .ok (.putfield 41, 3) := by decide +kernel
theorem dX7_init_94 : decode cX7_init 94 = .ok (.aload_n 0, 1) := by decide +kernel
theorem dX7_init_95 : decode cX7_init 95 = .ok (.getfield 7, 3) := by decide +kernel
theorem dX7_init_98 : decode cX7_init 98 = .ok (.iconst 0, 1) := by decide +kernel
theorem dX7_init_99 : decode cX7_init 99 = .ok (.iconst 3, 1) := by decide +kernel
theorem dX7_init_100 : decode cX7_init 100 = .ok (.iastore, 1) := by decide +kernel
theorem dX7_init_101 : decode cX7_init 101 = .ok (.aload_n 0, 1) := by decide +kernel
theorem dX7_init_102 : decode cX7_init 102 = .ok (.getfield 7, 3) := by decide +kernel
theorem dX7_init_105 : decode cX7_init 105 = .ok (.iconst 1, 1) := by decide +kernel
theorem dX7_init_106 : decode cX7_init 106 = .ok (.iconst 3, 1) := by decide +kernel
theorem dX7_init_107 : decode cX7_init 107 = .ok (.iastore, 1) := by decide +kernel
theorem dX7_init_108 : decode cX7_init 108 = .ok (.iconst 0, 1) := by decide +kernel
theorem dX7_init_109 : decode cX7_init 109 = .ok (.istore_n 1, 1) := by decide +kernel
theorem dX7_init_110 : decode cX7_init 110 = .ok (.iload_n 1, 1) := by decide +kernel
theorem dX7_init_111 : decode cX7_init 111 = .ok (.bipush 16, 2) := by decide +kernel
theorem dX7_init_113 : decode cX7_init 113 = .ok (.if_icmp .ge 18, 3) := by decide +kernel
theorem dX7_init_116 : decode cX7_init 116 = .ok (.aload_n 0, 1) := by decide +kernel
theorem dX7_init_117 : decode cX7_init 117 = .ok (.getfield 7, 3) := by decide +kernel
theorem dX7_init_120 : decode cX7_init 120 = .ok (.iconst 2, 1) := by decide +kernel
theorem dX7_init_121 : decode cX7_init 121 = .ok (.iload_n 1, 1) := by decide +kernel
theorem dX7_init_122 : decode cX7_init 122 = .ok (.iadd, 1) := by decide +kernel
theorem dX7_init_123 : decode cX7_init 123 = .ok (.iconst (-1), 1) := by decide +kernel
theorem dX7_init_124 : decode cX7_init 124 = .ok (.iastore, 1) := by decide +kernel
theorem dX7_init_125 : decode cX7_init 125 = .ok (.iinc 1 1, 3) := by decide +kernel
theorem dX7_init_128 : decode cX7_init 128 = .ok (.goto (-18), 3) := by decide +kernel
theorem dX7_init_131 : decode cX7_init 131 = .ok (.return_, 1) := by decide +kernel
theorem dX7_in_0 : decode cX7_in 0 = .ok (.iload_n 0, 1) := by decide +kernel
theorem dX7_in_1 : decode cX7_in 1 = .ok (.iload_n 1, 1) := by decide +kernel
theorem dX7_in_2 : decode cX7_in 2 = .ok (.if_icmp .lt 12, 3) := by decide +kernel
theorem dX7_in_5 : decode cX7_in 5 = .ok (.iload_n 0, 1) := by decide +kernel
theorem dX7_in_6 : decode cX7_in 6 = .ok (.iload_n 2, 1) := by decide +kernel
theorem dX7_in_7 : decode cX7_in 7 = .ok (.if_icmp .gt 7, 3) := by decide +kernel
theorem dX7_in_10 : decode cX7_in 10 = .ok (.iconst 1, 1) := by decide +kernel
theorem dX7_in_11 : decode cX7_in 11 = .ok (.goto 4, 3) := by decide +kernel
theorem dX7_in_14 : decode cX7_in 14 = .ok (.iconst 0, 1) := by decide +kernel
theorem dX7_in_15 : decode cX7_in 15 = .ok (.ireturn, 1) := by decide +kernel
theorem dX7_keeps_0 : decode cX7_keeps 0 = .ok (.aload_n 0, 1) := by decide +kernel
theorem dX7_keeps_1 : decode cX7_keeps 1 = .ok (.getfield 44, 3) := by decide +kernel
theorem dX7_keeps_4 : decode cX7_keeps 4 = .ok (.bipush 8, 2) := by decide +kernel
theorem dX7_keeps_6 : decode cX7_keeps 6 = .ok (.if_icmp .ne 43, 3) := by decide +kernel
theorem dX7_keeps_9 : decode cX7_keeps 9 = .ok (.iconst 0, 1) := by decide +kernel
theorem dX7_keeps_10 : decode cX7_keeps 10 = .ok (.istore_n 1, 1) := by decide +kernel
theorem dX7_keeps_11 : decode cX7_keeps 11 = .ok (.iload_n 1, 1) := by decide +kernel
theorem dX7_keeps_12 : decode cX7_keeps 12 = .ok (.sipush 462, 3) := by decide +kernel
theorem dX7_keeps_15 : decode cX7_keeps 15 = .ok (.if_icmp .ge 24, 3) := by decide +kernel
theorem dX7_keeps_18 : decode cX7_keeps 18 = .ok (.aload_n 0, 1) := by decide +kernel
theorem dX7_keeps_19 : decode cX7_keeps 19 = .ok (.getfield 13, 3) := by decide +kernel
theorem dX7_keeps_22 : decode cX7_keeps 22 = .ok (.iload_n 1, 1) := by decide +kernel
theorem dX7_keeps_23 : decode cX7_keeps 23 = .ok (.aload_n 0, 1) := by decide +kernel
theorem dX7_keeps_24 : decode cX7_keeps 24 = .ok (.getfield 13, 3) := by decide +kernel
theorem dX7_keeps_27 : decode cX7_keeps 27 = .ok (.iload_n 1, 1) := by decide +kernel
theorem dX7_keeps_28 : decode cX7_keeps 28 = .ok (.bipush 66, 2) := by decide +kernel
theorem dX7_keeps_30 : decode cX7_keeps 30 = .ok (.iadd, 1) := by decide +kernel
theorem dX7_keeps_31 : decode cX7_keeps 31 = .ok (.iaload, 1) := by decide +kernel
theorem dX7_keeps_32 : decode cX7_keeps 32 = .ok (.iastore, 1) := by decide +kernel
theorem dX7_keeps_33 : decode cX7_keeps 33 = .ok (.iinc 1 1, 3) := by decide +kernel
theorem dX7_keeps_36 : decode cX7_keeps 36 = .ok (.goto (-25), 3) := by decide +kernel
theorem dX7_keeps_39 : decode cX7_keeps 39 = .ok (.aload_n 0, 1) := by decide +kernel
theorem dX7_keeps_40 : decode cX7_keeps 40 = .ok (.dup, 1) := by decide +kernel
theorem dX7_keeps_41 : decode cX7_keeps 41 = .ok (.getfield 44, 3) := by decide +kernel
theorem dX7_keeps_44 : decode cX7_keeps 44 = .ok (.iconst 1, 1) := by decide +kernel
theorem dX7_keeps_45 : decode cX7_keeps 45 = .ok (.isub, 1) := by decide +kernel
theorem dX7_keeps_46 : decode cX7_keeps 46 = .ok (.putfield 44, 3) := by decide +kernel
theorem dX7_keeps_49 : decode cX7_keeps 49 = .ok (.iconst 0, 1) := by decide +kernel
theorem dX7_keeps_50 : decode cX7_keeps 50 = .ok (.istore_n 1, 1) := by decide +kernel
theorem dX7_keeps_51 : decode cX7_keeps 51 = .ok (.iload_n 1, 1) := by decide +kernel
theorem dX7_keeps_52 : decode cX7_keeps 52 = .ok (.bipush 66, 2) := by decide +kernel
theorem dX7_keeps_54 : decode cX7_keeps 54 = .ok (.if_icmp .ge 29, 3) := by decide +kernel
theorem dX7_keeps_57 : decode cX7_keeps 57 = .ok (.aload_n 0, 1) := by decide +kernel
theorem dX7_keeps_58 : decode cX7_keeps 58 = .ok (.getfield 13, 3) := by decide +kernel
theorem dX7_keeps_61 : decode cX7_keeps 61 = .ok (.bipush 66, 2) := by decide +kernel
theorem dX7_keeps_63 : decode cX7_keeps 63 = .ok (.aload_n 0, 1) := by decide +kernel
theorem dX7_keeps_64 : decode cX7_keeps 64 = .ok (.getfield 44, 3) := by decide +kernel
theorem dX7_keeps_67 : decode cX7_keeps 67 = .ok (.imul, 1) := by decide +kernel
theorem dX7_keeps_68 : decode cX7_keeps 68 = .ok (.iload_n 1, 1) := by decide +kernel
theorem dX7_keeps_69 : decode cX7_keeps 69 = .ok (.iadd, 1) := by decide +kernel
theorem dX7_keeps_70 : decode cX7_keeps 70 = .ok (.aload_n 0, 1) := by decide +kernel
theorem dX7_keeps_71 : decode cX7_keeps 71 = .ok (.getfield 7, 3) := by decide +kernel
theorem dX7_keeps_74 : decode cX7_keeps 74 = .ok (.iload_n 1, 1) := by decide +kernel
theorem dX7_keeps_75 : decode cX7_keeps 75 = .ok (.iaload, 1) := by decide +kernel
theorem dX7_keeps_76 : decode cX7_keeps 76 = .ok (.iastore, 1) := by decide +kernel
theorem dX7_keeps_77 : decode cX7_keeps 77 = .ok (.iinc 1 1, 3) := by decide +kernel
theorem dX7_keeps_80 : decode cX7_keeps 80 = .ok (.goto (-29), 3) := by decide +kernel
theorem dX7_keeps_83 : decode cX7_keeps 83 = .ok (.aload_n 0, 1) := by decide +kernel
theorem dX7_keeps_84 : decode cX7_keeps 84 = .ok (.dup, 1) := by decide +kernel
theorem dX7_keeps_85 : decode cX7_keeps 85 = .ok (.getfield 44, 3) := by decide +kernel
theorem dX7_keeps_88 : decode cX7_keeps 88 = .ok (.iconst 1, 1) := by decide +kernel
theorem dX7_keeps_89 : decode cX7_keeps 89 = .ok (.iadd, 1) := by decide +kernel
theorem dX7_keeps_90 : decode cX7_keeps 90 = .ok (.putfield 44, 3) := by decide +kernel
theorem dX7_keeps_93 : decode cX7_keeps 93 = .ok (.return_, 1) := by decide +kernel
theorem dX7_undo_0 : decode cX7_undo 0 = .ok (.aload_n 0, 1) := by decide +kernel
theorem dX7_undo_1 : decode cX7_undo 1 = .ok (.getfield 44, 3) := by decide +kernel
theorem dX7_undo_4 : decode cX7_undo 4 = .ok (.ifCond .ne 6, 3) := by decide +kernel
theorem dX7_undo_7 : decode cX7_undo 7 = .ok (.bipush (-3), 2) := by decide +kernel
theorem dX7_undo_9 : decode cX7_undo 9 = .ok (.ireturn, 1) := by decide +kernel
theorem dX7_undo_10 : decode cX7_undo 10 = .ok (.aload_n 0, 1) := by decide +kernel
theorem dX7_undo_11 : decode cX7_undo 11 = .ok (.dup, 1) := by decide +kernel
theorem dX7_undo_12 : decode cX7_undo 12 = .ok (.getfield 44, 3) := by decide +kernel
theorem dX7_undo_15 : decode cX7_undo 15 = .ok (.iconst 1, 1) := by decide +kernel
theorem dX7_undo_16 : decode cX7_undo 16 = .ok (.isub, 1) := by decide +kernel
theorem dX7_undo_17 : decode cX7_undo 17 = .ok (.putfield 44, 3) := by decide +kernel
theorem dX7_undo_20 : decode cX7_undo 20 = .ok (.iconst 0, 1) := by decide +kernel
theorem dX7_undo_21 : decode cX7_undo 21 = .ok (.istore_n 1, 1) := by decide +kernel
theorem dX7_undo_22 : decode cX7_undo 22 = .ok (.iload_n 1, 1) := by decide +kernel
theorem dX7_undo_23 : decode cX7_undo 23 = .ok (.bipush 66, 2) := by decide +kernel
theorem dX7_undo_25 : decode cX7_undo 25 = .ok (.if_icmp .ge 29, 3) := by decide +kernel
theorem dX7_undo_28 : decode cX7_undo 28 = .ok (.aload_n 0, 1) := by decide +kernel
theorem dX7_undo_29 : decode cX7_undo 29 = .ok (.getfield 7, 3) := by decide +kernel
theorem dX7_undo_32 : decode cX7_undo 32 = .ok (.iload_n 1, 1) := by decide +kernel
theorem dX7_undo_33 : decode cX7_undo 33 = .ok (.aload_n 0, 1) := by decide +kernel
theorem dX7_undo_34 : decode cX7_undo 34 = .ok (.getfield 13, 3) := by decide +kernel
theorem dX7_undo_37 : decode cX7_undo 37 = .ok (.bipush 66, 2) := by decide +kernel
theorem dX7_undo_39 : decode cX7_undo 39 = .ok (.aload_n 0, 1) := by decide +kernel
theorem dX7_undo_40 : decode cX7_undo 40 = .ok (.getfield 44, 3) := by decide +kernel
theorem dX7_undo_43 : decode cX7_undo 43 = .ok (.imul, 1) := by decide +kernel
theorem dX7_undo_44 : decode cX7_undo 44 = .ok (.iload_n 1, 1) := by decide +kernel
theorem dX7_undo_45 : decode cX7_undo 45 = .ok (.iadd, 1) := by decide +kernel
theorem dX7_undo_46 : decode cX7_undo 46 = .ok (.iaload, 1) := by decide +kernel
theorem dX7_undo_47 : decode cX7_undo 47 = .ok (.iastore, 1) := by decide +kernel
theorem dX7_undo_48 : decode cX7_undo 48 = .ok (.iinc 1 1, 3) := by decide +kernel
theorem dX7_undo_51 : decode cX7_undo 51 = .ok (.goto (-29), 3) := by decide +kernel
theorem dX7_undo_54 : decode cX7_undo 54 = .ok (.aload_n 0, 1) := by decide +kernel
theorem dX7_undo_55 : decode cX7_undo 55 = .ok (.getfield 44, 3) := by decide +kernel
theorem dX7_undo_58 : decode cX7_undo 58 = .ok (.ireturn, 1) := by decide +kernel
theorem dX7_cells_0 : decode cX7_cells 0 = .ok (.aload_n 0, 1) := by decide +kernel
theorem dX7_cells_1 : decode cX7_cells 1 = .ok (.getfield 7, 3) := by decide +kernel
theorem dX7_cells_4 : decode cX7_cells 4 = .ok (.iconst 0, 1) := by decide +kernel
theorem dX7_cells_5 : decode cX7_cells 5 = .ok (.iaload, 1) := by decide +kernel
theorem dX7_cells_6 : decode cX7_cells 6 = .ok (.aload_n 0, 1) := by decide +kernel
theorem dX7_cells_7 : decode cX7_cells 7 = .ok (.getfield 7, 3) := by decide +kernel
theorem dX7_cells_10 : decode cX7_cells 10 = .ok (.iconst 1, 1) := by decide +kernel
theorem dX7_cells_11 : decode cX7_cells 11 = .ok (.iaload, 1) := by decide +kernel
theorem dX7_cells_12 : decode cX7_cells 12 = .ok (.imul, 1) := by decide +kernel
theorem dX7_cells_13 : decode cX7_cells 13 = .ok (.ireturn, 1) := by decide +kernel
theorem dX7_corners_0 : decode cX7_corners 0 = .ok (.aload_n 0, 1) := by decide +kernel
theorem dX7_corners_1 : decode cX7_corners 1 = .ok (.getfield 7, 3) := by decide +kernel
theorem dX7_corners_4 : decode cX7_corners 4 = .ok (.iconst 0, 1) := by decide +kernel
theorem dX7_corners_5 : decode cX7_corners 5 = .ok (.iaload, 1) := by decide +kernel
theorem dX7_corners_6 : decode cX7_corners 6 = .ok (.iconst 1, 1) := by decide +kernel
theorem dX7_corners_7 : decode cX7_corners 7 = .ok (.iadd, 1) := by decide +kernel
theorem dX7_corners_8 : decode cX7_corners 8 = .ok (.aload_n 0, 1) := by decide +kernel
theorem dX7_corners_9 : decode cX7_corners 9 = .ok (.getfield 7, 3) := by decide +kernel
theorem dX7_corners_12 : decode cX7_corners 12 = .ok (.iconst 1, 1) := by decide +kernel
theorem dX7_corners_13 : decode cX7_corners 13 = .ok (.iaload, 1) := by decide +kernel
theorem dX7_corners_14 : decode cX7_corners 14 = .ok (.iconst 1, 1) := by decide +kernel
theorem dX7_corners_15 : decode cX7_corners 15 = .ok (.iadd, 1) := by decide +kernel
theorem dX7_corners_16 : decode cX7_corners 16 = .ok (.imul, 1) := by decide +kernel
theorem dX7_corners_17 : decode cX7_corners 17 = .ok (.ireturn, 1) := by decide +kernel
theorem dX7_vertical_0 : decode cX7_vertical 0 = .ok (.aload_n 0, 1) := by decide +kernel
theorem dX7_vertical_1 : decode cX7_vertical 1 = .ok (.getfield 7, 3) := by decide +kernel
theorem dX7_vertical_4 : decode cX7_vertical 4 = .ok (.iconst 1, 1) := by decide +kernel
theorem dX7_vertical_5 : decode cX7_vertical 5 = .ok (.iaload, 1) := by decide +kernel
theorem dX7_vertical_6 : decode cX7_vertical 6 = .ok (.iconst 1, 1) := by decide +kernel
theorem dX7_vertical_7 : decode cX7_vertical 7 = .ok (.iadd, 1) := by decide +kernel
theorem dX7_vertical_8 : decode cX7_vertical 8 = .ok (.aload_n 0, 1) := by decide +kernel
theorem dX7_vertical_9 : decode cX7_vertical 9 = .ok (.getfield 7, 3) := by decide +kernel
theorem dX7_vertical_12 : decode cX7_vertical 12 = .ok (.iconst 0, 1) := by decide +kernel
theorem dX7_vertical_13 : decode cX7_vertical 13 = .ok (.iaload, 1) := by decide +kernel
theorem dX7_vertical_14 : decode cX7_vertical 14 = .ok (.imul, 1) := by decide +kernel
theorem dX7_vertical_15 : decode cX7_vertical 15 = .ok (.ireturn, 1) := by decide +kernel
theorem dX7_edges_0 : decode cX7_edges 0 = .ok (.aload_n 0, 1) := by decide +kernel
theorem dX7_edges_1 : decode cX7_edges 1 = .ok (.invokevirtual 48, 3) := by decide +kernel
theorem dX7_edges_4 : decode cX7_edges 4 = .ok (.aload_n 0, 1) := by decide +kernel
theorem dX7_edges_5 : decode cX7_edges 5 = .ok (.getfield 7, 3) := by decide +kernel
theorem dX7_edges_8 : decode cX7_edges 8 = .ok (.iconst 1, 1) := by decide +kernel
theorem dX7_edges_9 : decode cX7_edges 9 = .ok (.iaload, 1) := by decide +kernel
theorem dX7_edges_10 : decode cX7_edges 10 = .ok (.aload_n 0, 1) := by decide +kernel
theorem dX7_edges_11 : decode cX7_edges 11 = .ok (.getfield 7, 3) := by decide +kernel
theorem dX7_edges_14 : decode cX7_edges 14 = .ok (.iconst 0, 1) := by decide +kernel
theorem dX7_edges_15 : decode cX7_edges 15 = .ok (.iaload, 1) := by decide +kernel
theorem dX7_edges_16 : decode cX7_edges 16 = .ok (.iconst 1, 1) := by decide +kernel
theorem dX7_edges_17 : decode cX7_edges 17 = .ok (.iadd, 1) := by decide +kernel
theorem dX7_edges_18 : decode cX7_edges 18 = .ok (.imul, 1) := by decide +kernel
theorem dX7_edges_19 : decode cX7_edges 19 = .ok (.iadd, 1) := by decide +kernel
theorem dX7_edges_20 : decode cX7_edges 20 = .ok (.ireturn, 1) := by decide +kernel
theorem dX7_aroundCell_0 : decode cX7_aroundCell 0 = .ok (.iload_n 1, 1) := by decide +kernel
theorem dX7_aroundCell_1 : decode cX7_aroundCell 1 = .ok (.aload_n 0, 1) := by decide +kernel
theorem dX7_aroundCell_2 : decode cX7_aroundCell 2 = .ok (.getfield 7, 3) := by decide +kernel
theorem dX7_aroundCell_5 : decode cX7_aroundCell 5 = .ok (.iconst 0, 1) := by decide +kernel
theorem dX7_aroundCell_6 : decode cX7_aroundCell 6 = .ok (.iaload, 1) := by decide +kernel
theorem dX7_aroundCell_7 : decode cX7_aroundCell 7 = .ok (.idiv, 1) := by decide +kernel
theorem dX7_aroundCell_8 : decode cX7_aroundCell 8 = .ok (.istore_n 3, 1) := by decide +kernel
theorem dX7_aroundCell_9 : decode cX7_aroundCell 9 = .ok (.iload_n 1, 1) := by decide +kernel
theorem dX7_aroundCell_10 : decode cX7_aroundCell 10 = .ok (.aload_n 0, 1) := by decide +kernel
theorem dX7_aroundCell_11 : decode cX7_aroundCell 11 = .ok (.getfield 7, 3) := by decide +kernel
theorem dX7_aroundCell_14 : decode cX7_aroundCell 14 = .ok (.iconst 0, 1) := by decide +kernel
theorem dX7_aroundCell_15 : decode cX7_aroundCell 15 = .ok (.iaload, 1) := by decide +kernel
theorem dX7_aroundCell_16 : decode cX7_aroundCell 16 = .ok (.irem, 1) := by decide +kernel
theorem dX7_aroundCell_17 : decode cX7_aroundCell 17 = .ok (.istore 4, 2) := by decide +kernel
theorem dX7_aroundCell_19 : decode cX7_aroundCell 19 = .ok (.iload_n 2, 1) := by decide +kernel
theorem dX7_aroundCell_20 : decode cX7_aroundCell 20 = .ok (.iconst 2, 1) := by decide +kernel
theorem dX7_aroundCell_21 : decode cX7_aroundCell 21 = .ok (.if_icmp .ge 19, 3) := by decide +kernel
theorem dX7_aroundCell_24 : decode cX7_aroundCell 24 = .ok (.iload_n 3, 1) := by decide +kernel
theorem dX7_aroundCell_25 : decode cX7_aroundCell 25 = .ok (.iload_n 2, 1) := by decide +kernel
theorem dX7_aroundCell_26 : decode cX7_aroundCell 26 = .ok (.iadd, 1) := by decide +kernel
theorem dX7_aroundCell_27 : decode cX7_aroundCell 27 = .ok (.aload_n 0, 1) := by decide +kernel
theorem dX7_aroundCell_28 : decode cX7_aroundCell 28 = .ok (.getfield 7, 3) := by decide +kernel
theorem dX7_aroundCell_31 : decode cX7_aroundCell 31 = .ok (.iconst 0, 1) := by decide +kernel
theorem dX7_aroundCell_32 : decode cX7_aroundCell 32 = .ok (.iaload, 1) := by decide +kernel
theorem dX7_aroundCell_33 : decode cX7_aroundCell 33 = .ok (.imul, 1) := by decide +kernel
theorem dX7_aroundCell_34 : decode cX7_aroundCell 34 = .ok (.iload 4, 2) := by decide +kernel
theorem dX7_aroundCell_36 : decode cX7_aroundCell 36 = .ok (.iadd, 1) := by decide +kernel
theorem dX7_aroundCell_37 : decode cX7_aroundCell 37 = .ok (.goto 25, 3) := by decide +kernel
theorem dX7_aroundCell_40 : decode cX7_aroundCell 40 = .ok (.aload_n 0, 1) := by decide +kernel
theorem dX7_aroundCell_41 : decode cX7_aroundCell 41 = .ok (.invokevirtual 48, 3) := by decide +kernel
theorem dX7_aroundCell_44 : decode cX7_aroundCell 44 = .ok (.iload_n 3, 1) := by decide +kernel
theorem dX7_aroundCell_45 : decode cX7_aroundCell 45 = .ok (.aload_n 0, 1) := by decide +kernel
theorem dX7_aroundCell_46 : decode cX7_aroundCell 46 = .ok (.getfield 7, 3) := by decide +kernel
theorem dX7_aroundCell_49 : decode cX7_aroundCell 49 = .ok (.iconst 0, 1) := by decide +kernel
theorem dX7_aroundCell_50 : decode cX7_aroundCell 50 = .ok (.iaload, 1) := by decide +kernel
theorem dX7_aroundCell_51 : decode cX7_aroundCell 51 = .ok (.iconst 1, 1) := by decide +kernel
theorem dX7_aroundCell_52 : decode cX7_aroundCell 52 = .ok (.iadd, 1) := by decide +kernel
theorem dX7_aroundCell_53 : decode cX7_aroundCell 53 = .ok (.imul, 1) := by decide +kernel
theorem dX7_aroundCell_54 : decode cX7_aroundCell 54 = .ok (.iadd, 1) := by decide +kernel
theorem dX7_aroundCell_55 : decode cX7_aroundCell 55 = .ok (.iload 4, 2) := by decide +kernel
theorem dX7_aroundCell_57 : decode cX7_aroundCell 57 = .ok (.iadd, 1) := by decide +kernel
theorem dX7_aroundCell_58 : decode cX7_aroundCell 58 = .ok (.iload_n 2, 1) := by decide +kernel
theorem dX7_aroundCell_59 : decode cX7_aroundCell 59 = .ok (.iadd, 1) := by decide +kernel
theorem dX7_aroundCell_60 : decode cX7_aroundCell 60 = .ok (.iconst 2, 1) := by decide +kernel
theorem dX7_aroundCell_61 : decode cX7_aroundCell 61 = .ok (.isub, 1) := by decide +kernel
theorem dX7_aroundCell_62 : decode cX7_aroundCell 62 = .ok (.ireturn, 1) := by decide +kernel
theorem dX7_toward_0 : decode cX7_toward 0 = .ok (.iload_n 1, 1) := by decide +kernel
theorem dX7_toward_1 : decode cX7_toward 1 = .ok (.aload_n 0, 1) := by decide +kernel
theorem dX7_toward_2 : decode cX7_toward 2 = .ok (.getfield 7, 3) := by decide +kernel
theorem dX7_toward_5 : decode cX7_toward 5 = .ok (.iconst 0, 1) := by decide +kernel
theorem dX7_toward_6 : decode cX7_toward 6 = .ok (.iaload, 1) := by decide +kernel
theorem dX7_toward_7 : decode cX7_toward 7 = .ok (.iconst 1, 1) := by decide +kernel
theorem dX7_toward_8 : decode cX7_toward 8 = .ok (.iadd, 1) := by decide +kernel
theorem dX7_toward_9 : decode cX7_toward 9 = .ok (.idiv, 1) := by decide +kernel
theorem dX7_toward_10 : decode cX7_toward 10 = .ok (.istore_n 3, 1) := by decide +kernel
theorem dX7_toward_11 : decode cX7_toward 11 = .ok (.iload_n 1, 1) := by decide +kernel
theorem dX7_toward_12 : decode cX7_toward 12 = .ok (.aload_n 0, 1) := by decide +kernel
theorem dX7_toward_13 : decode cX7_toward 13 = .ok (.getfield 7, 3) := by decide +kernel
theorem dX7_toward_16 : decode cX7_toward 16 = .ok (.iconst 0, 1) := by decide +kernel
theorem dX7_toward_17 : decode cX7_toward 17 = .ok (.iaload, 1) := by decide +kernel
theorem dX7_toward_18 : decode cX7_toward 18 = .ok (.iconst 1, 1) := by decide +kernel
theorem dX7_toward_19 : decode cX7_toward 19 = .ok (.iadd, 1) := by decide +kernel
theorem dX7_toward_20 : decode cX7_toward 20 = .ok (.irem, 1) := by decide +kernel
theorem dX7_toward_21 : decode cX7_toward 21 = .ok (.istore 4, 2) := by decide +kernel
theorem dX7_toward_23 : decode cX7_toward 23 = .ok (.iload_n 2, 1) := by decide +kernel
theorem dX7_toward_24 : decode cX7_toward 24 = .ok (.tableswitch 107 0 2 #[28, 51, 78], 28) := by decide +kernel
theorem dX7_toward_52 : decode cX7_toward 52 = .ok (.iload 4, 2) := by decide +kernel
theorem dX7_toward_54 : decode cX7_toward 54 = .ok (.ifCond .le 19, 3) := by decide +kernel
theorem dX7_toward_57 : decode cX7_toward 57 = .ok (.iload_n 3, 1) := by decide +kernel
theorem dX7_toward_58 : decode cX7_toward 58 = .ok (.aload_n 0, 1) := by decide +kernel
theorem dX7_toward_59 : decode cX7_toward 59 = .ok (.getfield 7, 3) := by decide +kernel
theorem dX7_toward_62 : decode cX7_toward 62 = .ok (.iconst 0, 1) := by decide +kernel
theorem dX7_toward_63 : decode cX7_toward 63 = .ok (.iaload, 1) := by decide +kernel
theorem dX7_toward_64 : decode cX7_toward 64 = .ok (.imul, 1) := by decide +kernel
theorem dX7_toward_65 : decode cX7_toward 65 = .ok (.iload 4, 2) := by decide +kernel
theorem dX7_toward_67 : decode cX7_toward 67 = .ok (.iadd, 1) := by decide +kernel
theorem dX7_toward_68 : decode cX7_toward 68 = .ok (.iconst 1, 1) := by decide +kernel
theorem dX7_toward_69 : decode cX7_toward 69 = .ok (.isub, 1) := by decide +kernel
theorem dX7_toward_70 : decode cX7_toward 70 = .ok (.goto 4, 3) := by decide +kernel
theorem dX7_toward_73 : decode cX7_toward 73 = .ok (.iconst (-1), 1) := by decide +kernel
theorem dX7_toward_74 : decode cX7_toward 74 = .ok (.ireturn, 1) := by decide +kernel
theorem dX7_toward_75 : decode cX7_toward 75 = .ok (.iload 4, 2) := by decide +kernel
theorem dX7_toward_77 : decode cX7_toward 77 = .ok (.aload_n 0, 1) := by decide +kernel
theorem dX7_toward_78 : decode cX7_toward 78 = .ok (.getfield 7, 3) := by decide +kernel
theorem dX7_toward_81 : decode cX7_toward 81 = .ok (.iconst 0, 1) := by decide +kernel
theorem dX7_toward_82 : decode cX7_toward 82 = .ok (.iaload, 1) := by decide +kernel
theorem dX7_toward_83 : decode cX7_toward 83 = .ok (.if_icmp .ge 17, 3) := by decide +kernel
theorem dX7_toward_86 : decode cX7_toward 86 = .ok (.iload_n 3, 1) := by decide +kernel
theorem dX7_toward_87 : decode cX7_toward 87 = .ok (.aload_n 0, 1) := by decide +kernel
theorem dX7_toward_88 : decode cX7_toward 88 = .ok (.getfield 7, 3) := by decide +kernel
theorem dX7_toward_91 : decode cX7_toward 91 = .ok (.iconst 0, 1) := by decide +kernel
theorem dX7_toward_92 : decode cX7_toward 92 = .ok (.iaload, 1) := by decide +kernel
theorem dX7_toward_93 : decode cX7_toward 93 = .ok (.imul, 1) := by decide +kernel
theorem dX7_toward_94 : decode cX7_toward 94 = .ok (.iload 4, 2) := by decide +kernel
theorem dX7_toward_96 : decode cX7_toward 96 = .ok (.iadd, 1) := by decide +kernel
theorem dX7_toward_97 : decode cX7_toward 97 = .ok (.goto 4, 3) := by decide +kernel
theorem dX7_toward_100 : decode cX7_toward 100 = .ok (.iconst (-1), 1) := by decide +kernel
theorem dX7_toward_101 : decode cX7_toward 101 = .ok (.ireturn, 1) := by decide +kernel
theorem dX7_toward_102 : decode cX7_toward 102 = .ok (.iload_n 3, 1) := by decide +kernel
theorem dX7_toward_103 : decode cX7_toward 103 = .ok (.ifCond .le 26, 3) := by decide +kernel
theorem dX7_toward_106 : decode cX7_toward 106 = .ok (.aload_n 0, 1) := by decide +kernel
theorem dX7_toward_107 : decode cX7_toward 107 = .ok (.invokevirtual 48, 3) := by decide +kernel
theorem dX7_toward_110 : decode cX7_toward 110 = .ok (.iload_n 3, 1) := by decide +kernel
theorem dX7_toward_111 : decode cX7_toward 111 = .ok (.iconst 1, 1) := by decide +kernel
theorem dX7_toward_112 : decode cX7_toward 112 = .ok (.isub, 1) := by decide +kernel
theorem dX7_toward_113 : decode cX7_toward 113 = .ok (.aload_n 0, 1) := by decide +kernel
theorem dX7_toward_114 : decode cX7_toward 114 = .ok (.getfield 7, 3) := by decide +kernel
theorem dX7_toward_117 : decode cX7_toward 117 = .ok (.iconst 0, 1) := by decide +kernel
theorem dX7_toward_118 : decode cX7_toward 118 = .ok (.iaload, 1) := by decide +kernel
theorem dX7_toward_119 : decode cX7_toward 119 = .ok (.iconst 1, 1) := by decide +kernel
theorem dX7_toward_120 : decode cX7_toward 120 = .ok (.iadd, 1) := by decide +kernel
theorem dX7_toward_121 : decode cX7_toward 121 = .ok (.imul, 1) := by decide +kernel
theorem dX7_toward_122 : decode cX7_toward 122 = .ok (.iadd, 1) := by decide +kernel
theorem dX7_toward_123 : decode cX7_toward 123 = .ok (.iload 4, 2) := by decide +kernel
theorem dX7_toward_125 : decode cX7_toward 125 = .ok (.iadd, 1) := by decide +kernel
theorem dX7_toward_126 : decode cX7_toward 126 = .ok (.goto 4, 3) := by decide +kernel
theorem dX7_toward_129 : decode cX7_toward 129 = .ok (.iconst (-1), 1) := by decide +kernel
theorem dX7_toward_130 : decode cX7_toward 130 = .ok (.ireturn, 1) := by decide +kernel
theorem dX7_toward_131 : decode cX7_toward 131 = .ok (.iload_n 3, 1) := by decide +kernel
theorem dX7_toward_132 : decode cX7_toward 132 = .ok (.aload_n 0, 1) := by decide +kernel
theorem dX7_toward_133 : decode cX7_toward 133 = .ok (.getfield 7, 3) := by decide +kernel
theorem dX7_toward_136 : decode cX7_toward 136 = .ok (.iconst 1, 1) := by decide +kernel
theorem dX7_toward_137 : decode cX7_toward 137 = .ok (.iaload, 1) := by decide +kernel
theorem dX7_toward_138 : decode cX7_toward 138 = .ok (.if_icmp .ge 24, 3) := by decide +kernel
theorem dX7_toward_141 : decode cX7_toward 141 = .ok (.aload_n 0, 1) := by decide +kernel
theorem dX7_toward_142 : decode cX7_toward 142 = .ok (.invokevirtual 48, 3) := by decide +kernel
theorem dX7_toward_145 : decode cX7_toward 145 = .ok (.iload_n 3, 1) := by decide +kernel
theorem dX7_toward_146 : decode cX7_toward 146 = .ok (.aload_n 0, 1) := by decide +kernel
theorem dX7_toward_147 : decode cX7_toward 147 = .ok (.getfield 7, 3) := by decide +kernel
theorem dX7_toward_150 : decode cX7_toward 150 = .ok (.iconst 0, 1) := by decide +kernel
theorem dX7_toward_151 : decode cX7_toward 151 = .ok (.iaload, 1) := by decide +kernel
theorem dX7_toward_152 : decode cX7_toward 152 = .ok (.iconst 1, 1) := by decide +kernel
theorem dX7_toward_153 : decode cX7_toward 153 = .ok (.iadd, 1) := by decide +kernel
theorem dX7_toward_154 : decode cX7_toward 154 = .ok (.imul, 1) := by decide +kernel
theorem dX7_toward_155 : decode cX7_toward 155 = .ok (.iadd, 1) := by decide +kernel
theorem dX7_toward_156 : decode cX7_toward 156 = .ok (.iload 4, 2) := by decide +kernel
theorem dX7_toward_158 : decode cX7_toward 158 = .ok (.iadd, 1) := by decide +kernel
theorem dX7_toward_159 : decode cX7_toward 159 = .ok (.goto 4, 3) := by decide +kernel
theorem dX7_toward_162 : decode cX7_toward 162 = .ok (.iconst (-1), 1) := by decide +kernel
theorem dX7_toward_163 : decode cX7_toward 163 = .ok (.ireturn, 1) := by decide +kernel
theorem dX7_end_0 : decode cX7_end 0 = .ok (.aload_n 0, 1) := by decide +kernel
theorem dX7_end_1 : decode cX7_end 1 = .ok (.invokevirtual 48, 3) := by decide +kernel
theorem dX7_end_4 : decode cX7_end 4 = .ok (.istore_n 3, 1) := by decide +kernel
theorem dX7_end_5 : decode cX7_end 5 = .ok (.iload_n 1, 1) := by decide +kernel
theorem dX7_end_6 : decode cX7_end 6 = .ok (.iload_n 3, 1) := by decide +kernel
theorem dX7_end_7 : decode cX7_end 7 = .ok (.if_icmp .ge 40, 3) := by decide +kernel
theorem dX7_end_10 : decode cX7_end 10 = .ok (.iload_n 1, 1) := by decide +kernel
theorem dX7_end_11 : decode cX7_end 11 = .ok (.aload_n 0, 1) := by decide +kernel
theorem dX7_end_12 : decode cX7_end 12 = .ok (.getfield 7, 3) := by decide +kernel
theorem dX7_end_15 : decode cX7_end 15 = .ok (.iconst 0, 1) := by decide +kernel
theorem dX7_end_16 : decode cX7_end 16 = .ok (.iaload, 1) := by decide +kernel
theorem dX7_end_17 : decode cX7_end 17 = .ok (.idiv, 1) := by decide +kernel
theorem dX7_end_18 : decode cX7_end 18 = .ok (.aload_n 0, 1) := by decide +kernel
theorem dX7_end_19 : decode cX7_end 19 = .ok (.getfield 7, 3) := by decide +kernel
theorem dX7_end_22 : decode cX7_end 22 = .ok (.iconst 0, 1) := by decide +kernel
theorem dX7_end_23 : decode cX7_end 23 = .ok (.iaload, 1) := by decide +kernel
theorem dX7_end_24 : decode cX7_end 24 = .ok (.iconst 1, 1) := by decide +kernel
theorem dX7_end_25 : decode cX7_end 25 = .ok (.iadd, 1) := by decide +kernel
theorem dX7_end_26 : decode cX7_end 26 = .ok (.imul, 1) := by decide +kernel
theorem dX7_end_27 : decode cX7_end 27 = .ok (.iload_n 1, 1) := by decide +kernel
theorem dX7_end_28 : decode cX7_end 28 = .ok (.aload_n 0, 1) := by decide +kernel
theorem dX7_end_29 : decode cX7_end 29 = .ok (.getfield 7, 3) := by decide +kernel
theorem dX7_end_32 : decode cX7_end 32 = .ok (.iconst 0, 1) := by decide +kernel
theorem dX7_end_33 : decode cX7_end 33 = .ok (.iaload, 1) := by decide +kernel
theorem dX7_end_34 : decode cX7_end 34 = .ok (.irem, 1) := by decide +kernel
theorem dX7_end_35 : decode cX7_end 35 = .ok (.iadd, 1) := by decide +kernel
theorem dX7_end_36 : decode cX7_end 36 = .ok (.iload_n 2, 1) := by decide +kernel
theorem dX7_end_37 : decode cX7_end 37 = .ok (.ifCond .eq 7, 3) := by decide +kernel
theorem dX7_end_40 : decode cX7_end 40 = .ok (.iconst 1, 1) := by decide +kernel
theorem dX7_end_41 : decode cX7_end 41 = .ok (.goto 4, 3) := by decide +kernel
theorem dX7_end_44 : decode cX7_end 44 = .ok (.iconst 0, 1) := by decide +kernel
theorem dX7_end_45 : decode cX7_end 45 = .ok (.iadd, 1) := by decide +kernel
theorem dX7_end_46 : decode cX7_end 46 = .ok (.ireturn, 1) := by decide +kernel
theorem dX7_end_47 : decode cX7_end 47 = .ok (.iload_n 1, 1) := by decide +kernel
theorem dX7_end_48 : decode cX7_end 48 = .ok (.iload_n 3, 1) := by decide +kernel
theorem dX7_end_49 : decode cX7_end 49 = .ok (.isub, 1) := by decide +kernel
theorem dX7_end_50 : decode cX7_end 50 = .ok (.iload_n 2, 1) := by decide +kernel
theorem dX7_end_51 : decode cX7_end 51 = .ok (.ifCond .eq 14, 3) := by decide +kernel
theorem dX7_end_54 : decode cX7_end 54 = .ok (.aload_n 0, 1) := by decide +kernel
theorem dX7_end_55 : decode cX7_end 55 = .ok (.getfield 7, 3) := by decide +kernel
theorem dX7_end_58 : decode cX7_end 58 = .ok (.iconst 0, 1) := by decide +kernel
theorem dX7_end_59 : decode cX7_end 59 = .ok (.iaload, 1) := by decide +kernel
theorem dX7_end_60 : decode cX7_end 60 = .ok (.iconst 1, 1) := by decide +kernel
theorem dX7_end_61 : decode cX7_end 61 = .ok (.iadd, 1) := by decide +kernel
theorem dX7_end_62 : decode cX7_end 62 = .ok (.goto 4, 3) := by decide +kernel
theorem dX7_end_65 : decode cX7_end 65 = .ok (.iconst 0, 1) := by decide +kernel
theorem dX7_end_66 : decode cX7_end 66 = .ok (.iadd, 1) := by decide +kernel
theorem dX7_end_67 : decode cX7_end 67 = .ok (.ireturn, 1) := by decide +kernel
theorem dX7_markOf_0 : decode cX7_markOf 0 = .ok (.aload_n 0, 1) := by decide +kernel
theorem dX7_markOf_1 : decode cX7_markOf 1 = .ok (.getfield 7, 3) := by decide +kernel
theorem dX7_markOf_4 : decode cX7_markOf 4 = .ok (.bipush 18, 2) := by decide +kernel
theorem dX7_markOf_6 : decode cX7_markOf 6 = .ok (.iload_n 1, 1) := by decide +kernel
theorem dX7_markOf_7 : decode cX7_markOf 7 = .ok (.iadd, 1) := by decide +kernel
theorem dX7_markOf_8 : decode cX7_markOf 8 = .ok (.iaload, 1) := by decide +kernel
theorem dX7_markOf_9 : decode cX7_markOf 9 = .ok (.ireturn, 1) := by decide +kernel
theorem dX7_aroundWith_0 : decode cX7_aroundWith 0 = .ok (.iconst 0, 1) := by decide +kernel
theorem dX7_aroundWith_1 : decode cX7_aroundWith 1 = .ok (.istore_n 3, 1) := by decide +kernel
theorem dX7_aroundWith_2 : decode cX7_aroundWith 2 = .ok (.iconst 0, 1) := by decide +kernel
theorem dX7_aroundWith_3 : decode cX7_aroundWith 3 = .ok (.istore 4, 2) := by decide +kernel
theorem dX7_aroundWith_5 : decode cX7_aroundWith 5 = .ok (.iload 4, 2) := by decide +kernel
theorem dX7_aroundWith_7 : decode cX7_aroundWith 7 = .ok (.iconst 4, 1) := by decide +kernel
theorem dX7_aroundWith_8 : decode cX7_aroundWith 8 = .ok (.if_icmp .ge 32, 3) := by decide +kernel
theorem dX7_aroundWith_11 : decode cX7_aroundWith 11 = .ok (.iload_n 3, 1) := by decide +kernel
theorem dX7_aroundWith_12 : decode cX7_aroundWith 12 = .ok (.aload_n 0, 1) := by decide +kernel
theorem dX7_aroundWith_13 : decode cX7_aroundWith 13 = .ok (.aload_n 0, 1) := by decide +kernel
theorem dX7_aroundWith_14 : decode cX7_aroundWith 14 = .ok (.iload_n 1, 1) := by decide +kernel
theorem dX7_aroundWith_15 : decode cX7_aroundWith 15 = .ok (.iload 4, 2) := by decide +kernel
theorem dX7_aroundWith_17 : decode cX7_aroundWith 17 = .ok (.invokevirtual 52, 3) := by decide +kernel
theorem dX7_aroundWith_20 : decode cX7_aroundWith 20 = .ok (.invokevirtual 56, 3) := by decide +kernel
theorem dX7_aroundWith_23 : decode cX7_aroundWith 23 = .ok (.iload_n 2, 1) := by decide +kernel
theorem dX7_aroundWith_24 : decode cX7_aroundWith 24 = .ok (.if_icmp .ne 7, 3) := by decide +kernel
theorem dX7_aroundWith_27 : decode cX7_aroundWith 27 = .ok (.iconst 1, 1) := by decide +kernel
theorem dX7_aroundWith_28 : decode cX7_aroundWith 28 = .ok (.goto 4, 3) := by decide +kernel
theorem dX7_aroundWith_31 : decode cX7_aroundWith 31 = .ok (.iconst 0, 1) := by decide +kernel
theorem dX7_aroundWith_32 : decode cX7_aroundWith 32 = .ok (.iadd, 1) := by decide +kernel
theorem dX7_aroundWith_33 : decode cX7_aroundWith 33 = .ok (.istore_n 3, 1) := by decide +kernel
theorem dX7_aroundWith_34 : decode cX7_aroundWith 34 = .ok (.iinc 4 1, 3) := by decide +kernel
theorem dX7_aroundWith_37 : decode cX7_aroundWith 37 = .ok (.goto (-32), 3) := by decide +kernel
theorem dX7_aroundWith_40 : decode cX7_aroundWith 40 = .ok (.iload_n 3, 1) := by decide +kernel
theorem dX7_aroundWith_41 : decode cX7_aroundWith 41 = .ok (.ireturn, 1) := by decide +kernel
theorem dX7_atWith_0 : decode cX7_atWith 0 = .ok (.iconst 0, 1) := by decide +kernel
theorem dX7_atWith_1 : decode cX7_atWith 1 = .ok (.istore_n 3, 1) := by decide +kernel
theorem dX7_atWith_2 : decode cX7_atWith 2 = .ok (.iconst 0, 1) := by decide +kernel
theorem dX7_atWith_3 : decode cX7_atWith 3 = .ok (.istore 4, 2) := by decide +kernel
theorem dX7_atWith_5 : decode cX7_atWith 5 = .ok (.iload 4, 2) := by decide +kernel
theorem dX7_atWith_7 : decode cX7_atWith 7 = .ok (.iconst 4, 1) := by decide +kernel
theorem dX7_atWith_8 : decode cX7_atWith 8 = .ok (.if_icmp .ge 42, 3) := by decide +kernel
theorem dX7_atWith_11 : decode cX7_atWith 11 = .ok (.aload_n 0, 1) := by decide +kernel
theorem dX7_atWith_12 : decode cX7_atWith 12 = .ok (.iload_n 1, 1) := by decide +kernel
theorem dX7_atWith_13 : decode cX7_atWith 13 = .ok (.iload 4, 2) := by decide +kernel
theorem dX7_atWith_15 : decode cX7_atWith 15 = .ok (.invokevirtual 60, 3) := by decide +kernel
theorem dX7_atWith_18 : decode cX7_atWith 18 = .ok (.istore 5, 2) := by decide +kernel
theorem dX7_atWith_20 : decode cX7_atWith 20 = .ok (.iload_n 3, 1) := by decide +kernel
theorem dX7_atWith_21 : decode cX7_atWith 21 = .ok (.iload 5, 2) := by decide +kernel
theorem dX7_atWith_23 : decode cX7_atWith 23 = .ok (.iconst (-1), 1) := by decide +kernel
theorem dX7_atWith_24 : decode cX7_atWith 24 = .ok (.if_icmp .eq 17, 3) := by decide +kernel
theorem dX7_atWith_27 : decode cX7_atWith 27 = .ok (.aload_n 0, 1) := by decide +kernel
theorem dX7_atWith_28 : decode cX7_atWith 28 = .ok (.iload 5, 2) := by decide +kernel
theorem dX7_atWith_30 : decode cX7_atWith 30 = .ok (.invokevirtual 56, 3) := by decide +kernel
theorem dX7_atWith_33 : decode cX7_atWith 33 = .ok (.iload_n 2, 1) := by decide +kernel
theorem dX7_atWith_34 : decode cX7_atWith 34 = .ok (.if_icmp .ne 7, 3) := by decide +kernel
theorem dX7_atWith_37 : decode cX7_atWith 37 = .ok (.iconst 1, 1) := by decide +kernel
theorem dX7_atWith_38 : decode cX7_atWith 38 = .ok (.goto 4, 3) := by decide +kernel
theorem dX7_atWith_41 : decode cX7_atWith 41 = .ok (.iconst 0, 1) := by decide +kernel
theorem dX7_atWith_42 : decode cX7_atWith 42 = .ok (.iadd, 1) := by decide +kernel
theorem dX7_atWith_43 : decode cX7_atWith 43 = .ok (.istore_n 3, 1) := by decide +kernel
theorem dX7_atWith_44 : decode cX7_atWith 44 = .ok (.iinc 4 1, 3) := by decide +kernel
theorem dX7_atWith_47 : decode cX7_atWith 47 = .ok (.goto (-42), 3) := by decide +kernel
theorem dX7_atWith_50 : decode cX7_atWith 50 = .ok (.iload_n 3, 1) := by decide +kernel
theorem dX7_atWith_51 : decode cX7_atWith 51 = .ok (.ireturn, 1) := by decide +kernel
theorem dX7_openAround_0 : decode cX7_openAround 0 = .ok (.iconst 0, 1) := by decide +kernel
theorem dX7_openAround_1 : decode cX7_openAround 1 = .ok (.istore_n 2, 1) := by decide +kernel
theorem dX7_openAround_2 : decode cX7_openAround 2 = .ok (.aload_n 0, 1) := by decide +kernel
theorem dX7_openAround_3 : decode cX7_openAround 3 = .ok (.aload_n 0, 1) := by decide +kernel
theorem dX7_openAround_4 : decode cX7_openAround 4 = .ok (.iload_n 1, 1) := by decide +kernel
theorem dX7_openAround_5 : decode cX7_openAround 5 = .ok (.iload_n 2, 1) := by decide +kernel
theorem dX7_openAround_6 : decode cX7_openAround 6 = .ok (.invokevirtual 52, 3) := by decide +kernel
theorem dX7_openAround_9 : decode cX7_openAround 9 = .ok (.invokevirtual 56, 3) := by decide +kernel
theorem dX7_openAround_12 : decode cX7_openAround 12 = .ok (.ifCond .eq 9, 3) := by decide +kernel
theorem dX7_openAround_15 : decode cX7_openAround 15 = .ok (.iinc 2 1, 3) := by decide +kernel
theorem dX7_openAround_18 : decode cX7_openAround 18 = .ok (.goto (-16), 3) := by decide +kernel
theorem dX7_openAround_21 : decode cX7_openAround 21 = .ok (.aload_n 0, 1) := by decide +kernel
theorem dX7_openAround_22 : decode cX7_openAround 22 = .ok (.iload_n 1, 1) := by decide +kernel
theorem dX7_openAround_23 : decode cX7_openAround 23 = .ok (.iload_n 2, 1) := by decide +kernel
theorem dX7_openAround_24 : decode cX7_openAround 24 = .ok (.invokevirtual 52, 3) := by decide +kernel
theorem dX7_openAround_27 : decode cX7_openAround 27 = .ok (.ireturn, 1) := by decide +kernel
theorem dX7_openAt_0 : decode cX7_openAt 0 = .ok (.iconst 0, 1) := by decide +kernel
theorem dX7_openAt_1 : decode cX7_openAt 1 = .ok (.istore_n 2, 1) := by decide +kernel
theorem dX7_openAt_2 : decode cX7_openAt 2 = .ok (.aload_n 0, 1) := by decide +kernel
theorem dX7_openAt_3 : decode cX7_openAt 3 = .ok (.iload_n 1, 1) := by decide +kernel
theorem dX7_openAt_4 : decode cX7_openAt 4 = .ok (.iload_n 2, 1) := by decide +kernel
theorem dX7_openAt_5 : decode cX7_openAt 5 = .ok (.invokevirtual 60, 3) := by decide +kernel
theorem dX7_openAt_8 : decode cX7_openAt 8 = .ok (.iconst (-1), 1) := by decide +kernel
theorem dX7_openAt_9 : decode cX7_openAt 9 = .ok (.if_icmp .eq 16, 3) := by decide +kernel
theorem dX7_openAt_12 : decode cX7_openAt 12 = .ok (.aload_n 0, 1) := by decide +kernel
theorem dX7_openAt_13 : decode cX7_openAt 13 = .ok (.aload_n 0, 1) := by decide +kernel
theorem dX7_openAt_14 : decode cX7_openAt 14 = .ok (.iload_n 1, 1) := by decide +kernel
theorem dX7_openAt_15 : decode cX7_openAt 15 = .ok (.iload_n 2, 1) := by decide +kernel
theorem dX7_openAt_16 : decode cX7_openAt 16 = .ok (.invokevirtual 60, 3) := by decide +kernel
theorem dX7_openAt_19 : decode cX7_openAt 19 = .ok (.invokevirtual 56, 3) := by decide +kernel
theorem dX7_openAt_22 : decode cX7_openAt 22 = .ok (.ifCond .eq 9, 3) := by decide +kernel
theorem dX7_openAt_25 : decode cX7_openAt 25 = .ok (.iinc 2 1, 3) := by decide +kernel
theorem dX7_openAt_28 : decode cX7_openAt 28 = .ok (.goto (-26), 3) := by decide +kernel
theorem dX7_openAt_31 : decode cX7_openAt 31 = .ok (.aload_n 0, 1) := by decide +kernel
theorem dX7_openAt_32 : decode cX7_openAt 32 = .ok (.iload_n 1, 1) := by decide +kernel
theorem dX7_openAt_33 : decode cX7_openAt 33 = .ok (.iload_n 2, 1) := by decide +kernel
theorem dX7_openAt_34 : decode cX7_openAt 34 = .ok (.invokevirtual 60, 3) := by decide +kernel
theorem dX7_openAt_37 : decode cX7_openAt 37 = .ok (.ireturn, 1) := by decide +kernel
theorem dX7_top_0 : decode cX7_top 0 = .ok (.iload_n 1, 1) := by decide +kernel
theorem dX7_top_1 : decode cX7_top 1 = .ok (.istore_n 2, 1) := by decide +kernel
theorem dX7_top_2 : decode cX7_top 2 = .ok (.aload_n 0, 1) := by decide +kernel
theorem dX7_top_3 : decode cX7_top 3 = .ok (.getfield 19, 3) := by decide +kernel
theorem dX7_top_6 : decode cX7_top 6 = .ok (.iload_n 2, 1) := by decide +kernel
theorem dX7_top_7 : decode cX7_top 7 = .ok (.iaload, 1) := by decide +kernel
theorem dX7_top_8 : decode cX7_top 8 = .ok (.iload_n 2, 1) := by decide +kernel
theorem dX7_top_9 : decode cX7_top 9 = .ok (.if_icmp .eq 13, 3) := by decide +kernel
theorem dX7_top_12 : decode cX7_top 12 = .ok (.aload_n 0, 1) := by decide +kernel
theorem dX7_top_13 : decode cX7_top 13 = .ok (.getfield 19, 3) := by decide +kernel
theorem dX7_top_16 : decode cX7_top 16 = .ok (.iload_n 2, 1) := by decide +kernel
theorem dX7_top_17 : decode cX7_top 17 = .ok (.iaload, 1) := by decide +kernel
theorem dX7_top_18 : decode cX7_top 18 = .ok (.istore_n 2, 1) := by decide +kernel
theorem dX7_top_19 : decode cX7_top 19 = .ok (.goto (-17), 3) := by decide +kernel
theorem dX7_top_22 : decode cX7_top 22 = .ok (.iload_n 2, 1) := by decide +kernel
theorem dX7_top_23 : decode cX7_top 23 = .ok (.ireturn, 1) := by decide +kernel
theorem dX7_joins_0 : decode cX7_joins 0 = .ok (.aload_n 0, 1) := by decide +kernel
theorem dX7_joins_1 : decode cX7_joins 1 = .ok (.invokevirtual 63, 3) := by decide +kernel
theorem dX7_joins_4 : decode cX7_joins 4 = .ok (.istore_n 1, 1) := by decide +kernel
theorem dX7_joins_5 : decode cX7_joins 5 = .ok (.iconst 0, 1) := by decide +kernel
theorem dX7_joins_6 : decode cX7_joins 6 = .ok (.istore_n 2, 1) := by decide +kernel
theorem dX7_joins_7 : decode cX7_joins 7 = .ok (.iload_n 2, 1) := by decide +kernel
theorem dX7_joins_8 : decode cX7_joins 8 = .ok (.iload_n 1, 1) := by decide +kernel
theorem dX7_joins_9 : decode cX7_joins 9 = .ok (.if_icmp .ge 30, 3) := by decide +kernel
theorem dX7_joins_12 : decode cX7_joins 12 = .ok (.aload_n 0, 1) := by decide +kernel
theorem dX7_joins_13 : decode cX7_joins 13 = .ok (.getfield 19, 3) := by decide +kernel
theorem dX7_joins_16 : decode cX7_joins 16 = .ok (.iload_n 2, 1) := by decide +kernel
theorem dX7_joins_17 : decode cX7_joins 17 = .ok (.iload_n 2, 1) := by decide +kernel
theorem dX7_joins_18 : decode cX7_joins 18 = .ok (.iastore, 1) := by decide +kernel
theorem dX7_joins_19 : decode cX7_joins 19 = .ok (.aload_n 0, 1) := by decide +kernel
theorem dX7_joins_20 : decode cX7_joins 20 = .ok (.getfield 22, 3) := by decide +kernel
theorem dX7_joins_23 : decode cX7_joins 23 = .ok (.iload_n 2, 1) := by decide +kernel
theorem dX7_joins_24 : decode cX7_joins 24 = .ok (.iconst 0, 1) := by decide +kernel
theorem dX7_joins_25 : decode cX7_joins 25 = .ok (.iastore, 1) := by decide +kernel
theorem dX7_joins_26 : decode cX7_joins 26 = .ok (.aload_n 0, 1) := by decide +kernel
theorem dX7_joins_27 : decode cX7_joins 27 = .ok (.getfield 25, 3) := by decide +kernel
theorem dX7_joins_30 : decode cX7_joins 30 = .ok (.iload_n 2, 1) := by decide +kernel
theorem dX7_joins_31 : decode cX7_joins 31 = .ok (.iconst 0, 1) := by decide +kernel
theorem dX7_joins_32 : decode cX7_joins 32 = .ok (.bastore, 1) := by decide +kernel
theorem dX7_joins_33 : decode cX7_joins 33 = .ok (.iinc 2 1, 3) := by decide +kernel
theorem dX7_joins_36 : decode cX7_joins 36 = .ok (.goto (-29), 3) := by decide +kernel
theorem dX7_joins_39 : decode cX7_joins 39 = .ok (.aload_n 0, 1) := by decide +kernel
theorem dX7_joins_40 : decode cX7_joins 40 = .ok (.iconst 0, 1) := by decide +kernel
theorem dX7_joins_41 : decode cX7_joins 41 = .ok (.putfield 66, 3) := by decide +kernel
theorem dX7_joins_44 : decode cX7_joins 44 = .ok (.aload_n 0, 1) := by decide +kernel
theorem dX7_joins_45 : decode cX7_joins 45 = .ok (.invokevirtual 69, 3) := by decide +kernel
theorem dX7_joins_48 : decode cX7_joins 48 = .ok (.istore_n 2, 1) := by decide +kernel
theorem dX7_joins_49 : decode cX7_joins 49 = .ok (.iconst 0, 1) := by decide +kernel
theorem dX7_joins_50 : decode cX7_joins 50 = .ok (.istore_n 3, 1) := by decide +kernel
theorem dX7_joins_51 : decode cX7_joins 51 = .ok (.iload_n 3, 1) := by decide +kernel
theorem dX7_joins_52 : decode cX7_joins 52 = .ok (.iload_n 2, 1) := by decide +kernel
theorem dX7_joins_53 : decode cX7_joins 53 = .ok (.if_icmp .ge 85, 3) := by decide +kernel
theorem dX7_joins_56 : decode cX7_joins 56 = .ok (.aload_n 0, 1) := by decide +kernel
theorem dX7_joins_57 : decode cX7_joins 57 = .ok (.iload_n 3, 1) := by decide +kernel
theorem dX7_joins_58 : decode cX7_joins 58 = .ok (.invokevirtual 56, 3) := by decide +kernel
theorem dX7_joins_61 : decode cX7_joins 61 = .ok (.iconst 1, 1) := by decide +kernel
theorem dX7_joins_62 : decode cX7_joins 62 = .ok (.if_icmp .ne 70, 3) := by decide +kernel
theorem dX7_joins_65 : decode cX7_joins 65 = .ok (.aload_n 0, 1) := by decide +kernel
theorem dX7_joins_66 : decode cX7_joins 66 = .ok (.aload_n 0, 1) := by decide +kernel
theorem dX7_joins_67 : decode cX7_joins 67 = .ok (.iload_n 3, 1) := by decide +kernel
theorem dX7_joins_68 : decode cX7_joins 68 = .ok (.iconst 0, 1) := by decide +kernel
theorem dX7_joins_69 : decode cX7_joins 69 = .ok (.invokevirtual 72, 3) := by decide +kernel
theorem dX7_joins_72 : decode cX7_joins 72 = .ok (.invokevirtual 76, 3) := by decide +kernel
theorem dX7_joins_75 : decode cX7_joins 75 = .ok (.istore 4, 2) := by decide +kernel
theorem dX7_joins_77 : decode cX7_joins 77 = .ok (.aload_n 0, 1) := by decide +kernel
theorem dX7_joins_78 : decode cX7_joins 78 = .ok (.aload_n 0, 1) := by decide +kernel
theorem dX7_joins_79 : decode cX7_joins 79 = .ok (.iload_n 3, 1) := by decide +kernel
theorem dX7_joins_80 : decode cX7_joins 80 = .ok (.iconst 1, 1) := by decide +kernel
theorem dX7_joins_81 : decode cX7_joins 81 = .ok (.invokevirtual 72, 3) := by decide +kernel
theorem dX7_joins_84 : decode cX7_joins 84 = .ok (.invokevirtual 76, 3) := by decide +kernel
theorem dX7_joins_87 : decode cX7_joins 87 = .ok (.istore 5, 2) := by decide +kernel
theorem dX7_joins_89 : decode cX7_joins 89 = .ok (.aload_n 0, 1) := by decide +kernel
theorem dX7_joins_90 : decode cX7_joins 90 = .ok (.getfield 19, 3) := by decide +kernel
theorem dX7_joins_93 : decode cX7_joins 93 = .ok (.iload 4, 2) := by decide +kernel
theorem dX7_joins_95 : decode cX7_joins 95 = .ok (.iload 5, 2) := by decide +kernel
theorem dX7_joins_97 : decode cX7_joins 97 = .ok (.if_icmp .le 8, 3) := by decide +kernel
theorem dX7_joins_100 : decode cX7_joins 100 = .ok (.iload 4, 2) := by decide +kernel
theorem dX7_joins_102 : decode cX7_joins 102 = .ok (.goto 5, 3) := by decide +kernel
theorem dX7_joins_105 : decode cX7_joins 105 = .ok (.iload 5, 2) := by decide +kernel
theorem dX7_joins_107 : decode cX7_joins 107 = .ok (.iload 4, 2) := by decide +kernel
theorem dX7_joins_109 : decode cX7_joins 109 = .ok (.iload 5, 2) := by decide +kernel
theorem dX7_joins_111 : decode cX7_joins 111 = .ok (.if_icmp .le 8, 3) := by decide +kernel
theorem dX7_joins_114 : decode cX7_joins 114 = .ok (.iload 5, 2) := by decide +kernel
theorem dX7_joins_116 : decode cX7_joins 116 = .ok (.goto 5, 3) := by decide +kernel
theorem dX7_joins_119 : decode cX7_joins 119 = .ok (.iload 4, 2) := by decide +kernel
theorem dX7_joins_121 : decode cX7_joins 121 = .ok (.iastore, 1) := by decide +kernel
theorem dX7_joins_122 : decode cX7_joins 122 = .ok (.aload_n 0, 1) := by decide +kernel
theorem dX7_joins_123 : decode cX7_joins 123 = .ok (.dup, 1) := by decide +kernel
theorem dX7_joins_124 : decode cX7_joins 124 = .ok (.getfield 66, 3) := by decide +kernel
theorem dX7_joins_127 : decode cX7_joins 127 = .ok (.iconst 1, 1) := by decide +kernel
theorem dX7_joins_128 : decode cX7_joins 128 = .ok (.iadd, 1) := by decide +kernel
theorem dX7_joins_129 : decode cX7_joins 129 = .ok (.putfield 66, 3) := by decide +kernel
theorem dX7_joins_132 : decode cX7_joins 132 = .ok (.iinc 3 1, 3) := by decide +kernel
theorem dX7_joins_135 : decode cX7_joins 135 = .ok (.goto (-84), 3) := by decide +kernel
theorem dX7_joins_138 : decode cX7_joins 138 = .ok (.iconst 0, 1) := by decide +kernel
theorem dX7_joins_139 : decode cX7_joins 139 = .ok (.istore_n 3, 1) := by decide +kernel
theorem dX7_joins_140 : decode cX7_joins 140 = .ok (.iload_n 3, 1) := by decide +kernel
theorem dX7_joins_141 : decode cX7_joins 141 = .ok (.iload_n 2, 1) := by decide +kernel
theorem dX7_joins_142 : decode cX7_joins 142 = .ok (.if_icmp .ge 37, 3) := by decide +kernel
theorem dX7_joins_145 : decode cX7_joins 145 = .ok (.aload_n 0, 1) := by decide +kernel
theorem dX7_joins_146 : decode cX7_joins 146 = .ok (.iload_n 3, 1) := by decide +kernel
theorem dX7_joins_147 : decode cX7_joins 147 = .ok (.invokevirtual 56, 3) := by decide +kernel
theorem dX7_joins_150 : decode cX7_joins 150 = .ok (.iconst 1, 1) := by decide +kernel
theorem dX7_joins_151 : decode cX7_joins 151 = .ok (.if_icmp .ne 22, 3) := by decide +kernel
theorem dX7_joins_154 : decode cX7_joins 154 = .ok (.aload_n 0, 1) := by decide +kernel
theorem dX7_joins_155 : decode cX7_joins 155 = .ok (.getfield 22, 3) := by decide +kernel
theorem dX7_joins_158 : decode cX7_joins 158 = .ok (.aload_n 0, 1) := by decide +kernel
theorem dX7_joins_159 : decode cX7_joins 159 = .ok (.aload_n 0, 1) := by decide +kernel
theorem dX7_joins_160 : decode cX7_joins 160 = .ok (.iload_n 3, 1) := by decide +kernel
theorem dX7_joins_161 : decode cX7_joins 161 = .ok (.iconst 0, 1) := by decide +kernel
theorem dX7_joins_162 : decode cX7_joins 162 = .ok (.invokevirtual 72, 3) := by decide +kernel
theorem dX7_joins_165 : decode cX7_joins 165 = .ok (.invokevirtual 76, 3) := by decide +kernel
theorem dX7_joins_168 : decode cX7_joins 168 = .ok (.dup2, 1) := by decide +kernel
theorem dX7_joins_169 : decode cX7_joins 169 = .ok (.iaload, 1) := by decide +kernel
theorem dX7_joins_170 : decode cX7_joins 170 = .ok (.iconst 1, 1) := by decide +kernel
theorem dX7_joins_171 : decode cX7_joins 171 = .ok (.iadd, 1) := by decide +kernel
theorem dX7_joins_172 : decode cX7_joins 172 = .ok (.iastore, 1) := by decide +kernel
theorem dX7_joins_173 : decode cX7_joins 173 = .ok (.iinc 3 1, 3) := by decide +kernel
theorem dX7_joins_176 : decode cX7_joins 176 = .ok (.goto (-36), 3) := by decide +kernel
theorem dX7_joins_179 : decode cX7_joins 179 = .ok (.iconst 0, 1) := by decide +kernel
theorem dX7_joins_180 : decode cX7_joins 180 = .ok (.istore_n 3, 1) := by decide +kernel
theorem dX7_joins_181 : decode cX7_joins 181 = .ok (.iload_n 3, 1) := by decide +kernel
theorem dX7_joins_182 : decode cX7_joins 182 = .ok (.iload_n 1, 1) := by decide +kernel
theorem dX7_joins_183 : decode cX7_joins 183 = .ok (.if_icmp .ge 56, 3) := by decide +kernel
theorem dX7_joins_186 : decode cX7_joins 186 = .ok (.aload_n 0, 1) := by decide +kernel
theorem dX7_joins_187 : decode cX7_joins 187 = .ok (.iload_n 3, 1) := by decide +kernel
theorem dX7_joins_188 : decode cX7_joins 188 = .ok (.iconst 1, 1) := by decide +kernel
theorem dX7_joins_189 : decode cX7_joins 189 = .ok (.invokevirtual 79, 3) := by decide +kernel
theorem dX7_joins_192 : decode cX7_joins 192 = .ok (.istore 4, 2) := by decide +kernel
theorem dX7_joins_194 : decode cX7_joins 194 = .ok (.aload_n 0, 1) := by decide +kernel
theorem dX7_joins_195 : decode cX7_joins 195 = .ok (.getfield 25, 3) := by decide +kernel
theorem dX7_joins_198 : decode cX7_joins 198 = .ok (.aload_n 0, 1) := by decide +kernel
theorem dX7_joins_199 : decode cX7_joins 199 = .ok (.iload_n 3, 1) := by decide +kernel
theorem dX7_joins_200 : decode cX7_joins 200 = .ok (.invokevirtual 76, 3) := by decide +kernel
theorem dX7_joins_203 : decode cX7_joins 203 = .ok (.aload_n 0, 1) := by decide +kernel
theorem dX7_joins_204 : decode cX7_joins 204 = .ok (.getfield 25, 3) := by decide +kernel
theorem dX7_joins_207 : decode cX7_joins 207 = .ok (.aload_n 0, 1) := by decide +kernel
theorem dX7_joins_208 : decode cX7_joins 208 = .ok (.iload_n 3, 1) := by decide +kernel
theorem dX7_joins_209 : decode cX7_joins 209 = .ok (.invokevirtual 76, 3) := by decide +kernel
theorem dX7_joins_212 : decode cX7_joins 212 = .ok (.baload, 1) := by decide +kernel
theorem dX7_joins_213 : decode cX7_joins 213 = .ok (.ifCond .ne 14, 3) := by decide +kernel
theorem dX7_joins_216 : decode cX7_joins 216 = .ok (.iload 4, 2) := by decide +kernel
theorem dX7_joins_218 : decode cX7_joins 218 = .ok (.ifCond .eq 13, 3) := by decide +kernel
theorem dX7_joins_221 : decode cX7_joins 221 = .ok (.iload 4, 2) := by decide +kernel
theorem dX7_joins_223 : decode cX7_joins 223 = .ok (.iconst 2, 1) := by decide +kernel
theorem dX7_joins_224 : decode cX7_joins 224 = .ok (.if_icmp .eq 7, 3) := by decide +kernel
theorem dX7_joins_227 : decode cX7_joins 227 = .ok (.iconst 1, 1) := by decide +kernel
theorem dX7_joins_228 : decode cX7_joins 228 = .ok (.goto 4, 3) := by decide +kernel
theorem dX7_joins_231 : decode cX7_joins 231 = .ok (.iconst 0, 1) := by decide +kernel
theorem dX7_joins_232 : decode cX7_joins 232 = .ok (.bastore, 1) := by decide +kernel
theorem dX7_joins_233 : decode cX7_joins 233 = .ok (.iinc 3 1, 3) := by decide +kernel
theorem dX7_joins_236 : decode cX7_joins 236 = .ok (.goto (-55), 3) := by decide +kernel
theorem dX7_joins_239 : decode cX7_joins 239 = .ok (.return_, 1) := by decide +kernel
theorem dX7_isRing_0 : decode cX7_isRing 0 = .ok (.aload_n 0, 1) := by decide +kernel
theorem dX7_isRing_1 : decode cX7_isRing 1 = .ok (.getfield 22, 3) := by decide +kernel
theorem dX7_isRing_4 : decode cX7_isRing 4 = .ok (.iload_n 1, 1) := by decide +kernel
theorem dX7_isRing_5 : decode cX7_isRing 5 = .ok (.iaload, 1) := by decide +kernel
theorem dX7_isRing_6 : decode cX7_isRing 6 = .ok (.ifCond .le 16, 3) := by decide +kernel
theorem dX7_isRing_9 : decode cX7_isRing 9 = .ok (.aload_n 0, 1) := by decide +kernel
theorem dX7_isRing_10 : decode cX7_isRing 10 = .ok (.getfield 25, 3) := by decide +kernel
theorem dX7_isRing_13 : decode cX7_isRing 13 = .ok (.iload_n 1, 1) := by decide +kernel
theorem dX7_isRing_14 : decode cX7_isRing 14 = .ok (.baload, 1) := by decide +kernel
theorem dX7_isRing_15 : decode cX7_isRing 15 = .ok (.ifCond .ne 7, 3) := by decide +kernel
theorem dX7_isRing_18 : decode cX7_isRing 18 = .ok (.iconst 1, 1) := by decide +kernel
theorem dX7_isRing_19 : decode cX7_isRing 19 = .ok (.goto 4, 3) := by decide +kernel
theorem dX7_isRing_22 : decode cX7_isRing 22 = .ok (.iconst 0, 1) := by decide +kernel
theorem dX7_isRing_23 : decode cX7_isRing 23 = .ok (.ireturn, 1) := by decide +kernel
theorem dX7_areMet_0 : decode cX7_areMet 0 = .ok (.iconst 1, 1) := by decide +kernel
theorem dX7_areMet_1 : decode cX7_areMet 1 = .ok (.istore_n 1, 1) := by decide +kernel
theorem dX7_areMet_2 : decode cX7_areMet 2 = .ok (.iconst 0, 1) := by decide +kernel
theorem dX7_areMet_3 : decode cX7_areMet 3 = .ok (.istore_n 2, 1) := by decide +kernel
theorem dX7_areMet_4 : decode cX7_areMet 4 = .ok (.iload_n 2, 1) := by decide +kernel
theorem dX7_areMet_5 : decode cX7_areMet 5 = .ok (.aload_n 0, 1) := by decide +kernel
theorem dX7_areMet_6 : decode cX7_areMet 6 = .ok (.invokevirtual 82, 3) := by decide +kernel
theorem dX7_areMet_9 : decode cX7_areMet 9 = .ok (.if_icmp .ge 48, 3) := by decide +kernel
theorem dX7_areMet_12 : decode cX7_areMet 12 = .ok (.iload_n 1, 1) := by decide +kernel
theorem dX7_areMet_13 : decode cX7_areMet 13 = .ok (.ifCond .eq 44, 3) := by decide +kernel
theorem dX7_areMet_16 : decode cX7_areMet 16 = .ok (.aload_n 0, 1) := by decide +kernel
theorem dX7_areMet_17 : decode cX7_areMet 17 = .ok (.getfield 7, 3) := by decide +kernel
theorem dX7_areMet_20 : decode cX7_areMet 20 = .ok (.iconst 2, 1) := by decide +kernel
theorem dX7_areMet_21 : decode cX7_areMet 21 = .ok (.iload_n 2, 1) := by decide +kernel
theorem dX7_areMet_22 : decode cX7_areMet 22 = .ok (.iadd, 1) := by decide +kernel
theorem dX7_areMet_23 : decode cX7_areMet 23 = .ok (.iaload, 1) := by decide +kernel
theorem dX7_areMet_24 : decode cX7_areMet 24 = .ok (.iconst (-1), 1) := by decide +kernel
theorem dX7_areMet_25 : decode cX7_areMet 25 = .ok (.if_icmp .eq 20, 3) := by decide +kernel
theorem dX7_areMet_28 : decode cX7_areMet 28 = .ok (.aload_n 0, 1) := by decide +kernel
theorem dX7_areMet_29 : decode cX7_areMet 29 = .ok (.iload_n 2, 1) := by decide +kernel
theorem dX7_areMet_30 : decode cX7_areMet 30 = .ok (.iconst 1, 1) := by decide +kernel
theorem dX7_areMet_31 : decode cX7_areMet 31 = .ok (.invokevirtual 85, 3) := by decide +kernel
theorem dX7_areMet_34 : decode cX7_areMet 34 = .ok (.aload_n 0, 1) := by decide +kernel
theorem dX7_areMet_35 : decode cX7_areMet 35 = .ok (.getfield 7, 3) := by decide +kernel
theorem dX7_areMet_38 : decode cX7_areMet 38 = .ok (.iconst 2, 1) := by decide +kernel
theorem dX7_areMet_39 : decode cX7_areMet 39 = .ok (.iload_n 2, 1) := by decide +kernel
theorem dX7_areMet_40 : decode cX7_areMet 40 = .ok (.iadd, 1) := by decide +kernel
theorem dX7_areMet_41 : decode cX7_areMet 41 = .ok (.iaload, 1) := by decide +kernel
theorem dX7_areMet_42 : decode cX7_areMet 42 = .ok (.if_icmp .ne 7, 3) := by decide +kernel
theorem dX7_areMet_45 : decode cX7_areMet 45 = .ok (.iconst 1, 1) := by decide +kernel
theorem dX7_areMet_46 : decode cX7_areMet 46 = .ok (.goto 4, 3) := by decide +kernel
theorem dX7_areMet_49 : decode cX7_areMet 49 = .ok (.iconst 0, 1) := by decide +kernel
theorem dX7_areMet_50 : decode cX7_areMet 50 = .ok (.istore_n 1, 1) := by decide +kernel
theorem dX7_areMet_51 : decode cX7_areMet 51 = .ok (.iinc 2 1, 3) := by decide +kernel
theorem dX7_areMet_54 : decode cX7_areMet 54 = .ok (.goto (-50), 3) := by decide +kernel
theorem dX7_areMet_57 : decode cX7_areMet 57 = .ok (.iload_n 1, 1) := by decide +kernel
theorem dX7_areMet_58 : decode cX7_areMet 58 = .ok (.ireturn, 1) := by decide +kernel
theorem dX7_looks_0 : decode cX7_looks 0 = .ok (.aload_n 0, 1) := by decide +kernel
theorem dX7_looks_1 : decode cX7_looks 1 = .ok (.iconst (-1), 1) := by decide +kernel
theorem dX7_looks_2 : decode cX7_looks 2 = .ok (.putfield 88, 3) := by decide +kernel
theorem dX7_looks_5 : decode cX7_looks 5 = .ok (.aload_n 0, 1) := by decide +kernel
theorem dX7_looks_6 : decode cX7_looks 6 = .ok (.invokevirtual 82, 3) := by decide +kernel
theorem dX7_looks_9 : decode cX7_looks 9 = .ok (.iconst 1, 1) := by decide +kernel
theorem dX7_looks_10 : decode cX7_looks 10 = .ok (.isub, 1) := by decide +kernel
theorem dX7_looks_11 : decode cX7_looks 11 = .ok (.istore_n 1, 1) := by decide +kernel
theorem dX7_looks_12 : decode cX7_looks 12 = .ok (.iload_n 1, 1) := by decide +kernel
theorem dX7_looks_13 : decode cX7_looks 13 = .ok (.ifCond .lt 59, 3) := by decide +kernel
theorem dX7_looks_16 : decode cX7_looks 16 = .ok (.aload_n 0, 1) := by decide +kernel
theorem dX7_looks_17 : decode cX7_looks 17 = .ok (.getfield 7, 3) := by decide +kernel
theorem dX7_looks_20 : decode cX7_looks 20 = .ok (.iconst 2, 1) := by decide +kernel
theorem dX7_looks_21 : decode cX7_looks 21 = .ok (.iload_n 1, 1) := by decide +kernel
theorem dX7_looks_22 : decode cX7_looks 22 = .ok (.iadd, 1) := by decide +kernel
theorem dX7_looks_23 : decode cX7_looks 23 = .ok (.iaload, 1) := by decide +kernel
theorem dX7_looks_24 : decode cX7_looks 24 = .ok (.istore_n 2, 1) := by decide +kernel
theorem dX7_looks_25 : decode cX7_looks 25 = .ok (.aload_n 0, 1) := by decide +kernel
theorem dX7_looks_26 : decode cX7_looks 26 = .ok (.iload_n 1, 1) := by decide +kernel
theorem dX7_looks_27 : decode cX7_looks 27 = .ok (.iconst 1, 1) := by decide +kernel
theorem dX7_looks_28 : decode cX7_looks 28 = .ok (.invokevirtual 85, 3) := by decide +kernel
theorem dX7_looks_31 : decode cX7_looks 31 = .ok (.istore_n 3, 1) := by decide +kernel
theorem dX7_looks_32 : decode cX7_looks 32 = .ok (.aload_n 0, 1) := by decide +kernel
theorem dX7_looks_33 : decode cX7_looks 33 = .ok (.iload_n 2, 1) := by decide +kernel
theorem dX7_looks_34 : decode cX7_looks 34 = .ok (.iconst (-1), 1) := by decide +kernel
theorem dX7_looks_35 : decode cX7_looks 35 = .ok (.if_icmp .eq 24, 3) := by decide +kernel
theorem dX7_looks_38 : decode cX7_looks 38 = .ok (.iload_n 3, 1) := by decide +kernel
theorem dX7_looks_39 : decode cX7_looks 39 = .ok (.iload_n 2, 1) := by decide +kernel
theorem dX7_looks_40 : decode cX7_looks 40 = .ok (.if_icmp .gt 15, 3) := by decide +kernel
theorem dX7_looks_43 : decode cX7_looks 43 = .ok (.iload_n 3, 1) := by decide +kernel
theorem dX7_looks_44 : decode cX7_looks 44 = .ok (.aload_n 0, 1) := by decide +kernel
theorem dX7_looks_45 : decode cX7_looks 45 = .ok (.iload_n 1, 1) := by decide +kernel
theorem dX7_looks_46 : decode cX7_looks 46 = .ok (.iconst 0, 1) := by decide +kernel
theorem dX7_looks_47 : decode cX7_looks 47 = .ok (.invokevirtual 85, 3) := by decide +kernel
theorem dX7_looks_50 : decode cX7_looks 50 = .ok (.iadd, 1) := by decide +kernel
theorem dX7_looks_51 : decode cX7_looks 51 = .ok (.iload_n 2, 1) := by decide +kernel
theorem dX7_looks_52 : decode cX7_looks 52 = .ok (.if_icmp .ge 7, 3) := by decide +kernel
theorem dX7_looks_55 : decode cX7_looks 55 = .ok (.iload_n 1, 1) := by decide +kernel
theorem dX7_looks_56 : decode cX7_looks 56 = .ok (.goto 7, 3) := by decide +kernel
theorem dX7_looks_59 : decode cX7_looks 59 = .ok (.aload_n 0, 1) := by decide +kernel
theorem dX7_looks_60 : decode cX7_looks 60 = .ok (.getfield 88, 3) := by decide +kernel
theorem dX7_looks_63 : decode cX7_looks 63 = .ok (.putfield 88, 3) := by decide +kernel
theorem dX7_looks_66 : decode cX7_looks 66 = .ok (.iinc 1 (-1), 3) := by decide +kernel
theorem dX7_looks_69 : decode cX7_looks 69 = .ok (.goto (-57), 3) := by decide +kernel
theorem dX7_looks_72 : decode cX7_looks 72 = .ok (.aload_n 0, 1) := by decide +kernel
theorem dX7_looks_73 : decode cX7_looks 73 = .ok (.iconst (-1), 1) := by decide +kernel
theorem dX7_looks_74 : decode cX7_looks 74 = .ok (.putfield 91, 3) := by decide +kernel
theorem dX7_looks_77 : decode cX7_looks 77 = .ok (.aload_n 0, 1) := by decide +kernel
theorem dX7_looks_78 : decode cX7_looks 78 = .ok (.invokevirtual 63, 3) := by decide +kernel
theorem dX7_looks_81 : decode cX7_looks 81 = .ok (.iconst 1, 1) := by decide +kernel
theorem dX7_looks_82 : decode cX7_looks 82 = .ok (.isub, 1) := by decide +kernel
theorem dX7_looks_83 : decode cX7_looks 83 = .ok (.istore_n 1, 1) := by decide +kernel
theorem dX7_looks_84 : decode cX7_looks 84 = .ok (.iload_n 1, 1) := by decide +kernel
theorem dX7_looks_85 : decode cX7_looks 85 = .ok (.ifCond .lt 47, 3) := by decide +kernel
theorem dX7_looks_88 : decode cX7_looks 88 = .ok (.aload_n 0, 1) := by decide +kernel
theorem dX7_looks_89 : decode cX7_looks 89 = .ok (.iload_n 1, 1) := by decide +kernel
theorem dX7_looks_90 : decode cX7_looks 90 = .ok (.iconst 1, 1) := by decide +kernel
theorem dX7_looks_91 : decode cX7_looks 91 = .ok (.invokevirtual 79, 3) := by decide +kernel
theorem dX7_looks_94 : decode cX7_looks 94 = .ok (.istore_n 2, 1) := by decide +kernel
theorem dX7_looks_95 : decode cX7_looks 95 = .ok (.aload_n 0, 1) := by decide +kernel
theorem dX7_looks_96 : decode cX7_looks 96 = .ok (.iload_n 2, 1) := by decide +kernel
theorem dX7_looks_97 : decode cX7_looks 97 = .ok (.iconst 2, 1) := by decide +kernel
theorem dX7_looks_98 : decode cX7_looks 98 = .ok (.if_icmp .gt 17, 3) := by decide +kernel
theorem dX7_looks_101 : decode cX7_looks 101 = .ok (.iload_n 2, 1) := by decide +kernel
theorem dX7_looks_102 : decode cX7_looks 102 = .ok (.iconst 1, 1) := by decide +kernel
theorem dX7_looks_103 : decode cX7_looks 103 = .ok (.if_icmp .ne 16, 3) := by decide +kernel
theorem dX7_looks_106 : decode cX7_looks 106 = .ok (.aload_n 0, 1) := by decide +kernel
theorem dX7_looks_107 : decode cX7_looks 107 = .ok (.iload_n 1, 1) := by decide +kernel
theorem dX7_looks_108 : decode cX7_looks 108 = .ok (.iconst 0, 1) := by decide +kernel
theorem dX7_looks_109 : decode cX7_looks 109 = .ok (.invokevirtual 79, 3) := by decide +kernel
theorem dX7_looks_112 : decode cX7_looks 112 = .ok (.ifCond .ne 7, 3) := by decide +kernel
theorem dX7_looks_115 : decode cX7_looks 115 = .ok (.iload_n 1, 1) := by decide +kernel
theorem dX7_looks_116 : decode cX7_looks 116 = .ok (.goto 7, 3) := by decide +kernel
theorem dX7_looks_119 : decode cX7_looks 119 = .ok (.aload_n 0, 1) := by decide +kernel
theorem dX7_looks_120 : decode cX7_looks 120 = .ok (.getfield 91, 3) := by decide +kernel
theorem dX7_looks_123 : decode cX7_looks 123 = .ok (.putfield 91, 3) := by decide +kernel
theorem dX7_looks_126 : decode cX7_looks 126 = .ok (.iinc 1 (-1), 3) := by decide +kernel
theorem dX7_looks_129 : decode cX7_looks 129 = .ok (.goto (-45), 3) := by decide +kernel
theorem dX7_looks_132 : decode cX7_looks 132 = .ok (.aload_n 0, 1) := by decide +kernel
theorem dX7_looks_133 : decode cX7_looks 133 = .ok (.invokevirtual 94, 3) := by decide +kernel
theorem dX7_looks_136 : decode cX7_looks 136 = .ok (.aload_n 0, 1) := by decide +kernel
theorem dX7_looks_137 : decode cX7_looks 137 = .ok (.iconst 0, 1) := by decide +kernel
theorem dX7_looks_138 : decode cX7_looks 138 = .ok (.putfield 97, 3) := by decide +kernel
theorem dX7_looks_141 : decode cX7_looks 141 = .ok (.aload_n 0, 1) := by decide +kernel
theorem dX7_looks_142 : decode cX7_looks 142 = .ok (.iconst (-1), 1) := by decide +kernel
theorem dX7_looks_143 : decode cX7_looks 143 = .ok (.putfield 101, 3) := by decide +kernel
theorem dX7_looks_146 : decode cX7_looks 146 = .ok (.aload_n 0, 1) := by decide +kernel
theorem dX7_looks_147 : decode cX7_looks 147 = .ok (.invokevirtual 104, 3) := by decide +kernel
theorem dX7_looks_150 : decode cX7_looks 150 = .ok (.istore_n 1, 1) := by decide +kernel
theorem dX7_looks_151 : decode cX7_looks 151 = .ok (.aload_n 0, 1) := by decide +kernel
theorem dX7_looks_152 : decode cX7_looks 152 = .ok (.invokevirtual 69, 3) := by decide +kernel
theorem dX7_looks_155 : decode cX7_looks 155 = .ok (.iconst 1, 1) := by decide +kernel
theorem dX7_looks_156 : decode cX7_looks 156 = .ok (.isub, 1) := by decide +kernel
theorem dX7_looks_157 : decode cX7_looks 157 = .ok (.istore_n 2, 1) := by decide +kernel
theorem dX7_looks_158 : decode cX7_looks 158 = .ok (.iload_n 2, 1) := by decide +kernel
theorem dX7_looks_159 : decode cX7_looks 159 = .ok (.ifCond .lt 78, 3) := by decide +kernel
theorem dX7_looks_162 : decode cX7_looks 162 = .ok (.aload_n 0, 1) := by decide +kernel
theorem dX7_looks_163 : decode cX7_looks 163 = .ok (.iload_n 2, 1) := by decide +kernel
theorem dX7_looks_164 : decode cX7_looks 164 = .ok (.invokevirtual 56, 3) := by decide +kernel
theorem dX7_looks_167 : decode cX7_looks 167 = .ok (.iconst 1, 1) := by decide +kernel
theorem dX7_looks_168 : decode cX7_looks 168 = .ok (.if_icmp .ne 63, 3) := by decide +kernel
theorem dX7_looks_171 : decode cX7_looks 171 = .ok (.aload_n 0, 1) := by decide +kernel
theorem dX7_looks_172 : decode cX7_looks 172 = .ok (.aload_n 0, 1) := by decide +kernel
theorem dX7_looks_173 : decode cX7_looks 173 = .ok (.aload_n 0, 1) := by decide +kernel
theorem dX7_looks_174 : decode cX7_looks 174 = .ok (.iload_n 2, 1) := by decide +kernel
theorem dX7_looks_175 : decode cX7_looks 175 = .ok (.iconst 0, 1) := by decide +kernel
theorem dX7_looks_176 : decode cX7_looks 176 = .ok (.invokevirtual 72, 3) := by decide +kernel
theorem dX7_looks_179 : decode cX7_looks 179 = .ok (.invokevirtual 76, 3) := by decide +kernel
theorem dX7_looks_182 : decode cX7_looks 182 = .ok (.invokevirtual 108, 3) := by decide +kernel
theorem dX7_looks_185 : decode cX7_looks 185 = .ok (.ifCond .eq 46, 3) := by decide +kernel
theorem dX7_looks_188 : decode cX7_looks 188 = .ok (.aload_n 0, 1) := by decide +kernel
theorem dX7_looks_189 : decode cX7_looks 189 = .ok (.iconst 1, 1) := by decide +kernel
theorem dX7_looks_190 : decode cX7_looks 190 = .ok (.putfield 97, 3) := by decide +kernel
theorem dX7_looks_193 : decode cX7_looks 193 = .ok (.aload_n 0, 1) := by decide +kernel
theorem dX7_looks_194 : decode cX7_looks 194 = .ok (.iload_n 1, 1) := by decide +kernel
theorem dX7_looks_195 : decode cX7_looks 195 = .ok (.ifCond .eq 25, 3) := by decide +kernel
theorem dX7_looks_198 : decode cX7_looks 198 = .ok (.aload_n 0, 1) := by decide +kernel
theorem dX7_looks_199 : decode cX7_looks 199 = .ok (.getfield 22, 3) := by decide +kernel
theorem dX7_looks_202 : decode cX7_looks 202 = .ok (.aload_n 0, 1) := by decide +kernel
theorem dX7_looks_203 : decode cX7_looks 203 = .ok (.aload_n 0, 1) := by decide +kernel
theorem dX7_looks_204 : decode cX7_looks 204 = .ok (.iload_n 2, 1) := by decide +kernel
theorem dX7_looks_205 : decode cX7_looks 205 = .ok (.iconst 0, 1) := by decide +kernel
theorem dX7_looks_206 : decode cX7_looks 206 = .ok (.invokevirtual 72, 3) := by decide +kernel
theorem dX7_looks_209 : decode cX7_looks 209 = .ok (.invokevirtual 76, 3) := by decide +kernel
theorem dX7_looks_212 : decode cX7_looks 212 = .ok (.iaload, 1) := by decide +kernel
theorem dX7_looks_213 : decode cX7_looks 213 = .ok (.aload_n 0, 1) := by decide +kernel
theorem dX7_looks_214 : decode cX7_looks 214 = .ok (.getfield 66, 3) := by decide +kernel
theorem dX7_looks_217 : decode cX7_looks 217 = .ok (.if_icmp .eq 7, 3) := by decide +kernel
theorem dX7_looks_220 : decode cX7_looks 220 = .ok (.iload_n 2, 1) := by decide +kernel
theorem dX7_looks_221 : decode cX7_looks 221 = .ok (.goto 7, 3) := by decide +kernel
theorem dX7_looks_224 : decode cX7_looks 224 = .ok (.aload_n 0, 1) := by decide +kernel
theorem dX7_looks_225 : decode cX7_looks 225 = .ok (.getfield 101, 3) := by decide +kernel
theorem dX7_looks_228 : decode cX7_looks 228 = .ok (.putfield 101, 3) := by decide +kernel
theorem dX7_looks_231 : decode cX7_looks 231 = .ok (.iinc 2 (-1), 3) := by decide +kernel
theorem dX7_looks_234 : decode cX7_looks 234 = .ok (.goto (-76), 3) := by decide +kernel
theorem dX7_looks_237 : decode cX7_looks 237 = .ok (.return_, 1) := by decide +kernel
theorem dX7_fits_0 : decode cX7_fits 0 = .ok (.aload_n 0, 1) := by decide +kernel
theorem dX7_fits_1 : decode cX7_fits 1 = .ok (.invokevirtual 112, 3) := by decide +kernel
theorem dX7_fits_4 : decode cX7_fits 4 = .ok (.aload_n 0, 1) := by decide +kernel
theorem dX7_fits_5 : decode cX7_fits 5 = .ok (.getfield 88, 3) := by decide +kernel
theorem dX7_fits_8 : decode cX7_fits 8 = .ok (.iconst (-1), 1) := by decide +kernel
theorem dX7_fits_9 : decode cX7_fits 9 = .ok (.if_icmp .ne 23, 3) := by decide +kernel
theorem dX7_fits_12 : decode cX7_fits 12 = .ok (.aload_n 0, 1) := by decide +kernel
theorem dX7_fits_13 : decode cX7_fits 13 = .ok (.getfield 91, 3) := by decide +kernel
theorem dX7_fits_16 : decode cX7_fits 16 = .ok (.iconst (-1), 1) := by decide +kernel
theorem dX7_fits_17 : decode cX7_fits 17 = .ok (.if_icmp .ne 15, 3) := by decide +kernel
theorem dX7_fits_20 : decode cX7_fits 20 = .ok (.aload_n 0, 1) := by decide +kernel
theorem dX7_fits_21 : decode cX7_fits 21 = .ok (.getfield 101, 3) := by decide +kernel
theorem dX7_fits_24 : decode cX7_fits 24 = .ok (.iconst (-1), 1) := by decide +kernel
theorem dX7_fits_25 : decode cX7_fits 25 = .ok (.if_icmp .ne 7, 3) := by decide +kernel
theorem dX7_fits_28 : decode cX7_fits 28 = .ok (.iconst 1, 1) := by decide +kernel
theorem dX7_fits_29 : decode cX7_fits 29 = .ok (.goto 4, 3) := by decide +kernel
theorem dX7_fits_32 : decode cX7_fits 32 = .ok (.iconst 0, 1) := by decide +kernel
theorem dX7_fits_33 : decode cX7_fits 33 = .ok (.ireturn, 1) := by decide +kernel
theorem dX7_finds_0 : decode cX7_finds 0 = .ok (.aload_n 0, 1) := by decide +kernel
theorem dX7_finds_1 : decode cX7_finds 1 = .ok (.iload_n 1, 1) := by decide +kernel
theorem dX7_finds_2 : decode cX7_finds 2 = .ok (.putfield 115, 3) := by decide +kernel
theorem dX7_finds_5 : decode cX7_finds 5 = .ok (.aload_n 0, 1) := by decide +kernel
theorem dX7_finds_6 : decode cX7_finds 6 = .ok (.iload_n 2, 1) := by decide +kernel
theorem dX7_finds_7 : decode cX7_finds 7 = .ok (.putfield 118, 3) := by decide +kernel
theorem dX7_finds_10 : decode cX7_finds 10 = .ok (.aload_n 0, 1) := by decide +kernel
theorem dX7_finds_11 : decode cX7_finds 11 = .ok (.iload_n 3, 1) := by decide +kernel
theorem dX7_finds_12 : decode cX7_finds 12 = .ok (.putfield 121, 3) := by decide +kernel
theorem dX7_finds_15 : decode cX7_finds 15 = .ok (.aload_n 0, 1) := by decide +kernel
theorem dX7_finds_16 : decode cX7_finds 16 = .ok (.iload 4, 2) := by decide +kernel
theorem dX7_finds_18 : decode cX7_finds 18 = .ok (.putfield 124, 3) := by decide +kernel
theorem dX7_finds_21 : decode cX7_finds 21 = .ok (.iconst 1, 1) := by decide +kernel
theorem dX7_finds_22 : decode cX7_finds 22 = .ok (.ireturn, 1) := by decide +kernel
theorem dX7_byCells_0 : decode cX7_byCells 0 = .ok (.iconst 0, 1) := by decide +kernel
theorem dX7_byCells_1 : decode cX7_byCells 1 = .ok (.istore_n 2, 1) := by decide +kernel
theorem dX7_byCells_2 : decode cX7_byCells 2 = .ok (.iload_n 2, 1) := by decide +kernel
theorem dX7_byCells_3 : decode cX7_byCells 3 = .ok (.aload_n 0, 1) := by decide +kernel
theorem dX7_byCells_4 : decode cX7_byCells 4 = .ok (.invokevirtual 82, 3) := by decide +kernel
theorem dX7_byCells_7 : decode cX7_byCells 7 = .ok (.if_icmp .ge 74, 3) := by decide +kernel
theorem dX7_byCells_10 : decode cX7_byCells 10 = .ok (.aload_n 0, 1) := by decide +kernel
theorem dX7_byCells_11 : decode cX7_byCells 11 = .ok (.iload_n 2, 1) := by decide +kernel
theorem dX7_byCells_12 : decode cX7_byCells 12 = .ok (.iconst 1, 1) := by decide +kernel
theorem dX7_byCells_13 : decode cX7_byCells 13 = .ok (.invokevirtual 85, 3) := by decide +kernel
theorem dX7_byCells_16 : decode cX7_byCells 16 = .ok (.iload_n 1, 1) := by decide +kernel
theorem dX7_byCells_17 : decode cX7_byCells 17 = .ok (.iconst 1, 1) := by decide +kernel
theorem dX7_byCells_18 : decode cX7_byCells 18 = .ok (.if_icmp .ne 12, 3) := by decide +kernel
theorem dX7_byCells_21 : decode cX7_byCells 21 = .ok (.aload_n 0, 1) := by decide +kernel
theorem dX7_byCells_22 : decode cX7_byCells 22 = .ok (.iload_n 2, 1) := by decide +kernel
theorem dX7_byCells_23 : decode cX7_byCells 23 = .ok (.iconst 0, 1) := by decide +kernel
theorem dX7_byCells_24 : decode cX7_byCells 24 = .ok (.invokevirtual 85, 3) := by decide +kernel
theorem dX7_byCells_27 : decode cX7_byCells 27 = .ok (.goto 4, 3) := by decide +kernel
theorem dX7_byCells_30 : decode cX7_byCells 30 = .ok (.iconst 0, 1) := by decide +kernel
theorem dX7_byCells_31 : decode cX7_byCells 31 = .ok (.iadd, 1) := by decide +kernel
theorem dX7_byCells_32 : decode cX7_byCells 32 = .ok (.istore_n 3, 1) := by decide +kernel
theorem dX7_byCells_33 : decode cX7_byCells 33 = .ok (.aload_n 0, 1) := by decide +kernel
theorem dX7_byCells_34 : decode cX7_byCells 34 = .ok (.getfield 7, 3) := by decide +kernel
theorem dX7_byCells_37 : decode cX7_byCells 37 = .ok (.iconst 2, 1) := by decide +kernel
theorem dX7_byCells_38 : decode cX7_byCells 38 = .ok (.iload_n 2, 1) := by decide +kernel
theorem dX7_byCells_39 : decode cX7_byCells 39 = .ok (.iadd, 1) := by decide +kernel
theorem dX7_byCells_40 : decode cX7_byCells 40 = .ok (.iaload, 1) := by decide +kernel
theorem dX7_byCells_41 : decode cX7_byCells 41 = .ok (.iload_n 3, 1) := by decide +kernel
theorem dX7_byCells_42 : decode cX7_byCells 42 = .ok (.if_icmp .ne 33, 3) := by decide +kernel
theorem dX7_byCells_45 : decode cX7_byCells 45 = .ok (.aload_n 0, 1) := by decide +kernel
theorem dX7_byCells_46 : decode cX7_byCells 46 = .ok (.iload_n 2, 1) := by decide +kernel
theorem dX7_byCells_47 : decode cX7_byCells 47 = .ok (.iconst 0, 1) := by decide +kernel
theorem dX7_byCells_48 : decode cX7_byCells 48 = .ok (.invokevirtual 85, 3) := by decide +kernel
theorem dX7_byCells_51 : decode cX7_byCells 51 = .ok (.ifCond .le 24, 3) := by decide +kernel
theorem dX7_byCells_54 : decode cX7_byCells 54 = .ok (.aload_n 0, 1) := by decide +kernel
theorem dX7_byCells_55 : decode cX7_byCells 55 = .ok (.iload_n 1, 1) := by decide +kernel
theorem dX7_byCells_56 : decode cX7_byCells 56 = .ok (.aload_n 0, 1) := by decide +kernel
theorem dX7_byCells_57 : decode cX7_byCells 57 = .ok (.iload_n 2, 1) := by decide +kernel
theorem dX7_byCells_58 : decode cX7_byCells 58 = .ok (.invokevirtual 127, 3) := by decide +kernel
theorem dX7_byCells_61 : decode cX7_byCells 61 = .ok (.iload_n 1, 1) := by decide +kernel
theorem dX7_byCells_62 : decode cX7_byCells 62 = .ok (.ifCond .ne 7, 3) := by decide +kernel
theorem dX7_byCells_65 : decode cX7_byCells 65 = .ok (.iconst 2, 1) := by decide +kernel
theorem dX7_byCells_66 : decode cX7_byCells 66 = .ok (.goto 4, 3) := by decide +kernel
theorem dX7_byCells_69 : decode cX7_byCells 69 = .ok (.iconst 1, 1) := by decide +kernel
theorem dX7_byCells_70 : decode cX7_byCells 70 = .ok (.iload_n 2, 1) := by decide +kernel
theorem dX7_byCells_71 : decode cX7_byCells 71 = .ok (.invokevirtual 130, 3) := by decide +kernel
theorem dX7_byCells_74 : decode cX7_byCells 74 = .ok (.ireturn, 1) := by decide +kernel
theorem dX7_byCells_75 : decode cX7_byCells 75 = .ok (.iinc 2 1, 3) := by decide +kernel
theorem dX7_byCells_78 : decode cX7_byCells 78 = .ok (.goto (-76), 3) := by decide +kernel
theorem dX7_byCells_81 : decode cX7_byCells 81 = .ok (.iconst 0, 1) := by decide +kernel
theorem dX7_byCells_82 : decode cX7_byCells 82 = .ok (.ireturn, 1) := by decide +kernel
theorem dX7_byCorners_0 : decode cX7_byCorners 0 = .ok (.iconst 0, 1) := by decide +kernel
theorem dX7_byCorners_1 : decode cX7_byCorners 1 = .ok (.istore_n 2, 1) := by decide +kernel
theorem dX7_byCorners_2 : decode cX7_byCorners 2 = .ok (.iload_n 2, 1) := by decide +kernel
theorem dX7_byCorners_3 : decode cX7_byCorners 3 = .ok (.aload_n 0, 1) := by decide +kernel
theorem dX7_byCorners_4 : decode cX7_byCorners 4 = .ok (.invokevirtual 63, 3) := by decide +kernel
theorem dX7_byCorners_7 : decode cX7_byCorners 7 = .ok (.if_icmp .ge 94, 3) := by decide +kernel
theorem dX7_byCorners_10 : decode cX7_byCorners 10 = .ok (.aload_n 0, 1) := by decide +kernel
theorem dX7_byCorners_11 : decode cX7_byCorners 11 = .ok (.iload_n 2, 1) := by decide +kernel
theorem dX7_byCorners_12 : decode cX7_byCorners 12 = .ok (.iconst 0, 1) := by decide +kernel
theorem dX7_byCorners_13 : decode cX7_byCorners 13 = .ok (.invokevirtual 79, 3) := by decide +kernel
theorem dX7_byCorners_16 : decode cX7_byCorners 16 = .ok (.istore_n 3, 1) := by decide +kernel
theorem dX7_byCorners_17 : decode cX7_byCorners 17 = .ok (.aload_n 0, 1) := by decide +kernel
theorem dX7_byCorners_18 : decode cX7_byCorners 18 = .ok (.iload_n 2, 1) := by decide +kernel
theorem dX7_byCorners_19 : decode cX7_byCorners 19 = .ok (.iconst 1, 1) := by decide +kernel
theorem dX7_byCorners_20 : decode cX7_byCorners 20 = .ok (.invokevirtual 79, 3) := by decide +kernel
theorem dX7_byCorners_23 : decode cX7_byCorners 23 = .ok (.istore 4, 2) := by decide +kernel
theorem dX7_byCorners_25 : decode cX7_byCorners 25 = .ok (.iload_n 1, 1) := by decide +kernel
theorem dX7_byCorners_26 : decode cX7_byCorners 26 = .ok (.iconst 2, 1) := by decide +kernel
theorem dX7_byCorners_27 : decode cX7_byCorners 27 = .ok (.if_icmp .ne 21, 3) := by decide +kernel
theorem dX7_byCorners_30 : decode cX7_byCorners 30 = .ok (.iload 4, 2) := by decide +kernel
theorem dX7_byCorners_32 : decode cX7_byCorners 32 = .ok (.iconst 2, 1) := by decide +kernel
theorem dX7_byCorners_33 : decode cX7_byCorners 33 = .ok (.if_icmp .ne 11, 3) := by decide +kernel
theorem dX7_byCorners_36 : decode cX7_byCorners 36 = .ok (.iload_n 3, 1) := by decide +kernel
theorem dX7_byCorners_37 : decode cX7_byCorners 37 = .ok (.ifCond .le 7, 3) := by decide +kernel
theorem dX7_byCorners_40 : decode cX7_byCorners 40 = .ok (.iconst 1, 1) := by decide +kernel
theorem dX7_byCorners_41 : decode cX7_byCorners 41 = .ok (.goto 25, 3) := by decide +kernel
theorem dX7_byCorners_44 : decode cX7_byCorners 44 = .ok (.iconst 0, 1) := by decide +kernel
theorem dX7_byCorners_45 : decode cX7_byCorners 45 = .ok (.goto 21, 3) := by decide +kernel
theorem dX7_byCorners_48 : decode cX7_byCorners 48 = .ok (.iload_n 3, 1) := by decide +kernel
theorem dX7_byCorners_49 : decode cX7_byCorners 49 = .ok (.iconst 1, 1) := by decide +kernel
theorem dX7_byCorners_50 : decode cX7_byCorners 50 = .ok (.if_icmp .ne 15, 3) := by decide +kernel
theorem dX7_byCorners_53 : decode cX7_byCorners 53 = .ok (.iload 4, 2) := by decide +kernel
theorem dX7_byCorners_55 : decode cX7_byCorners 55 = .ok (.iload_n 1, 1) := by decide +kernel
theorem dX7_byCorners_56 : decode cX7_byCorners 56 = .ok (.iconst 3, 1) := by decide +kernel
end
section
theorem dX7_byCorners_57 : decode cX7_byCorners 57 = .ok (.isub, 1) := by decide +kernel
theorem dX7_byCorners_58 : decode cX7_byCorners 58 = .ok (.if_icmp .ne 7, 3) := by decide +kernel
theorem dX7_byCorners_61 : decode cX7_byCorners 61 = .ok (.iconst 1, 1) := by decide +kernel
theorem dX7_byCorners_62 : decode cX7_byCorners 62 = .ok (.goto 4, 3) := by decide +kernel
theorem dX7_byCorners_65 : decode cX7_byCorners 65 = .ok (.iconst 0, 1) := by decide +kernel
theorem dX7_byCorners_66 : decode cX7_byCorners 66 = .ok (.istore 5, 2) := by decide +kernel
theorem dX7_byCorners_68 : decode cX7_byCorners 68 = .ok (.iload 5, 2) := by decide +kernel
theorem dX7_byCorners_70 : decode cX7_byCorners 70 = .ok (.ifCond .eq 25, 3) := by decide +kernel
theorem dX7_byCorners_73 : decode cX7_byCorners 73 = .ok (.aload_n 0, 1) := by decide +kernel
theorem dX7_byCorners_74 : decode cX7_byCorners 74 = .ok (.iload_n 1, 1) := by decide +kernel
theorem dX7_byCorners_75 : decode cX7_byCorners 75 = .ok (.aload_n 0, 1) := by decide +kernel
theorem dX7_byCorners_76 : decode cX7_byCorners 76 = .ok (.iload_n 2, 1) := by decide +kernel
theorem dX7_byCorners_77 : decode cX7_byCorners 77 = .ok (.invokevirtual 134, 3) := by decide +kernel
theorem dX7_byCorners_80 : decode cX7_byCorners 80 = .ok (.iload_n 1, 1) := by decide +kernel
theorem dX7_byCorners_81 : decode cX7_byCorners 81 = .ok (.iconst 4, 1) := by decide +kernel
theorem dX7_byCorners_82 : decode cX7_byCorners 82 = .ok (.if_icmp .ne 7, 3) := by decide +kernel
theorem dX7_byCorners_85 : decode cX7_byCorners 85 = .ok (.iconst 1, 1) := by decide +kernel
theorem dX7_byCorners_86 : decode cX7_byCorners 86 = .ok (.goto 4, 3) := by decide +kernel
theorem dX7_byCorners_89 : decode cX7_byCorners 89 = .ok (.iconst 2, 1) := by decide +kernel
theorem dX7_byCorners_90 : decode cX7_byCorners 90 = .ok (.iload_n 2, 1) := by decide +kernel
theorem dX7_byCorners_91 : decode cX7_byCorners 91 = .ok (.invokevirtual 130, 3) := by decide +kernel
theorem dX7_byCorners_94 : decode cX7_byCorners 94 = .ok (.ireturn, 1) := by decide +kernel
theorem dX7_byCorners_95 : decode cX7_byCorners 95 = .ok (.iinc 2 1, 3) := by decide +kernel
theorem dX7_byCorners_98 : decode cX7_byCorners 98 = .ok (.goto (-96), 3) := by decide +kernel
theorem dX7_byCorners_101 : decode cX7_byCorners 101 = .ok (.iconst 0, 1) := by decide +kernel
theorem dX7_byCorners_102 : decode cX7_byCorners 102 = .ok (.ireturn, 1) := by decide +kernel
theorem dX7_byRings_0 : decode cX7_byRings 0 = .ok (.aload_n 0, 1) := by decide +kernel
theorem dX7_byRings_1 : decode cX7_byRings 1 = .ok (.invokevirtual 94, 3) := by decide +kernel
theorem dX7_byRings_4 : decode cX7_byRings 4 = .ok (.iconst 0, 1) := by decide +kernel
theorem dX7_byRings_5 : decode cX7_byRings 5 = .ok (.istore_n 1, 1) := by decide +kernel
theorem dX7_byRings_6 : decode cX7_byRings 6 = .ok (.iload_n 1, 1) := by decide +kernel
theorem dX7_byRings_7 : decode cX7_byRings 7 = .ok (.aload_n 0, 1) := by decide +kernel
theorem dX7_byRings_8 : decode cX7_byRings 8 = .ok (.invokevirtual 69, 3) := by decide +kernel
theorem dX7_byRings_11 : decode cX7_byRings 11 = .ok (.if_icmp .ge 100, 3) := by decide +kernel
theorem dX7_byRings_14 : decode cX7_byRings 14 = .ok (.aload_n 0, 1) := by decide +kernel
theorem dX7_byRings_15 : decode cX7_byRings 15 = .ok (.iload_n 1, 1) := by decide +kernel
theorem dX7_byRings_16 : decode cX7_byRings 16 = .ok (.invokevirtual 56, 3) := by decide +kernel
theorem dX7_byRings_19 : decode cX7_byRings 19 = .ok (.ifCond .ne 86, 3) := by decide +kernel
theorem dX7_byRings_22 : decode cX7_byRings 22 = .ok (.aload_n 0, 1) := by decide +kernel
theorem dX7_byRings_23 : decode cX7_byRings 23 = .ok (.aload_n 0, 1) := by decide +kernel
theorem dX7_byRings_24 : decode cX7_byRings 24 = .ok (.iload_n 1, 1) := by decide +kernel
theorem dX7_byRings_25 : decode cX7_byRings 25 = .ok (.iconst 0, 1) := by decide +kernel
theorem dX7_byRings_26 : decode cX7_byRings 26 = .ok (.invokevirtual 72, 3) := by decide +kernel
theorem dX7_byRings_29 : decode cX7_byRings 29 = .ok (.invokevirtual 76, 3) := by decide +kernel
theorem dX7_byRings_32 : decode cX7_byRings 32 = .ok (.aload_n 0, 1) := by decide +kernel
theorem dX7_byRings_33 : decode cX7_byRings 33 = .ok (.aload_n 0, 1) := by decide +kernel
theorem dX7_byRings_34 : decode cX7_byRings 34 = .ok (.iload_n 1, 1) := by decide +kernel
theorem dX7_byRings_35 : decode cX7_byRings 35 = .ok (.iconst 1, 1) := by decide +kernel
theorem dX7_byRings_36 : decode cX7_byRings 36 = .ok (.invokevirtual 72, 3) := by decide +kernel
theorem dX7_byRings_39 : decode cX7_byRings 39 = .ok (.invokevirtual 76, 3) := by decide +kernel
theorem dX7_byRings_42 : decode cX7_byRings 42 = .ok (.if_icmp .ne 63, 3) := by decide +kernel
theorem dX7_byRings_45 : decode cX7_byRings 45 = .ok (.aload_n 0, 1) := by decide +kernel
theorem dX7_byRings_46 : decode cX7_byRings 46 = .ok (.getfield 7, 3) := by decide +kernel
theorem dX7_byRings_49 : decode cX7_byRings 49 = .ok (.bipush 18, 2) := by decide +kernel
theorem dX7_byRings_51 : decode cX7_byRings 51 = .ok (.iload_n 1, 1) := by decide +kernel
theorem dX7_byRings_52 : decode cX7_byRings 52 = .ok (.iadd, 1) := by decide +kernel
theorem dX7_byRings_53 : decode cX7_byRings 53 = .ok (.iconst 1, 1) := by decide +kernel
theorem dX7_byRings_54 : decode cX7_byRings 54 = .ok (.iastore, 1) := by decide +kernel
theorem dX7_byRings_55 : decode cX7_byRings 55 = .ok (.aload_n 0, 1) := by decide +kernel
theorem dX7_byRings_56 : decode cX7_byRings 56 = .ok (.invokevirtual 104, 3) := by decide +kernel
theorem dX7_byRings_59 : decode cX7_byRings 59 = .ok (.istore_n 2, 1) := by decide +kernel
theorem dX7_byRings_60 : decode cX7_byRings 60 = .ok (.aload_n 0, 1) := by decide +kernel
theorem dX7_byRings_61 : decode cX7_byRings 61 = .ok (.getfield 7, 3) := by decide +kernel
theorem dX7_byRings_64 : decode cX7_byRings 64 = .ok (.bipush 18, 2) := by decide +kernel
theorem dX7_byRings_66 : decode cX7_byRings 66 = .ok (.iload_n 1, 1) := by decide +kernel
theorem dX7_byRings_67 : decode cX7_byRings 67 = .ok (.iadd, 1) := by decide +kernel
theorem dX7_byRings_68 : decode cX7_byRings 68 = .ok (.iconst 0, 1) := by decide +kernel
theorem dX7_byRings_69 : decode cX7_byRings 69 = .ok (.iastore, 1) := by decide +kernel
theorem dX7_byRings_70 : decode cX7_byRings 70 = .ok (.iload_n 2, 1) := by decide +kernel
theorem dX7_byRings_71 : decode cX7_byRings 71 = .ok (.ifCond .eq 25, 3) := by decide +kernel
theorem dX7_byRings_74 : decode cX7_byRings 74 = .ok (.aload_n 0, 1) := by decide +kernel
theorem dX7_byRings_75 : decode cX7_byRings 75 = .ok (.getfield 22, 3) := by decide +kernel
theorem dX7_byRings_78 : decode cX7_byRings 78 = .ok (.aload_n 0, 1) := by decide +kernel
theorem dX7_byRings_79 : decode cX7_byRings 79 = .ok (.aload_n 0, 1) := by decide +kernel
theorem dX7_byRings_80 : decode cX7_byRings 80 = .ok (.iload_n 1, 1) := by decide +kernel
theorem dX7_byRings_81 : decode cX7_byRings 81 = .ok (.iconst 0, 1) := by decide +kernel
theorem dX7_byRings_82 : decode cX7_byRings 82 = .ok (.invokevirtual 72, 3) := by decide +kernel
theorem dX7_byRings_85 : decode cX7_byRings 85 = .ok (.invokevirtual 76, 3) := by decide +kernel
theorem dX7_byRings_88 : decode cX7_byRings 88 = .ok (.iaload, 1) := by decide +kernel
theorem dX7_byRings_89 : decode cX7_byRings 89 = .ok (.aload_n 0, 1) := by decide +kernel
theorem dX7_byRings_90 : decode cX7_byRings 90 = .ok (.getfield 66, 3) := by decide +kernel
theorem dX7_byRings_93 : decode cX7_byRings 93 = .ok (.if_icmp .eq 12, 3) := by decide +kernel
theorem dX7_byRings_96 : decode cX7_byRings 96 = .ok (.aload_n 0, 1) := by decide +kernel
theorem dX7_byRings_97 : decode cX7_byRings 97 = .ok (.iconst 5, 1) := by decide +kernel
theorem dX7_byRings_98 : decode cX7_byRings 98 = .ok (.iload_n 1, 1) := by decide +kernel
theorem dX7_byRings_99 : decode cX7_byRings 99 = .ok (.iconst 2, 1) := by decide +kernel
theorem dX7_byRings_100 : decode cX7_byRings 100 = .ok (.iconst (-1), 1) := by decide +kernel
theorem dX7_byRings_101 : decode cX7_byRings 101 = .ok (.invokevirtual 130, 3) := by decide +kernel
theorem dX7_byRings_104 : decode cX7_byRings 104 = .ok (.ireturn, 1) := by decide +kernel
theorem dX7_byRings_105 : decode cX7_byRings 105 = .ok (.iinc 1 1, 3) := by decide +kernel
theorem dX7_byRings_108 : decode cX7_byRings 108 = .ok (.goto (-102), 3) := by decide +kernel
theorem dX7_byRings_111 : decode cX7_byRings 111 = .ok (.iconst 0, 1) := by decide +kernel
theorem dX7_byRings_112 : decode cX7_byRings 112 = .ok (.ireturn, 1) := by decide +kernel
theorem dX7_findsPlain_0 : decode cX7_findsPlain 0 = .ok (.aload_n 0, 1) := by decide +kernel
theorem dX7_findsPlain_1 : decode cX7_findsPlain 1 = .ok (.invokevirtual 137, 3) := by decide +kernel
theorem dX7_findsPlain_4 : decode cX7_findsPlain 4 = .ok (.ifCond .eq 14, 3) := by decide +kernel
theorem dX7_findsPlain_7 : decode cX7_findsPlain 7 = .ok (.aload_n 0, 1) := by decide +kernel
theorem dX7_findsPlain_8 : decode cX7_findsPlain 8 = .ok (.getfield 97, 3) := by decide +kernel
theorem dX7_findsPlain_11 : decode cX7_findsPlain 11 = .ok (.ifCond .ne 7, 3) := by decide +kernel
theorem dX7_findsPlain_14 : decode cX7_findsPlain 14 = .ok (.iconst 1, 1) := by decide +kernel
theorem dX7_findsPlain_15 : decode cX7_findsPlain 15 = .ok (.goto 4, 3) := by decide +kernel
theorem dX7_findsPlain_18 : decode cX7_findsPlain 18 = .ok (.iconst 0, 1) := by decide +kernel
theorem dX7_findsPlain_19 : decode cX7_findsPlain 19 = .ok (.istore_n 2, 1) := by decide +kernel
theorem dX7_findsPlain_20 : decode cX7_findsPlain 20 = .ok (.iload_n 2, 1) := by decide +kernel
theorem dX7_findsPlain_21 : decode cX7_findsPlain 21 = .ok (.ifCond .ne 5, 3) := by decide +kernel
theorem dX7_findsPlain_24 : decode cX7_findsPlain 24 = .ok (.iconst 0, 1) := by decide +kernel
theorem dX7_findsPlain_25 : decode cX7_findsPlain 25 = .ok (.ireturn, 1) := by decide +kernel
theorem dX7_findsPlain_26 : decode cX7_findsPlain 26 = .ok (.iconst 0, 1) := by decide +kernel
theorem dX7_findsPlain_27 : decode cX7_findsPlain 27 = .ok (.istore_n 3, 1) := by decide +kernel
theorem dX7_findsPlain_28 : decode cX7_findsPlain 28 = .ok (.iconst 0, 1) := by decide +kernel
theorem dX7_findsPlain_29 : decode cX7_findsPlain 29 = .ok (.istore 4, 2) := by decide +kernel
theorem dX7_findsPlain_31 : decode cX7_findsPlain 31 = .ok (.iload 4, 2) := by decide +kernel
theorem dX7_findsPlain_33 : decode cX7_findsPlain 33 = .ok (.iload_n 1, 1) := by decide +kernel
theorem dX7_findsPlain_34 : decode cX7_findsPlain 34 = .ok (.if_icmp .gt 55, 3) := by decide +kernel
theorem dX7_findsPlain_37 : decode cX7_findsPlain 37 = .ok (.iload 4, 2) := by decide +kernel
theorem dX7_findsPlain_39 : decode cX7_findsPlain 39 = .ok (.bipush 6, 2) := by decide +kernel
theorem dX7_findsPlain_41 : decode cX7_findsPlain 41 = .ok (.if_icmp .ge 48, 3) := by decide +kernel
theorem dX7_findsPlain_44 : decode cX7_findsPlain 44 = .ok (.iload_n 3, 1) := by decide +kernel
theorem dX7_findsPlain_45 : decode cX7_findsPlain 45 = .ok (.ifCond .ne 44, 3) := by decide +kernel
theorem dX7_findsPlain_48 : decode cX7_findsPlain 48 = .ok (.iload 4, 2) := by decide +kernel
theorem dX7_findsPlain_50 : decode cX7_findsPlain 50 = .ok (.iconst 2, 1) := by decide +kernel
theorem dX7_findsPlain_51 : decode cX7_findsPlain 51 = .ok (.if_icmp .ge 12, 3) := by decide +kernel
theorem dX7_findsPlain_54 : decode cX7_findsPlain 54 = .ok (.aload_n 0, 1) := by decide +kernel
theorem dX7_findsPlain_55 : decode cX7_findsPlain 55 = .ok (.iload 4, 2) := by decide +kernel
theorem dX7_findsPlain_57 : decode cX7_findsPlain 57 = .ok (.invokevirtual 140, 3) := by decide +kernel
theorem dX7_findsPlain_60 : decode cX7_findsPlain 60 = .ok (.goto 22, 3) := by decide +kernel
theorem dX7_findsPlain_63 : decode cX7_findsPlain 63 = .ok (.iload 4, 2) := by decide +kernel
theorem dX7_findsPlain_65 : decode cX7_findsPlain 65 = .ok (.iconst 5, 1) := by decide +kernel
theorem dX7_findsPlain_66 : decode cX7_findsPlain 66 = .ok (.if_icmp .ge 12, 3) := by decide +kernel
theorem dX7_findsPlain_69 : decode cX7_findsPlain 69 = .ok (.aload_n 0, 1) := by decide +kernel
theorem dX7_findsPlain_70 : decode cX7_findsPlain 70 = .ok (.iload 4, 2) := by decide +kernel
theorem dX7_findsPlain_72 : decode cX7_findsPlain 72 = .ok (.invokevirtual 143, 3) := by decide +kernel
theorem dX7_findsPlain_75 : decode cX7_findsPlain 75 = .ok (.goto 7, 3) := by decide +kernel
theorem dX7_findsPlain_78 : decode cX7_findsPlain 78 = .ok (.aload_n 0, 1) := by decide +kernel
theorem dX7_findsPlain_79 : decode cX7_findsPlain 79 = .ok (.invokevirtual 146, 3) := by decide +kernel
theorem dX7_findsPlain_82 : decode cX7_findsPlain 82 = .ok (.istore_n 3, 1) := by decide +kernel
theorem dX7_findsPlain_83 : decode cX7_findsPlain 83 = .ok (.iinc 4 1, 3) := by decide +kernel
theorem dX7_findsPlain_86 : decode cX7_findsPlain 86 = .ok (.goto (-55), 3) := by decide +kernel
theorem dX7_findsPlain_89 : decode cX7_findsPlain 89 = .ok (.iload_n 3, 1) := by decide +kernel
theorem dX7_findsPlain_90 : decode cX7_findsPlain 90 = .ok (.ireturn, 1) := by decide +kernel
theorem dX7_makes_0 : decode cX7_makes 0 = .ok (.aload_n 0, 1) := by decide +kernel
theorem dX7_makes_1 : decode cX7_makes 1 = .ok (.getfield 7, 3) := by decide +kernel
theorem dX7_makes_4 : decode cX7_makes 4 = .ok (.bipush 18, 2) := by decide +kernel
theorem dX7_makes_6 : decode cX7_makes 6 = .ok (.aload_n 0, 1) := by decide +kernel
theorem dX7_makes_7 : decode cX7_makes 7 = .ok (.getfield 118, 3) := by decide +kernel
theorem dX7_makes_10 : decode cX7_makes 10 = .ok (.iadd, 1) := by decide +kernel
theorem dX7_makes_11 : decode cX7_makes 11 = .ok (.aload_n 0, 1) := by decide +kernel
theorem dX7_makes_12 : decode cX7_makes 12 = .ok (.getfield 121, 3) := by decide +kernel
theorem dX7_makes_15 : decode cX7_makes 15 = .ok (.iastore, 1) := by decide +kernel
theorem dX7_makes_16 : decode cX7_makes 16 = .ok (.return_, 1) := by decide +kernel
theorem dX7_fails_0 : decode cX7_fails 0 = .ok (.iconst 0, 1) := by decide +kernel
theorem dX7_fails_1 : decode cX7_fails 1 = .ok (.istore_n 3, 1) := by decide +kernel
theorem dX7_fails_2 : decode cX7_fails 2 = .ok (.iload_n 3, 1) := by decide +kernel
theorem dX7_fails_3 : decode cX7_fails 3 = .ok (.bipush 40, 2) := by decide +kernel
theorem dX7_fails_5 : decode cX7_fails 5 = .ok (.if_icmp .ge 24, 3) := by decide +kernel
theorem dX7_fails_8 : decode cX7_fails 8 = .ok (.aload_n 0, 1) := by decide +kernel
theorem dX7_fails_9 : decode cX7_fails 9 = .ok (.getfield 29, 3) := by decide +kernel
theorem dX7_fails_12 : decode cX7_fails 12 = .ok (.iload_n 3, 1) := by decide +kernel
theorem dX7_fails_13 : decode cX7_fails 13 = .ok (.aload_n 0, 1) := by decide +kernel
theorem dX7_fails_14 : decode cX7_fails 14 = .ok (.getfield 7, 3) := by decide +kernel
theorem dX7_fails_17 : decode cX7_fails 17 = .ok (.bipush 18, 2) := by decide +kernel
theorem dX7_fails_19 : decode cX7_fails 19 = .ok (.iload_n 3, 1) := by decide +kernel
theorem dX7_fails_20 : decode cX7_fails 20 = .ok (.iadd, 1) := by decide +kernel
theorem dX7_fails_21 : decode cX7_fails 21 = .ok (.iaload, 1) := by decide +kernel
theorem dX7_fails_22 : decode cX7_fails 22 = .ok (.iastore, 1) := by decide +kernel
theorem dX7_fails_23 : decode cX7_fails 23 = .ok (.iinc 3 1, 3) := by decide +kernel
theorem dX7_fails_26 : decode cX7_fails 26 = .ok (.goto (-24), 3) := by decide +kernel
theorem dX7_fails_29 : decode cX7_fails 29 = .ok (.aload_n 0, 1) := by decide +kernel
theorem dX7_fails_30 : decode cX7_fails 30 = .ok (.getfield 7, 3) := by decide +kernel
theorem dX7_fails_33 : decode cX7_fails 33 = .ok (.bipush 18, 2) := by decide +kernel
theorem dX7_fails_35 : decode cX7_fails 35 = .ok (.iload_n 1, 1) := by decide +kernel
theorem dX7_fails_36 : decode cX7_fails 36 = .ok (.iadd, 1) := by decide +kernel
theorem dX7_fails_37 : decode cX7_fails 37 = .ok (.iload_n 2, 1) := by decide +kernel
theorem dX7_fails_38 : decode cX7_fails 38 = .ok (.iastore, 1) := by decide +kernel
theorem dX7_fails_39 : decode cX7_fails 39 = .ok (.aload_n 0, 1) := by decide +kernel
theorem dX7_fails_40 : decode cX7_fails 40 = .ok (.iconst 5, 1) := by decide +kernel
theorem dX7_fails_41 : decode cX7_fails 41 = .ok (.invokevirtual 149, 3) := by decide +kernel
theorem dX7_fails_44 : decode cX7_fails 44 = .ok (.ifCond .eq 10, 3) := by decide +kernel
theorem dX7_fails_47 : decode cX7_fails 47 = .ok (.aload_n 0, 1) := by decide +kernel
theorem dX7_fails_48 : decode cX7_fails 48 = .ok (.invokevirtual 152, 3) := by decide +kernel
theorem dX7_fails_51 : decode cX7_fails 51 = .ok (.goto (-12), 3) := by decide +kernel
theorem dX7_fails_54 : decode cX7_fails 54 = .ok (.aload_n 0, 1) := by decide +kernel
theorem dX7_fails_55 : decode cX7_fails 55 = .ok (.invokevirtual 137, 3) := by decide +kernel
theorem dX7_fails_58 : decode cX7_fails 58 = .ok (.ifCond .ne 7, 3) := by decide +kernel
theorem dX7_fails_61 : decode cX7_fails 61 = .ok (.iconst 1, 1) := by decide +kernel
theorem dX7_fails_62 : decode cX7_fails 62 = .ok (.goto 4, 3) := by decide +kernel
theorem dX7_fails_65 : decode cX7_fails 65 = .ok (.iconst 0, 1) := by decide +kernel
theorem dX7_fails_66 : decode cX7_fails 66 = .ok (.istore_n 3, 1) := by decide +kernel
theorem dX7_fails_67 : decode cX7_fails 67 = .ok (.iconst 0, 1) := by decide +kernel
theorem dX7_fails_68 : decode cX7_fails 68 = .ok (.istore 4, 2) := by decide +kernel
theorem dX7_fails_70 : decode cX7_fails 70 = .ok (.iload 4, 2) := by decide +kernel
theorem dX7_fails_72 : decode cX7_fails 72 = .ok (.bipush 40, 2) := by decide +kernel
theorem dX7_fails_74 : decode cX7_fails 74 = .ok (.if_icmp .ge 26, 3) := by decide +kernel
theorem dX7_fails_77 : decode cX7_fails 77 = .ok (.aload_n 0, 1) := by decide +kernel
theorem dX7_fails_78 : decode cX7_fails 78 = .ok (.getfield 7, 3) := by decide +kernel
theorem dX7_fails_81 : decode cX7_fails 81 = .ok (.bipush 18, 2) := by decide +kernel
theorem dX7_fails_83 : decode cX7_fails 83 = .ok (.iload 4, 2) := by decide +kernel
theorem dX7_fails_85 : decode cX7_fails 85 = .ok (.iadd, 1) := by decide +kernel
theorem dX7_fails_86 : decode cX7_fails 86 = .ok (.aload_n 0, 1) := by decide +kernel
theorem dX7_fails_87 : decode cX7_fails 87 = .ok (.getfield 29, 3) := by decide +kernel
theorem dX7_fails_90 : decode cX7_fails 90 = .ok (.iload 4, 2) := by decide +kernel
theorem dX7_fails_92 : decode cX7_fails 92 = .ok (.iaload, 1) := by decide +kernel
theorem dX7_fails_93 : decode cX7_fails 93 = .ok (.iastore, 1) := by decide +kernel
theorem dX7_fails_94 : decode cX7_fails 94 = .ok (.iinc 4 1, 3) := by decide +kernel
theorem dX7_fails_97 : decode cX7_fails 97 = .ok (.goto (-27), 3) := by decide +kernel
theorem dX7_fails_100 : decode cX7_fails 100 = .ok (.iload_n 3, 1) := by decide +kernel
theorem dX7_fails_101 : decode cX7_fails 101 = .ok (.ireturn, 1) := by decide +kernel
theorem dX7_byTrials_0 : decode cX7_byTrials 0 = .ok (.iconst 0, 1) := by decide +kernel
theorem dX7_byTrials_1 : decode cX7_byTrials 1 = .ok (.istore_n 2, 1) := by decide +kernel
theorem dX7_byTrials_2 : decode cX7_byTrials 2 = .ok (.iload_n 2, 1) := by decide +kernel
theorem dX7_byTrials_3 : decode cX7_byTrials 3 = .ok (.aload_n 0, 1) := by decide +kernel
theorem dX7_byTrials_4 : decode cX7_byTrials 4 = .ok (.invokevirtual 69, 3) := by decide +kernel
theorem dX7_byTrials_7 : decode cX7_byTrials 7 = .ok (.if_icmp .ge 55, 3) := by decide +kernel
theorem dX7_byTrials_10 : decode cX7_byTrials 10 = .ok (.aload_n 0, 1) := by decide +kernel
theorem dX7_byTrials_11 : decode cX7_byTrials 11 = .ok (.iload_n 2, 1) := by decide +kernel
theorem dX7_byTrials_12 : decode cX7_byTrials 12 = .ok (.invokevirtual 56, 3) := by decide +kernel
theorem dX7_byTrials_15 : decode cX7_byTrials 15 = .ok (.ifCond .ne 41, 3) := by decide +kernel
theorem dX7_byTrials_18 : decode cX7_byTrials 18 = .ok (.aload_n 0, 1) := by decide +kernel
theorem dX7_byTrials_19 : decode cX7_byTrials 19 = .ok (.iload_n 2, 1) := by decide +kernel
theorem dX7_byTrials_20 : decode cX7_byTrials 20 = .ok (.iload_n 1, 1) := by decide +kernel
theorem dX7_byTrials_21 : decode cX7_byTrials 21 = .ok (.bipush 6, 2) := by decide +kernel
theorem dX7_byTrials_23 : decode cX7_byTrials 23 = .ok (.if_icmp .ne 7, 3) := by decide +kernel
theorem dX7_byTrials_26 : decode cX7_byTrials 26 = .ok (.iconst 1, 1) := by decide +kernel
theorem dX7_byTrials_27 : decode cX7_byTrials 27 = .ok (.goto 4, 3) := by decide +kernel
theorem dX7_byTrials_30 : decode cX7_byTrials 30 = .ok (.iconst 2, 1) := by decide +kernel
theorem dX7_byTrials_31 : decode cX7_byTrials 31 = .ok (.invokevirtual 155, 3) := by decide +kernel
theorem dX7_byTrials_34 : decode cX7_byTrials 34 = .ok (.ifCond .eq 22, 3) := by decide +kernel
theorem dX7_byTrials_37 : decode cX7_byTrials 37 = .ok (.aload_n 0, 1) := by decide +kernel
theorem dX7_byTrials_38 : decode cX7_byTrials 38 = .ok (.iload_n 1, 1) := by decide +kernel
theorem dX7_byTrials_39 : decode cX7_byTrials 39 = .ok (.iload_n 2, 1) := by decide +kernel
theorem dX7_byTrials_40 : decode cX7_byTrials 40 = .ok (.iload_n 1, 1) := by decide +kernel
theorem dX7_byTrials_41 : decode cX7_byTrials 41 = .ok (.bipush 6, 2) := by decide +kernel
theorem dX7_byTrials_43 : decode cX7_byTrials 43 = .ok (.if_icmp .ne 7, 3) := by decide +kernel
theorem dX7_byTrials_46 : decode cX7_byTrials 46 = .ok (.iconst 2, 1) := by decide +kernel
theorem dX7_byTrials_47 : decode cX7_byTrials 47 = .ok (.goto 4, 3) := by decide +kernel
theorem dX7_byTrials_50 : decode cX7_byTrials 50 = .ok (.iconst 1, 1) := by decide +kernel
theorem dX7_byTrials_51 : decode cX7_byTrials 51 = .ok (.iconst (-1), 1) := by decide +kernel
theorem dX7_byTrials_52 : decode cX7_byTrials 52 = .ok (.invokevirtual 130, 3) := by decide +kernel
theorem dX7_byTrials_55 : decode cX7_byTrials 55 = .ok (.ireturn, 1) := by decide +kernel
theorem dX7_byTrials_56 : decode cX7_byTrials 56 = .ok (.iinc 2 1, 3) := by decide +kernel
theorem dX7_byTrials_59 : decode cX7_byTrials 59 = .ok (.goto (-57), 3) := by decide +kernel
theorem dX7_byTrials_62 : decode cX7_byTrials 62 = .ok (.iconst 0, 1) := by decide +kernel
theorem dX7_byTrials_63 : decode cX7_byTrials 63 = .ok (.ireturn, 1) := by decide +kernel
theorem dX7_findsNext_0 : decode cX7_findsNext 0 = .ok (.aload_n 0, 1) := by decide +kernel
theorem dX7_findsNext_1 : decode cX7_findsNext 1 = .ok (.iload_n 1, 1) := by decide +kernel
theorem dX7_findsNext_2 : decode cX7_findsNext 2 = .ok (.invokevirtual 149, 3) := by decide +kernel
theorem dX7_findsNext_5 : decode cX7_findsNext 5 = .ok (.ifCond .eq 5, 3) := by decide +kernel
theorem dX7_findsNext_8 : decode cX7_findsNext 8 = .ok (.iconst 1, 1) := by decide +kernel
theorem dX7_findsNext_9 : decode cX7_findsNext 9 = .ok (.ireturn, 1) := by decide +kernel
theorem dX7_findsNext_10 : decode cX7_findsNext 10 = .ok (.iload_n 1, 1) := by decide +kernel
theorem dX7_findsNext_11 : decode cX7_findsNext 11 = .ok (.bipush 6, 2) := by decide +kernel
theorem dX7_findsNext_13 : decode cX7_findsNext 13 = .ok (.if_icmp .lt 17, 3) := by decide +kernel
theorem dX7_findsNext_16 : decode cX7_findsNext 16 = .ok (.aload_n 0, 1) := by decide +kernel
theorem dX7_findsNext_17 : decode cX7_findsNext 17 = .ok (.invokevirtual 137, 3) := by decide +kernel
theorem dX7_findsNext_20 : decode cX7_findsNext 20 = .ok (.ifCond .eq 10, 3) := by decide +kernel
theorem dX7_findsNext_23 : decode cX7_findsNext 23 = .ok (.aload_n 0, 1) := by decide +kernel
theorem dX7_findsNext_24 : decode cX7_findsNext 24 = .ok (.getfield 97, 3) := by decide +kernel
theorem dX7_findsNext_27 : decode cX7_findsNext 27 = .ok (.ifCond .eq 5, 3) := by decide +kernel
theorem dX7_findsNext_30 : decode cX7_findsNext 30 = .ok (.iconst 0, 1) := by decide +kernel
theorem dX7_findsNext_31 : decode cX7_findsNext 31 = .ok (.ireturn, 1) := by decide +kernel
theorem dX7_findsNext_32 : decode cX7_findsNext 32 = .ok (.aload_n 0, 1) := by decide +kernel
theorem dX7_findsNext_33 : decode cX7_findsNext 33 = .ok (.bipush 6, 2) := by decide +kernel
theorem dX7_findsNext_35 : decode cX7_findsNext 35 = .ok (.invokevirtual 159, 3) := by decide +kernel
theorem dX7_findsNext_38 : decode cX7_findsNext 38 = .ok (.ifCond .ne 18, 3) := by decide +kernel
theorem dX7_findsNext_41 : decode cX7_findsNext 41 = .ok (.iload_n 1, 1) := by decide +kernel
theorem dX7_findsNext_42 : decode cX7_findsNext 42 = .ok (.bipush 7, 2) := by decide +kernel
theorem dX7_findsNext_44 : decode cX7_findsNext 44 = .ok (.if_icmp .ne 16, 3) := by decide +kernel
theorem dX7_findsNext_47 : decode cX7_findsNext 47 = .ok (.aload_n 0, 1) := by decide +kernel
theorem dX7_findsNext_48 : decode cX7_findsNext 48 = .ok (.bipush 7, 2) := by decide +kernel
theorem dX7_findsNext_50 : decode cX7_findsNext 50 = .ok (.invokevirtual 159, 3) := by decide +kernel
theorem dX7_findsNext_53 : decode cX7_findsNext 53 = .ok (.ifCond .eq 7, 3) := by decide +kernel
theorem dX7_findsNext_56 : decode cX7_findsNext 56 = .ok (.iconst 1, 1) := by decide +kernel
theorem dX7_findsNext_57 : decode cX7_findsNext 57 = .ok (.goto 4, 3) := by decide +kernel
theorem dX7_findsNext_60 : decode cX7_findsNext 60 = .ok (.iconst 0, 1) := by decide +kernel
theorem dX7_findsNext_61 : decode cX7_findsNext 61 = .ok (.ireturn, 1) := by decide +kernel
theorem dX7_type_0 : decode cX7_type 0 = .ok (.iload_n 1, 1) := by decide +kernel
theorem dX7_type_1 : decode cX7_type 1 = .ok (.iconst 0, 1) := by decide +kernel
theorem dX7_type_2 : decode cX7_type 2 = .ok (.bipush 127, 2) := by decide +kernel
theorem dX7_type_4 : decode cX7_type 4 = .ok (.invokestatic 162, 3) := by decide +kernel
theorem dX7_type_7 : decode cX7_type 7 = .ok (.ifCond .ne 6, 3) := by decide +kernel
theorem dX7_type_10 : decode cX7_type 10 = .ok (.bipush (-2), 2) := by decide +kernel
theorem dX7_type_12 : decode cX7_type 12 = .ok (.ireturn, 1) := by decide +kernel
theorem dX7_type_13 : decode cX7_type 13 = .ok (.aload_n 0, 1) := by decide +kernel
theorem dX7_type_14 : decode cX7_type 14 = .ok (.getfield 166, 3) := by decide +kernel
theorem dX7_type_17 : decode cX7_type 17 = .ok (.bipush 40, 2) := by decide +kernel
theorem dX7_type_19 : decode cX7_type 19 = .ok (.if_icmp .ne 6, 3) := by decide +kernel
theorem dX7_type_22 : decode cX7_type 22 = .ok (.bipush (-4), 2) := by decide +kernel
theorem dX7_type_24 : decode cX7_type 24 = .ok (.ireturn, 1) := by decide +kernel
theorem dX7_type_25 : decode cX7_type 25 = .ok (.aload_n 0, 1) := by decide +kernel
theorem dX7_type_26 : decode cX7_type 26 = .ok (.getfield 16, 3) := by decide +kernel
theorem dX7_type_29 : decode cX7_type 29 = .ok (.aload_n 0, 1) := by decide +kernel
theorem dX7_type_30 : decode cX7_type 30 = .ok (.getfield 166, 3) := by decide +kernel
theorem dX7_type_33 : decode cX7_type 33 = .ok (.iload_n 1, 1) := by decide +kernel
theorem dX7_type_34 : decode cX7_type 34 = .ok (.iastore, 1) := by decide +kernel
theorem dX7_type_35 : decode cX7_type 35 = .ok (.aload_n 0, 1) := by decide +kernel
theorem dX7_type_36 : decode cX7_type 36 = .ok (.dup, 1) := by decide +kernel
theorem dX7_type_37 : decode cX7_type 37 = .ok (.getfield 166, 3) := by decide +kernel
theorem dX7_type_40 : decode cX7_type 40 = .ok (.iconst 1, 1) := by decide +kernel
theorem dX7_type_41 : decode cX7_type 41 = .ok (.iadd, 1) := by decide +kernel
theorem dX7_type_42 : decode cX7_type 42 = .ok (.putfield 166, 3) := by decide +kernel
theorem dX7_type_45 : decode cX7_type 45 = .ok (.aload_n 0, 1) := by decide +kernel
theorem dX7_type_46 : decode cX7_type 46 = .ok (.getfield 166, 3) := by decide +kernel
theorem dX7_type_49 : decode cX7_type 49 = .ok (.ireturn, 1) := by decide +kernel
theorem dX7_clearText_0 : decode cX7_clearText 0 = .ok (.aload_n 0, 1) := by decide +kernel
theorem dX7_clearText_1 : decode cX7_clearText 1 = .ok (.getfield 166, 3) := by decide +kernel
theorem dX7_clearText_4 : decode cX7_clearText 4 = .ok (.istore_n 1, 1) := by decide +kernel
theorem dX7_clearText_5 : decode cX7_clearText 5 = .ok (.aload_n 0, 1) := by decide +kernel
theorem dX7_clearText_6 : decode cX7_clearText 6 = .ok (.iconst 0, 1) := by decide +kernel
theorem dX7_clearText_7 : decode cX7_clearText 7 = .ok (.putfield 166, 3) := by decide +kernel
theorem dX7_clearText_10 : decode cX7_clearText 10 = .ok (.iload_n 1, 1) := by decide +kernel
theorem dX7_clearText_11 : decode cX7_clearText 11 = .ok (.ireturn, 1) := by decide +kernel
theorem dX7_next_0 : decode cX7_next 0 = .ok (.aload_n 0, 1) := by decide +kernel
theorem dX7_next_1 : decode cX7_next 1 = .ok (.getfield 169, 3) := by decide +kernel
theorem dX7_next_4 : decode cX7_next 4 = .ok (.aload_n 0, 1) := by decide +kernel
theorem dX7_next_5 : decode cX7_next 5 = .ok (.getfield 166, 3) := by decide +kernel
theorem dX7_next_8 : decode cX7_next 8 = .ok (.if_icmp .ge 30, 3) := by decide +kernel
theorem dX7_next_11 : decode cX7_next 11 = .ok (.aload_n 0, 1) := by decide +kernel
theorem dX7_next_12 : decode cX7_next 12 = .ok (.getfield 16, 3) := by decide +kernel
theorem dX7_next_15 : decode cX7_next 15 = .ok (.aload_n 0, 1) := by decide +kernel
theorem dX7_next_16 : decode cX7_next 16 = .ok (.getfield 169, 3) := by decide +kernel
theorem dX7_next_19 : decode cX7_next 19 = .ok (.iaload, 1) := by decide +kernel
theorem dX7_next_20 : decode cX7_next 20 = .ok (.bipush 32, 2) := by decide +kernel
theorem dX7_next_22 : decode cX7_next 22 = .ok (.if_icmp .ne 16, 3) := by decide +kernel
theorem dX7_next_25 : decode cX7_next 25 = .ok (.aload_n 0, 1) := by decide +kernel
theorem dX7_next_26 : decode cX7_next 26 = .ok (.dup, 1) := by decide +kernel
theorem dX7_next_27 : decode cX7_next 27 = .ok (.getfield 169, 3) := by decide +kernel
theorem dX7_next_30 : decode cX7_next 30 = .ok (.iconst 1, 1) := by decide +kernel
theorem dX7_next_31 : decode cX7_next 31 = .ok (.iadd, 1) := by decide +kernel
theorem dX7_next_32 : decode cX7_next 32 = .ok (.putfield 169, 3) := by decide +kernel
theorem dX7_next_35 : decode cX7_next 35 = .ok (.goto (-35), 3) := by decide +kernel
theorem dX7_next_38 : decode cX7_next 38 = .ok (.aload_n 0, 1) := by decide +kernel
theorem dX7_next_39 : decode cX7_next 39 = .ok (.getfield 169, 3) := by decide +kernel
theorem dX7_next_42 : decode cX7_next 42 = .ok (.aload_n 0, 1) := by decide +kernel
theorem dX7_next_43 : decode cX7_next 43 = .ok (.getfield 166, 3) := by decide +kernel
theorem dX7_next_46 : decode cX7_next 46 = .ok (.if_icmp .ge 15, 3) := by decide +kernel
theorem dX7_next_49 : decode cX7_next 49 = .ok (.aload_n 0, 1) := by decide +kernel
theorem dX7_next_50 : decode cX7_next 50 = .ok (.getfield 16, 3) := by decide +kernel
theorem dX7_next_53 : decode cX7_next 53 = .ok (.aload_n 0, 1) := by decide +kernel
theorem dX7_next_54 : decode cX7_next 54 = .ok (.getfield 169, 3) := by decide +kernel
theorem dX7_next_57 : decode cX7_next 57 = .ok (.iaload, 1) := by decide +kernel
theorem dX7_next_58 : decode cX7_next 58 = .ok (.goto 4, 3) := by decide +kernel
theorem dX7_next_61 : decode cX7_next 61 = .ok (.iconst (-1), 1) := by decide +kernel
theorem dX7_next_62 : decode cX7_next 62 = .ok (.ireturn, 1) := by decide +kernel
theorem dX7_readsRow_0 : decode cX7_readsRow 0 = .ok (.iconst 0, 1) := by decide +kernel
theorem dX7_readsRow_1 : decode cX7_readsRow 1 = .ok (.istore_n 3, 1) := by decide +kernel
theorem dX7_readsRow_2 : decode cX7_readsRow 2 = .ok (.iload_n 3, 1) := by decide +kernel
theorem dX7_readsRow_3 : decode cX7_readsRow 3 = .ok (.iload_n 2, 1) := by decide +kernel
theorem dX7_readsRow_4 : decode cX7_readsRow 4 = .ok (.if_icmp .ge 75, 3) := by decide +kernel
theorem dX7_readsRow_7 : decode cX7_readsRow 7 = .ok (.aload_n 0, 1) := by decide +kernel
theorem dX7_readsRow_8 : decode cX7_readsRow 8 = .ok (.invokevirtual 172, 3) := by decide +kernel
theorem dX7_readsRow_11 : decode cX7_readsRow 11 = .ok (.bipush 48, 2) := by decide +kernel
theorem dX7_readsRow_13 : decode cX7_readsRow 13 = .ok (.bipush 51, 2) := by decide +kernel
theorem dX7_readsRow_15 : decode cX7_readsRow 15 = .ok (.invokestatic 162, 3) := by decide +kernel
theorem dX7_readsRow_18 : decode cX7_readsRow 18 = .ok (.ifCond .ne 12, 3) := by decide +kernel
theorem dX7_readsRow_21 : decode cX7_readsRow 21 = .ok (.aload_n 0, 1) := by decide +kernel
theorem dX7_readsRow_22 : decode cX7_readsRow 22 = .ok (.invokevirtual 172, 3) := by decide +kernel
theorem dX7_readsRow_25 : decode cX7_readsRow 25 = .ok (.bipush 46, 2) := by decide +kernel
theorem dX7_readsRow_27 : decode cX7_readsRow 27 = .ok (.if_icmp .ne 52, 3) := by decide +kernel
theorem dX7_readsRow_30 : decode cX7_readsRow 30 = .ok (.aload_n 0, 1) := by decide +kernel
theorem dX7_readsRow_31 : decode cX7_readsRow 31 = .ok (.getfield 32, 3) := by decide +kernel
theorem dX7_readsRow_34 : decode cX7_readsRow 34 = .ok (.aload_n 0, 1) := by decide +kernel
theorem dX7_readsRow_35 : decode cX7_readsRow 35 = .ok (.getfield 175, 3) := by decide +kernel
theorem dX7_readsRow_38 : decode cX7_readsRow 38 = .ok (.iconst 4, 1) := by decide +kernel
theorem dX7_readsRow_39 : decode cX7_readsRow 39 = .ok (.imul, 1) := by decide +kernel
theorem dX7_readsRow_40 : decode cX7_readsRow 40 = .ok (.iload_n 3, 1) := by decide +kernel
theorem dX7_readsRow_41 : decode cX7_readsRow 41 = .ok (.iadd, 1) := by decide +kernel
theorem dX7_readsRow_42 : decode cX7_readsRow 42 = .ok (.aload_n 0, 1) := by decide +kernel
theorem dX7_readsRow_43 : decode cX7_readsRow 43 = .ok (.invokevirtual 172, 3) := by decide +kernel
theorem dX7_readsRow_46 : decode cX7_readsRow 46 = .ok (.bipush 46, 2) := by decide +kernel
theorem dX7_readsRow_48 : decode cX7_readsRow 48 = .ok (.if_icmp .ne 7, 3) := by decide +kernel
theorem dX7_readsRow_51 : decode cX7_readsRow 51 = .ok (.iconst (-1), 1) := by decide +kernel
theorem dX7_readsRow_52 : decode cX7_readsRow 52 = .ok (.goto 10, 3) := by decide +kernel
theorem dX7_readsRow_55 : decode cX7_readsRow 55 = .ok (.aload_n 0, 1) := by decide +kernel
theorem dX7_readsRow_56 : decode cX7_readsRow 56 = .ok (.invokevirtual 172, 3) := by decide +kernel
theorem dX7_readsRow_59 : decode cX7_readsRow 59 = .ok (.bipush 48, 2) := by decide +kernel
theorem dX7_readsRow_61 : decode cX7_readsRow 61 = .ok (.isub, 1) := by decide +kernel
theorem dX7_readsRow_62 : decode cX7_readsRow 62 = .ok (.iastore, 1) := by decide +kernel
theorem dX7_readsRow_63 : decode cX7_readsRow 63 = .ok (.aload_n 0, 1) := by decide +kernel
theorem dX7_readsRow_64 : decode cX7_readsRow 64 = .ok (.dup, 1) := by decide +kernel
theorem dX7_readsRow_65 : decode cX7_readsRow 65 = .ok (.getfield 169, 3) := by decide +kernel
theorem dX7_readsRow_68 : decode cX7_readsRow 68 = .ok (.iconst 1, 1) := by decide +kernel
theorem dX7_readsRow_69 : decode cX7_readsRow 69 = .ok (.iadd, 1) := by decide +kernel
theorem dX7_readsRow_70 : decode cX7_readsRow 70 = .ok (.putfield 169, 3) := by decide +kernel
theorem dX7_readsRow_73 : decode cX7_readsRow 73 = .ok (.iinc 3 1, 3) := by decide +kernel
theorem dX7_readsRow_76 : decode cX7_readsRow 76 = .ok (.goto (-74), 3) := by decide +kernel
theorem dX7_readsRow_79 : decode cX7_readsRow 79 = .ok (.aload_n 0, 1) := by decide +kernel
theorem dX7_readsRow_80 : decode cX7_readsRow 80 = .ok (.iload_n 3, 1) := by decide +kernel
theorem dX7_readsRow_81 : decode cX7_readsRow 81 = .ok (.putfield 178, 3) := by decide +kernel
theorem dX7_readsRow_84 : decode cX7_readsRow 84 = .ok (.aload_n 0, 1) := by decide +kernel
theorem dX7_readsRow_85 : decode cX7_readsRow 85 = .ok (.dup, 1) := by decide +kernel
theorem dX7_readsRow_86 : decode cX7_readsRow 86 = .ok (.getfield 175, 3) := by decide +kernel
theorem dX7_readsRow_89 : decode cX7_readsRow 89 = .ok (.iconst 1, 1) := by decide +kernel
theorem dX7_readsRow_90 : decode cX7_readsRow 90 = .ok (.iadd, 1) := by decide +kernel
theorem dX7_readsRow_91 : decode cX7_readsRow 91 = .ok (.putfield 175, 3) := by decide +kernel
theorem dX7_readsRow_94 : decode cX7_readsRow 94 = .ok (.iload_n 3, 1) := by decide +kernel
theorem dX7_readsRow_95 : decode cX7_readsRow 95 = .ok (.iload_n 1, 1) := by decide +kernel
theorem dX7_readsRow_96 : decode cX7_readsRow 96 = .ok (.if_icmp .lt 7, 3) := by decide +kernel
theorem dX7_readsRow_99 : decode cX7_readsRow 99 = .ok (.iconst 1, 1) := by decide +kernel
theorem dX7_readsRow_100 : decode cX7_readsRow 100 = .ok (.goto 4, 3) := by decide +kernel
theorem dX7_readsRow_103 : decode cX7_readsRow 103 = .ok (.iconst 0, 1) := by decide +kernel
theorem dX7_readsRow_104 : decode cX7_readsRow 104 = .ok (.ireturn, 1) := by decide +kernel
theorem dX7_reads_0 : decode cX7_reads 0 = .ok (.aload_n 0, 1) := by decide +kernel
theorem dX7_reads_1 : decode cX7_reads 1 = .ok (.iconst 0, 1) := by decide +kernel
theorem dX7_reads_2 : decode cX7_reads 2 = .ok (.putfield 169, 3) := by decide +kernel
theorem dX7_reads_5 : decode cX7_reads 5 = .ok (.aload_n 0, 1) := by decide +kernel
theorem dX7_reads_6 : decode cX7_reads 6 = .ok (.iconst (-1), 1) := by decide +kernel
theorem dX7_reads_7 : decode cX7_reads 7 = .ok (.putfield 181, 3) := by decide +kernel
theorem dX7_reads_10 : decode cX7_reads 10 = .ok (.aload_n 0, 1) := by decide +kernel
theorem dX7_reads_11 : decode cX7_reads 11 = .ok (.iconst 0, 1) := by decide +kernel
theorem dX7_reads_12 : decode cX7_reads 12 = .ok (.putfield 175, 3) := by decide +kernel
theorem dX7_reads_15 : decode cX7_reads 15 = .ok (.aload_n 0, 1) := by decide +kernel
theorem dX7_reads_16 : decode cX7_reads 16 = .ok (.iconst 1, 1) := by decide +kernel
theorem dX7_reads_17 : decode cX7_reads 17 = .ok (.iconst 4, 1) := by decide +kernel
theorem dX7_reads_18 : decode cX7_reads 18 = .ok (.invokevirtual 184, 3) := by decide +kernel
theorem dX7_reads_21 : decode cX7_reads 21 = .ok (.istore_n 1, 1) := by decide +kernel
theorem dX7_reads_22 : decode cX7_reads 22 = .ok (.aload_n 0, 1) := by decide +kernel
theorem dX7_reads_23 : decode cX7_reads 23 = .ok (.getfield 178, 3) := by decide +kernel
theorem dX7_reads_26 : decode cX7_reads 26 = .ok (.istore_n 2, 1) := by decide +kernel
theorem dX7_reads_27 : decode cX7_reads 27 = .ok (.iload_n 1, 1) := by decide +kernel
theorem dX7_reads_28 : decode cX7_reads 28 = .ok (.ifCond .eq 40, 3) := by decide +kernel
theorem dX7_reads_31 : decode cX7_reads 31 = .ok (.aload_n 0, 1) := by decide +kernel
theorem dX7_reads_32 : decode cX7_reads 32 = .ok (.getfield 175, 3) := by decide +kernel
theorem dX7_reads_35 : decode cX7_reads 35 = .ok (.iconst 4, 1) := by decide +kernel
theorem dX7_reads_36 : decode cX7_reads 36 = .ok (.if_icmp .ge 32, 3) := by decide +kernel
theorem dX7_reads_39 : decode cX7_reads 39 = .ok (.aload_n 0, 1) := by decide +kernel
theorem dX7_reads_40 : decode cX7_reads 40 = .ok (.invokevirtual 172, 3) := by decide +kernel
theorem dX7_reads_43 : decode cX7_reads 43 = .ok (.bipush 47, 2) := by decide +kernel
theorem dX7_reads_45 : decode cX7_reads 45 = .ok (.if_icmp .ne 23, 3) := by decide +kernel
theorem dX7_reads_48 : decode cX7_reads 48 = .ok (.aload_n 0, 1) := by decide +kernel
theorem dX7_reads_49 : decode cX7_reads 49 = .ok (.dup, 1) := by decide +kernel
theorem dX7_reads_50 : decode cX7_reads 50 = .ok (.getfield 169, 3) := by decide +kernel
theorem dX7_reads_53 : decode cX7_reads 53 = .ok (.iconst 1, 1) := by decide +kernel
theorem dX7_reads_54 : decode cX7_reads 54 = .ok (.iadd, 1) := by decide +kernel
theorem dX7_reads_55 : decode cX7_reads 55 = .ok (.putfield 169, 3) := by decide +kernel
theorem dX7_reads_58 : decode cX7_reads 58 = .ok (.aload_n 0, 1) := by decide +kernel
theorem dX7_reads_59 : decode cX7_reads 59 = .ok (.iload_n 2, 1) := by decide +kernel
theorem dX7_reads_60 : decode cX7_reads 60 = .ok (.iload_n 2, 1) := by decide +kernel
theorem dX7_reads_61 : decode cX7_reads 61 = .ok (.invokevirtual 184, 3) := by decide +kernel
theorem dX7_reads_64 : decode cX7_reads 64 = .ok (.istore_n 1, 1) := by decide +kernel
theorem dX7_reads_65 : decode cX7_reads 65 = .ok (.goto (-38), 3) := by decide +kernel
theorem dX7_reads_68 : decode cX7_reads 68 = .ok (.aload_n 0, 1) := by decide +kernel
theorem dX7_reads_69 : decode cX7_reads 69 = .ok (.aload_n 0, 1) := by decide +kernel
theorem dX7_reads_70 : decode cX7_reads 70 = .ok (.invokevirtual 172, 3) := by decide +kernel
theorem dX7_reads_73 : decode cX7_reads 73 = .ok (.iconst (-1), 1) := by decide +kernel
theorem dX7_reads_74 : decode cX7_reads 74 = .ok (.if_icmp .ne 7, 3) := by decide +kernel
theorem dX7_reads_77 : decode cX7_reads 77 = .ok (.iload_n 1, 1) := by decide +kernel
theorem dX7_reads_78 : decode cX7_reads 78 = .ok (.ifCond .ne 10, 3) := by decide +kernel
theorem dX7_reads_81 : decode cX7_reads 81 = .ok (.aload_n 0, 1) := by decide +kernel
theorem dX7_reads_82 : decode cX7_reads 82 = .ok (.getfield 169, 3) := by decide +kernel
theorem dX7_reads_85 : decode cX7_reads 85 = .ok (.goto 4, 3) := by decide +kernel
theorem dX7_reads_88 : decode cX7_reads 88 = .ok (.iconst (-1), 1) := by decide +kernel
theorem dX7_reads_89 : decode cX7_reads 89 = .ok (.putfield 181, 3) := by decide +kernel
theorem dX7_reads_92 : decode cX7_reads 92 = .ok (.return_, 1) := by decide +kernel
theorem dX7_fault_0 : decode cX7_fault 0 = .ok (.aload_n 0, 1) := by decide +kernel
theorem dX7_fault_1 : decode cX7_fault 1 = .ok (.invokevirtual 187, 3) := by decide +kernel
theorem dX7_fault_4 : decode cX7_fault 4 = .ok (.aload_n 0, 1) := by decide +kernel
theorem dX7_fault_5 : decode cX7_fault 5 = .ok (.getfield 181, 3) := by decide +kernel
theorem dX7_fault_8 : decode cX7_fault 8 = .ok (.ireturn, 1) := by decide +kernel
theorem dX7_setPuzzle_0 : decode cX7_setPuzzle 0 = .ok (.aload_n 0, 1) := by decide +kernel
theorem dX7_setPuzzle_1 : decode cX7_setPuzzle 1 = .ok (.invokevirtual 187, 3) := by decide +kernel
theorem dX7_setPuzzle_4 : decode cX7_setPuzzle 4 = .ok (.aload_n 0, 1) := by decide +kernel
theorem dX7_setPuzzle_5 : decode cX7_setPuzzle 5 = .ok (.getfield 181, 3) := by decide +kernel
theorem dX7_setPuzzle_8 : decode cX7_setPuzzle 8 = .ok (.iconst (-1), 1) := by decide +kernel
theorem dX7_setPuzzle_9 : decode cX7_setPuzzle 9 = .ok (.if_icmp .eq 6, 3) := by decide +kernel
theorem dX7_setPuzzle_12 : decode cX7_setPuzzle 12 = .ok (.bipush (-3), 2) := by decide +kernel
theorem dX7_setPuzzle_14 : decode cX7_setPuzzle 14 = .ok (.ireturn, 1) := by decide +kernel
theorem dX7_setPuzzle_15 : decode cX7_setPuzzle 15 = .ok (.aload_n 0, 1) := by decide +kernel
theorem dX7_setPuzzle_16 : decode cX7_setPuzzle 16 = .ok (.invokevirtual 190, 3) := by decide +kernel
theorem dX7_setPuzzle_19 : decode cX7_setPuzzle 19 = .ok (.aload_n 0, 1) := by decide +kernel
theorem dX7_setPuzzle_20 : decode cX7_setPuzzle 20 = .ok (.getfield 7, 3) := by decide +kernel
theorem dX7_setPuzzle_23 : decode cX7_setPuzzle 23 = .ok (.iconst 0, 1) := by decide +kernel
theorem dX7_setPuzzle_24 : decode cX7_setPuzzle 24 = .ok (.aload_n 0, 1) := by decide +kernel
theorem dX7_setPuzzle_25 : decode cX7_setPuzzle 25 = .ok (.getfield 178, 3) := by decide +kernel
theorem dX7_setPuzzle_28 : decode cX7_setPuzzle 28 = .ok (.iastore, 1) := by decide +kernel
theorem dX7_setPuzzle_29 : decode cX7_setPuzzle 29 = .ok (.aload_n 0, 1) := by decide +kernel
theorem dX7_setPuzzle_30 : decode cX7_setPuzzle 30 = .ok (.getfield 7, 3) := by decide +kernel
theorem dX7_setPuzzle_33 : decode cX7_setPuzzle 33 = .ok (.iconst 1, 1) := by decide +kernel
theorem dX7_setPuzzle_34 : decode cX7_setPuzzle 34 = .ok (.aload_n 0, 1) := by decide +kernel
theorem dX7_setPuzzle_35 : decode cX7_setPuzzle 35 = .ok (.getfield 175, 3) := by decide +kernel
theorem dX7_setPuzzle_38 : decode cX7_setPuzzle 38 = .ok (.iastore, 1) := by decide +kernel
theorem dX7_setPuzzle_39 : decode cX7_setPuzzle 39 = .ok (.iconst 0, 1) := by decide +kernel
theorem dX7_setPuzzle_40 : decode cX7_setPuzzle 40 = .ok (.istore_n 1, 1) := by decide +kernel
theorem dX7_setPuzzle_41 : decode cX7_setPuzzle 41 = .ok (.iload_n 1, 1) := by decide +kernel
theorem dX7_setPuzzle_42 : decode cX7_setPuzzle 42 = .ok (.bipush 16, 2) := by decide +kernel
theorem dX7_setPuzzle_44 : decode cX7_setPuzzle 44 = .ok (.if_icmp .ge 49, 3) := by decide +kernel
theorem dX7_setPuzzle_47 : decode cX7_setPuzzle 47 = .ok (.aload_n 0, 1) := by decide +kernel
theorem dX7_setPuzzle_48 : decode cX7_setPuzzle 48 = .ok (.getfield 7, 3) := by decide +kernel
theorem dX7_setPuzzle_51 : decode cX7_setPuzzle 51 = .ok (.iconst 2, 1) := by decide +kernel
theorem dX7_setPuzzle_52 : decode cX7_setPuzzle 52 = .ok (.iload_n 1, 1) := by decide +kernel
theorem dX7_setPuzzle_53 : decode cX7_setPuzzle 53 = .ok (.iadd, 1) := by decide +kernel
theorem dX7_setPuzzle_54 : decode cX7_setPuzzle 54 = .ok (.iload_n 1, 1) := by decide +kernel
theorem dX7_setPuzzle_55 : decode cX7_setPuzzle 55 = .ok (.aload_n 0, 1) := by decide +kernel
theorem dX7_setPuzzle_56 : decode cX7_setPuzzle 56 = .ok (.invokevirtual 82, 3) := by decide +kernel
theorem dX7_setPuzzle_59 : decode cX7_setPuzzle 59 = .ok (.if_icmp .ge 26, 3) := by decide +kernel
theorem dX7_setPuzzle_62 : decode cX7_setPuzzle 62 = .ok (.aload_n 0, 1) := by decide +kernel
theorem dX7_setPuzzle_63 : decode cX7_setPuzzle 63 = .ok (.getfield 32, 3) := by decide +kernel
theorem dX7_setPuzzle_66 : decode cX7_setPuzzle 66 = .ok (.iload_n 1, 1) := by decide +kernel
theorem dX7_setPuzzle_67 : decode cX7_setPuzzle 67 = .ok (.aload_n 0, 1) := by decide +kernel
theorem dX7_setPuzzle_68 : decode cX7_setPuzzle 68 = .ok (.getfield 178, 3) := by decide +kernel
theorem dX7_setPuzzle_71 : decode cX7_setPuzzle 71 = .ok (.idiv, 1) := by decide +kernel
theorem dX7_setPuzzle_72 : decode cX7_setPuzzle 72 = .ok (.iconst 4, 1) := by decide +kernel
theorem dX7_setPuzzle_73 : decode cX7_setPuzzle 73 = .ok (.imul, 1) := by decide +kernel
theorem dX7_setPuzzle_74 : decode cX7_setPuzzle 74 = .ok (.iload_n 1, 1) := by decide +kernel
theorem dX7_setPuzzle_75 : decode cX7_setPuzzle 75 = .ok (.aload_n 0, 1) := by decide +kernel
theorem dX7_setPuzzle_76 : decode cX7_setPuzzle 76 = .ok (.getfield 178, 3) := by decide +kernel
theorem dX7_setPuzzle_79 : decode cX7_setPuzzle 79 = .ok (.irem, 1) := by decide +kernel
theorem dX7_setPuzzle_80 : decode cX7_setPuzzle 80 = .ok (.iadd, 1) := by decide +kernel
theorem dX7_setPuzzle_81 : decode cX7_setPuzzle 81 = .ok (.iaload, 1) := by decide +kernel
theorem dX7_setPuzzle_82 : decode cX7_setPuzzle 82 = .ok (.goto 4, 3) := by decide +kernel
theorem dX7_setPuzzle_85 : decode cX7_setPuzzle 85 = .ok (.iconst (-1), 1) := by decide +kernel
theorem dX7_setPuzzle_86 : decode cX7_setPuzzle 86 = .ok (.iastore, 1) := by decide +kernel
theorem dX7_setPuzzle_87 : decode cX7_setPuzzle 87 = .ok (.iinc 1 1, 3) := by decide +kernel
theorem dX7_setPuzzle_90 : decode cX7_setPuzzle 90 = .ok (.goto (-49), 3) := by decide +kernel
theorem dX7_setPuzzle_93 : decode cX7_setPuzzle 93 = .ok (.bipush 18, 2) := by decide +kernel
theorem dX7_setPuzzle_95 : decode cX7_setPuzzle 95 = .ok (.istore_n 1, 1) := by decide +kernel
theorem dX7_setPuzzle_96 : decode cX7_setPuzzle 96 = .ok (.iload_n 1, 1) := by decide +kernel
theorem dX7_setPuzzle_97 : decode cX7_setPuzzle 97 = .ok (.bipush 66, 2) := by decide +kernel
theorem dX7_setPuzzle_99 : decode cX7_setPuzzle 99 = .ok (.if_icmp .ge 16, 3) := by decide +kernel
theorem dX7_setPuzzle_102 : decode cX7_setPuzzle 102 = .ok (.aload_n 0, 1) := by decide +kernel
theorem dX7_setPuzzle_103 : decode cX7_setPuzzle 103 = .ok (.getfield 7, 3) := by decide +kernel
theorem dX7_setPuzzle_106 : decode cX7_setPuzzle 106 = .ok (.iload_n 1, 1) := by decide +kernel
theorem dX7_setPuzzle_107 : decode cX7_setPuzzle 107 = .ok (.iconst 0, 1) := by decide +kernel
theorem dX7_setPuzzle_108 : decode cX7_setPuzzle 108 = .ok (.iastore, 1) := by decide +kernel
theorem dX7_setPuzzle_109 : decode cX7_setPuzzle 109 = .ok (.iinc 1 1, 3) := by decide +kernel
theorem dX7_setPuzzle_112 : decode cX7_setPuzzle 112 = .ok (.goto (-16), 3) := by decide +kernel
theorem dX7_setPuzzle_115 : decode cX7_setPuzzle 115 = .ok (.aload_n 0, 1) := by decide +kernel
theorem dX7_setPuzzle_116 : decode cX7_setPuzzle 116 = .ok (.invokevirtual 69, 3) := by decide +kernel
theorem dX7_setPuzzle_119 : decode cX7_setPuzzle 119 = .ok (.ireturn, 1) := by decide +kernel
theorem dX7_setCount_0 : decode cX7_setCount 0 = .ok (.iload_n 1, 1) := by decide +kernel
theorem dX7_setCount_1 : decode cX7_setCount 1 = .ok (.iconst 0, 1) := by decide +kernel
theorem dX7_setCount_2 : decode cX7_setCount 2 = .ok (.aload_n 0, 1) := by decide +kernel
theorem dX7_setCount_3 : decode cX7_setCount 3 = .ok (.invokevirtual 82, 3) := by decide +kernel
theorem dX7_setCount_6 : decode cX7_setCount 6 = .ok (.iconst 1, 1) := by decide +kernel
theorem dX7_setCount_7 : decode cX7_setCount 7 = .ok (.isub, 1) := by decide +kernel
theorem dX7_setCount_8 : decode cX7_setCount 8 = .ok (.invokestatic 162, 3) := by decide +kernel
theorem dX7_setCount_11 : decode cX7_setCount 11 = .ok (.ifCond .eq 12, 3) := by decide +kernel
theorem dX7_setCount_14 : decode cX7_setCount 14 = .ok (.iload_n 2, 1) := by decide +kernel
theorem dX7_setCount_15 : decode cX7_setCount 15 = .ok (.iconst (-1), 1) := by decide +kernel
theorem dX7_setCount_16 : decode cX7_setCount 16 = .ok (.iconst 3, 1) := by decide +kernel
theorem dX7_setCount_17 : decode cX7_setCount 17 = .ok (.invokestatic 162, 3) := by decide +kernel
theorem dX7_setCount_20 : decode cX7_setCount 20 = .ok (.ifCond .ne 6, 3) := by decide +kernel
theorem dX7_setCount_23 : decode cX7_setCount 23 = .ok (.bipush (-2), 2) := by decide +kernel
theorem dX7_setCount_25 : decode cX7_setCount 25 = .ok (.ireturn, 1) := by decide +kernel
theorem dX7_setCount_26 : decode cX7_setCount 26 = .ok (.aload_n 0, 1) := by decide +kernel
theorem dX7_setCount_27 : decode cX7_setCount 27 = .ok (.invokevirtual 190, 3) := by decide +kernel
theorem dX7_setCount_30 : decode cX7_setCount 30 = .ok (.aload_n 0, 1) := by decide +kernel
theorem dX7_setCount_31 : decode cX7_setCount 31 = .ok (.getfield 7, 3) := by decide +kernel
theorem dX7_setCount_34 : decode cX7_setCount 34 = .ok (.iconst 2, 1) := by decide +kernel
theorem dX7_setCount_35 : decode cX7_setCount 35 = .ok (.iload_n 1, 1) := by decide +kernel
theorem dX7_setCount_36 : decode cX7_setCount 36 = .ok (.iadd, 1) := by decide +kernel
theorem dX7_setCount_37 : decode cX7_setCount 37 = .ok (.iaload, 1) := by decide +kernel
theorem dX7_setCount_38 : decode cX7_setCount 38 = .ok (.istore_n 3, 1) := by decide +kernel
theorem dX7_setCount_39 : decode cX7_setCount 39 = .ok (.aload_n 0, 1) := by decide +kernel
theorem dX7_setCount_40 : decode cX7_setCount 40 = .ok (.getfield 7, 3) := by decide +kernel
theorem dX7_setCount_43 : decode cX7_setCount 43 = .ok (.iconst 2, 1) := by decide +kernel
theorem dX7_setCount_44 : decode cX7_setCount 44 = .ok (.iload_n 1, 1) := by decide +kernel
theorem dX7_setCount_45 : decode cX7_setCount 45 = .ok (.iadd, 1) := by decide +kernel
theorem dX7_setCount_46 : decode cX7_setCount 46 = .ok (.iload_n 2, 1) := by decide +kernel
theorem dX7_setCount_47 : decode cX7_setCount 47 = .ok (.iastore, 1) := by decide +kernel
theorem dX7_setCount_48 : decode cX7_setCount 48 = .ok (.iload_n 3, 1) := by decide +kernel
theorem dX7_setCount_49 : decode cX7_setCount 49 = .ok (.ireturn, 1) := by decide +kernel
theorem dX7_mark_0 : decode cX7_mark 0 = .ok (.iload_n 1, 1) := by decide +kernel
theorem dX7_mark_1 : decode cX7_mark 1 = .ok (.iconst 0, 1) := by decide +kernel
theorem dX7_mark_2 : decode cX7_mark 2 = .ok (.aload_n 0, 1) := by decide +kernel
theorem dX7_mark_3 : decode cX7_mark 3 = .ok (.invokevirtual 69, 3) := by decide +kernel
theorem dX7_mark_6 : decode cX7_mark 6 = .ok (.iconst 1, 1) := by decide +kernel
theorem dX7_mark_7 : decode cX7_mark 7 = .ok (.isub, 1) := by decide +kernel
theorem dX7_mark_8 : decode cX7_mark 8 = .ok (.invokestatic 162, 3) := by decide +kernel
theorem dX7_mark_11 : decode cX7_mark 11 = .ok (.ifCond .eq 12, 3) := by decide +kernel
theorem dX7_mark_14 : decode cX7_mark 14 = .ok (.iload_n 2, 1) := by decide +kernel
theorem dX7_mark_15 : decode cX7_mark 15 = .ok (.iconst 0, 1) := by decide +kernel
theorem dX7_mark_16 : decode cX7_mark 16 = .ok (.iconst 2, 1) := by decide +kernel
theorem dX7_mark_17 : decode cX7_mark 17 = .ok (.invokestatic 162, 3) := by decide +kernel
theorem dX7_mark_20 : decode cX7_mark 20 = .ok (.ifCond .ne 6, 3) := by decide +kernel
theorem dX7_mark_23 : decode cX7_mark 23 = .ok (.bipush (-2), 2) := by decide +kernel
theorem dX7_mark_25 : decode cX7_mark 25 = .ok (.ireturn, 1) := by decide +kernel
theorem dX7_mark_26 : decode cX7_mark 26 = .ok (.aload_n 0, 1) := by decide +kernel
theorem dX7_mark_27 : decode cX7_mark 27 = .ok (.invokevirtual 190, 3) := by decide +kernel
theorem dX7_mark_30 : decode cX7_mark 30 = .ok (.aload_n 0, 1) := by decide +kernel
theorem dX7_mark_31 : decode cX7_mark 31 = .ok (.iload_n 1, 1) := by decide +kernel
theorem dX7_mark_32 : decode cX7_mark 32 = .ok (.invokevirtual 56, 3) := by decide +kernel
theorem dX7_mark_35 : decode cX7_mark 35 = .ok (.istore_n 3, 1) := by decide +kernel
theorem dX7_mark_36 : decode cX7_mark 36 = .ok (.aload_n 0, 1) := by decide +kernel
theorem dX7_mark_37 : decode cX7_mark 37 = .ok (.getfield 7, 3) := by decide +kernel
theorem dX7_mark_40 : decode cX7_mark 40 = .ok (.bipush 18, 2) := by decide +kernel
theorem dX7_mark_42 : decode cX7_mark 42 = .ok (.iload_n 1, 1) := by decide +kernel
theorem dX7_mark_43 : decode cX7_mark 43 = .ok (.iadd, 1) := by decide +kernel
theorem dX7_mark_44 : decode cX7_mark 44 = .ok (.iload_n 2, 1) := by decide +kernel
theorem dX7_mark_45 : decode cX7_mark 45 = .ok (.iastore, 1) := by decide +kernel
theorem dX7_mark_46 : decode cX7_mark 46 = .ok (.iload_n 3, 1) := by decide +kernel
theorem dX7_mark_47 : decode cX7_mark 47 = .ok (.ireturn, 1) := by decide +kernel
theorem dX7_marked_0 : decode cX7_marked 0 = .ok (.iconst 0, 1) := by decide +kernel
theorem dX7_marked_1 : decode cX7_marked 1 = .ok (.istore_n 2, 1) := by decide +kernel
theorem dX7_marked_2 : decode cX7_marked 2 = .ok (.iconst 0, 1) := by decide +kernel
theorem dX7_marked_3 : decode cX7_marked 3 = .ok (.istore_n 3, 1) := by decide +kernel
theorem dX7_marked_4 : decode cX7_marked 4 = .ok (.iload_n 3, 1) := by decide +kernel
theorem dX7_marked_5 : decode cX7_marked 5 = .ok (.aload_n 0, 1) := by decide +kernel
theorem dX7_marked_6 : decode cX7_marked 6 = .ok (.invokevirtual 69, 3) := by decide +kernel
theorem dX7_marked_9 : decode cX7_marked 9 = .ok (.if_icmp .ge 26, 3) := by decide +kernel
theorem dX7_marked_12 : decode cX7_marked 12 = .ok (.iload_n 2, 1) := by decide +kernel
theorem dX7_marked_13 : decode cX7_marked 13 = .ok (.aload_n 0, 1) := by decide +kernel
theorem dX7_marked_14 : decode cX7_marked 14 = .ok (.iload_n 3, 1) := by decide +kernel
theorem dX7_marked_15 : decode cX7_marked 15 = .ok (.invokevirtual 56, 3) := by decide +kernel
theorem dX7_marked_18 : decode cX7_marked 18 = .ok (.iload_n 1, 1) := by decide +kernel
theorem dX7_marked_19 : decode cX7_marked 19 = .ok (.if_icmp .ne 7, 3) := by decide +kernel
theorem dX7_marked_22 : decode cX7_marked 22 = .ok (.iconst 1, 1) := by decide +kernel
theorem dX7_marked_23 : decode cX7_marked 23 = .ok (.goto 4, 3) := by decide +kernel
theorem dX7_marked_26 : decode cX7_marked 26 = .ok (.iconst 0, 1) := by decide +kernel
theorem dX7_marked_27 : decode cX7_marked 27 = .ok (.iadd, 1) := by decide +kernel
theorem dX7_marked_28 : decode cX7_marked 28 = .ok (.istore_n 2, 1) := by decide +kernel
theorem dX7_marked_29 : decode cX7_marked 29 = .ok (.iinc 3 1, 3) := by decide +kernel
theorem dX7_marked_32 : decode cX7_marked 32 = .ok (.goto (-28), 3) := by decide +kernel
theorem dX7_marked_35 : decode cX7_marked 35 = .ok (.iload_n 2, 1) := by decide +kernel
theorem dX7_marked_36 : decode cX7_marked 36 = .ok (.ireturn, 1) := by decide +kernel
theorem dX7_wipe_0 : decode cX7_wipe 0 = .ok (.aload_n 0, 1) := by decide +kernel
theorem dX7_wipe_1 : decode cX7_wipe 1 = .ok (.invokevirtual 190, 3) := by decide +kernel
theorem dX7_wipe_4 : decode cX7_wipe 4 = .ok (.aload_n 0, 1) := by decide +kernel
theorem dX7_wipe_5 : decode cX7_wipe 5 = .ok (.invokevirtual 69, 3) := by decide +kernel
theorem dX7_wipe_8 : decode cX7_wipe 8 = .ok (.aload_n 0, 1) := by decide +kernel
theorem dX7_wipe_9 : decode cX7_wipe 9 = .ok (.iconst 0, 1) := by decide +kernel
theorem dX7_wipe_10 : decode cX7_wipe 10 = .ok (.invokevirtual 193, 3) := by decide +kernel
theorem dX7_wipe_13 : decode cX7_wipe 13 = .ok (.isub, 1) := by decide +kernel
theorem dX7_wipe_14 : decode cX7_wipe 14 = .ok (.istore_n 1, 1) := by decide +kernel
theorem dX7_wipe_15 : decode cX7_wipe 15 = .ok (.bipush 18, 2) := by decide +kernel
theorem dX7_wipe_17 : decode cX7_wipe 17 = .ok (.istore_n 2, 1) := by decide +kernel
theorem dX7_wipe_18 : decode cX7_wipe 18 = .ok (.iload_n 2, 1) := by decide +kernel
theorem dX7_wipe_19 : decode cX7_wipe 19 = .ok (.bipush 66, 2) := by decide +kernel
theorem dX7_wipe_21 : decode cX7_wipe 21 = .ok (.if_icmp .ge 16, 3) := by decide +kernel
theorem dX7_wipe_24 : decode cX7_wipe 24 = .ok (.aload_n 0, 1) := by decide +kernel
theorem dX7_wipe_25 : decode cX7_wipe 25 = .ok (.getfield 7, 3) := by decide +kernel
theorem dX7_wipe_28 : decode cX7_wipe 28 = .ok (.iload_n 2, 1) := by decide +kernel
theorem dX7_wipe_29 : decode cX7_wipe 29 = .ok (.iconst 0, 1) := by decide +kernel
theorem dX7_wipe_30 : decode cX7_wipe 30 = .ok (.iastore, 1) := by decide +kernel
theorem dX7_wipe_31 : decode cX7_wipe 31 = .ok (.iinc 2 1, 3) := by decide +kernel
theorem dX7_wipe_34 : decode cX7_wipe 34 = .ok (.goto (-16), 3) := by decide +kernel
theorem dX7_wipe_37 : decode cX7_wipe 37 = .ok (.iload_n 1, 1) := by decide +kernel
theorem dX7_wipe_38 : decode cX7_wipe 38 = .ok (.ireturn, 1) := by decide +kernel
theorem dX7_deduce_0 : decode cX7_deduce 0 = .ok (.aload_n 0, 1) := by decide +kernel
theorem dX7_deduce_1 : decode cX7_deduce 1 = .ok (.invokevirtual 137, 3) := by decide +kernel
theorem dX7_deduce_4 : decode cX7_deduce 4 = .ok (.ifCond .ne 6, 3) := by decide +kernel
theorem dX7_deduce_7 : decode cX7_deduce 7 = .ok (.bipush (-3), 2) := by decide +kernel
theorem dX7_deduce_9 : decode cX7_deduce 9 = .ok (.ireturn, 1) := by decide +kernel
theorem dX7_deduce_10 : decode cX7_deduce 10 = .ok (.aload_n 0, 1) := by decide +kernel
theorem dX7_deduce_11 : decode cX7_deduce 11 = .ok (.invokevirtual 190, 3) := by decide +kernel
theorem dX7_deduce_14 : decode cX7_deduce 14 = .ok (.aload_n 0, 1) := by decide +kernel
theorem dX7_deduce_15 : decode cX7_deduce 15 = .ok (.bipush 7, 2) := by decide +kernel
theorem dX7_deduce_17 : decode cX7_deduce 17 = .ok (.invokevirtual 196, 3) := by decide +kernel
theorem dX7_deduce_20 : decode cX7_deduce 20 = .ok (.ifCond .ne 5, 3) := by decide +kernel
theorem dX7_deduce_23 : decode cX7_deduce 23 = .ok (.iconst (-1), 1) := by decide +kernel
theorem dX7_deduce_24 : decode cX7_deduce 24 = .ok (.ireturn, 1) := by decide +kernel
theorem dX7_deduce_25 : decode cX7_deduce 25 = .ok (.aload_n 0, 1) := by decide +kernel
theorem dX7_deduce_26 : decode cX7_deduce 26 = .ok (.invokevirtual 152, 3) := by decide +kernel
theorem dX7_deduce_29 : decode cX7_deduce 29 = .ok (.aload_n 0, 1) := by decide +kernel
theorem dX7_deduce_30 : decode cX7_deduce 30 = .ok (.getfield 7, 3) := by decide +kernel
theorem dX7_deduce_33 : decode cX7_deduce 33 = .ok (.bipush 58, 2) := by decide +kernel
theorem dX7_deduce_35 : decode cX7_deduce 35 = .ok (.aload_n 0, 1) := by decide +kernel
theorem dX7_deduce_36 : decode cX7_deduce 36 = .ok (.getfield 115, 3) := by decide +kernel
theorem dX7_deduce_39 : decode cX7_deduce 39 = .ok (.iadd, 1) := by decide +kernel
theorem dX7_deduce_40 : decode cX7_deduce 40 = .ok (.dup2, 1) := by decide +kernel
theorem dX7_deduce_41 : decode cX7_deduce 41 = .ok (.iaload, 1) := by decide +kernel
theorem dX7_deduce_42 : decode cX7_deduce 42 = .ok (.iconst 1, 1) := by decide +kernel
theorem dX7_deduce_43 : decode cX7_deduce 43 = .ok (.iadd, 1) := by decide +kernel
theorem dX7_deduce_44 : decode cX7_deduce 44 = .ok (.iastore, 1) := by decide +kernel
theorem dX7_deduce_45 : decode cX7_deduce 45 = .ok (.aload_n 0, 1) := by decide +kernel
theorem dX7_deduce_46 : decode cX7_deduce 46 = .ok (.getfield 115, 3) := by decide +kernel
theorem dX7_deduce_49 : decode cX7_deduce 49 = .ok (.ireturn, 1) := by decide +kernel
theorem dX7_deduceAll_0 : decode cX7_deduceAll 0 = .ok (.iload_n 1, 1) := by decide +kernel
theorem dX7_deduceAll_1 : decode cX7_deduceAll 1 = .ok (.iconst 0, 1) := by decide +kernel
theorem dX7_deduceAll_2 : decode cX7_deduceAll 2 = .ok (.bipush 7, 2) := by decide +kernel
theorem dX7_deduceAll_4 : decode cX7_deduceAll 4 = .ok (.invokestatic 162, 3) := by decide +kernel
theorem dX7_deduceAll_7 : decode cX7_deduceAll 7 = .ok (.ifCond .ne 6, 3) := by decide +kernel
theorem dX7_deduceAll_10 : decode cX7_deduceAll 10 = .ok (.bipush (-2), 2) := by decide +kernel
theorem dX7_deduceAll_12 : decode cX7_deduceAll 12 = .ok (.ireturn, 1) := by decide +kernel
theorem dX7_deduceAll_13 : decode cX7_deduceAll 13 = .ok (.aload_n 0, 1) := by decide +kernel
theorem dX7_deduceAll_14 : decode cX7_deduceAll 14 = .ok (.invokevirtual 137, 3) := by decide +kernel
theorem dX7_deduceAll_17 : decode cX7_deduceAll 17 = .ok (.ifCond .ne 6, 3) := by decide +kernel
theorem dX7_deduceAll_20 : decode cX7_deduceAll 20 = .ok (.bipush (-3), 2) := by decide +kernel
theorem dX7_deduceAll_22 : decode cX7_deduceAll 22 = .ok (.ireturn, 1) := by decide +kernel
theorem dX7_deduceAll_23 : decode cX7_deduceAll 23 = .ok (.aload_n 0, 1) := by decide +kernel
theorem dX7_deduceAll_24 : decode cX7_deduceAll 24 = .ok (.invokevirtual 190, 3) := by decide +kernel
theorem dX7_deduceAll_27 : decode cX7_deduceAll 27 = .ok (.iconst 0, 1) := by decide +kernel
theorem dX7_deduceAll_28 : decode cX7_deduceAll 28 = .ok (.istore_n 2, 1) := by decide +kernel
theorem dX7_deduceAll_29 : decode cX7_deduceAll 29 = .ok (.aload_n 0, 1) := by decide +kernel
theorem dX7_deduceAll_30 : decode cX7_deduceAll 30 = .ok (.iload_n 1, 1) := by decide +kernel
theorem dX7_deduceAll_31 : decode cX7_deduceAll 31 = .ok (.invokevirtual 196, 3) := by decide +kernel
theorem dX7_deduceAll_34 : decode cX7_deduceAll 34 = .ok (.ifCond .eq 29, 3) := by decide +kernel
theorem dX7_deduceAll_37 : decode cX7_deduceAll 37 = .ok (.aload_n 0, 1) := by decide +kernel
theorem dX7_deduceAll_38 : decode cX7_deduceAll 38 = .ok (.invokevirtual 152, 3) := by decide +kernel
theorem dX7_deduceAll_41 : decode cX7_deduceAll 41 = .ok (.aload_n 0, 1) := by decide +kernel
theorem dX7_deduceAll_42 : decode cX7_deduceAll 42 = .ok (.getfield 7, 3) := by decide +kernel
theorem dX7_deduceAll_45 : decode cX7_deduceAll 45 = .ok (.bipush 58, 2) := by decide +kernel
theorem dX7_deduceAll_47 : decode cX7_deduceAll 47 = .ok (.aload_n 0, 1) := by decide +kernel
theorem dX7_deduceAll_48 : decode cX7_deduceAll 48 = .ok (.getfield 115, 3) := by decide +kernel
theorem dX7_deduceAll_51 : decode cX7_deduceAll 51 = .ok (.iadd, 1) := by decide +kernel
theorem dX7_deduceAll_52 : decode cX7_deduceAll 52 = .ok (.dup2, 1) := by decide +kernel
theorem dX7_deduceAll_53 : decode cX7_deduceAll 53 = .ok (.iaload, 1) := by decide +kernel
theorem dX7_deduceAll_54 : decode cX7_deduceAll 54 = .ok (.iconst 1, 1) := by decide +kernel
theorem dX7_deduceAll_55 : decode cX7_deduceAll 55 = .ok (.iadd, 1) := by decide +kernel
theorem dX7_deduceAll_56 : decode cX7_deduceAll 56 = .ok (.iastore, 1) := by decide +kernel
theorem dX7_deduceAll_57 : decode cX7_deduceAll 57 = .ok (.iinc 2 1, 3) := by decide +kernel
theorem dX7_deduceAll_60 : decode cX7_deduceAll 60 = .ok (.goto (-31), 3) := by decide +kernel
theorem dX7_deduceAll_63 : decode cX7_deduceAll 63 = .ok (.iload_n 2, 1) := by decide +kernel
theorem dX7_deduceAll_64 : decode cX7_deduceAll 64 = .ok (.ireturn, 1) := by decide +kernel
theorem dX7_countOf_0 : decode cX7_countOf 0 = .ok (.iload_n 1, 1) := by decide +kernel
theorem dX7_countOf_1 : decode cX7_countOf 1 = .ok (.iconst 0, 1) := by decide +kernel
theorem dX7_countOf_2 : decode cX7_countOf 2 = .ok (.aload_n 0, 1) := by decide +kernel
theorem dX7_countOf_3 : decode cX7_countOf 3 = .ok (.invokevirtual 82, 3) := by decide +kernel
theorem dX7_countOf_6 : decode cX7_countOf 6 = .ok (.iconst 1, 1) := by decide +kernel
theorem dX7_countOf_7 : decode cX7_countOf 7 = .ok (.isub, 1) := by decide +kernel
theorem dX7_countOf_8 : decode cX7_countOf 8 = .ok (.invokestatic 162, 3) := by decide +kernel
theorem dX7_countOf_11 : decode cX7_countOf 11 = .ok (.ifCond .eq 14, 3) := by decide +kernel
theorem dX7_countOf_14 : decode cX7_countOf 14 = .ok (.aload_n 0, 1) := by decide +kernel
theorem dX7_countOf_15 : decode cX7_countOf 15 = .ok (.getfield 7, 3) := by decide +kernel
theorem dX7_countOf_18 : decode cX7_countOf 18 = .ok (.iconst 2, 1) := by decide +kernel
theorem dX7_countOf_19 : decode cX7_countOf 19 = .ok (.iload_n 1, 1) := by decide +kernel
theorem dX7_countOf_20 : decode cX7_countOf 20 = .ok (.iadd, 1) := by decide +kernel
theorem dX7_countOf_21 : decode cX7_countOf 21 = .ok (.iaload, 1) := by decide +kernel
theorem dX7_countOf_22 : decode cX7_countOf 22 = .ok (.goto 5, 3) := by decide +kernel
theorem dX7_countOf_25 : decode cX7_countOf 25 = .ok (.bipush (-2), 2) := by decide +kernel
theorem dX7_countOf_27 : decode cX7_countOf 27 = .ok (.ireturn, 1) := by decide +kernel
theorem dX7_edge_0 : decode cX7_edge 0 = .ok (.iload_n 1, 1) := by decide +kernel
theorem dX7_edge_1 : decode cX7_edge 1 = .ok (.iconst 0, 1) := by decide +kernel
theorem dX7_edge_2 : decode cX7_edge 2 = .ok (.aload_n 0, 1) := by decide +kernel
theorem dX7_edge_3 : decode cX7_edge 3 = .ok (.invokevirtual 69, 3) := by decide +kernel
theorem dX7_edge_6 : decode cX7_edge 6 = .ok (.iconst 1, 1) := by decide +kernel
theorem dX7_edge_7 : decode cX7_edge 7 = .ok (.isub, 1) := by decide +kernel
theorem dX7_edge_8 : decode cX7_edge 8 = .ok (.invokestatic 162, 3) := by decide +kernel
theorem dX7_edge_11 : decode cX7_edge 11 = .ok (.ifCond .eq 11, 3) := by decide +kernel
theorem dX7_edge_14 : decode cX7_edge 14 = .ok (.aload_n 0, 1) := by decide +kernel
theorem dX7_edge_15 : decode cX7_edge 15 = .ok (.iload_n 1, 1) := by decide +kernel
theorem dX7_edge_16 : decode cX7_edge 16 = .ok (.invokevirtual 56, 3) := by decide +kernel
theorem dX7_edge_19 : decode cX7_edge 19 = .ok (.goto 5, 3) := by decide +kernel
theorem dX7_edge_22 : decode cX7_edge 22 = .ok (.bipush (-2), 2) := by decide +kernel
theorem dX7_edge_24 : decode cX7_edge 24 = .ok (.ireturn, 1) := by decide +kernel
theorem dX7_edgeAt_0 : decode cX7_edgeAt 0 = .ok (.iload_n 2, 1) := by decide +kernel
theorem dX7_edgeAt_1 : decode cX7_edgeAt 1 = .ok (.iconst 0, 1) := by decide +kernel
theorem dX7_edgeAt_2 : decode cX7_edgeAt 2 = .ok (.iload_n 1, 1) := by decide +kernel
theorem dX7_edgeAt_3 : decode cX7_edgeAt 3 = .ok (.ifCond .eq 10, 3) := by decide +kernel
theorem dX7_edgeAt_6 : decode cX7_edgeAt 6 = .ok (.aload_n 0, 1) := by decide +kernel
theorem dX7_edgeAt_7 : decode cX7_edgeAt 7 = .ok (.invokevirtual 63, 3) := by decide +kernel
theorem dX7_edgeAt_10 : decode cX7_edgeAt 10 = .ok (.goto 7, 3) := by decide +kernel
theorem dX7_edgeAt_13 : decode cX7_edgeAt 13 = .ok (.aload_n 0, 1) := by decide +kernel
theorem dX7_edgeAt_14 : decode cX7_edgeAt 14 = .ok (.invokevirtual 82, 3) := by decide +kernel
theorem dX7_edgeAt_17 : decode cX7_edgeAt 17 = .ok (.iconst 1, 1) := by decide +kernel
theorem dX7_edgeAt_18 : decode cX7_edgeAt 18 = .ok (.isub, 1) := by decide +kernel
theorem dX7_edgeAt_19 : decode cX7_edgeAt 19 = .ok (.invokestatic 162, 3) := by decide +kernel
theorem dX7_edgeAt_22 : decode cX7_edgeAt 22 = .ok (.ifCond .eq 7, 3) := by decide +kernel
theorem dX7_edgeAt_25 : decode cX7_edgeAt 25 = .ok (.iload_n 3, 1) := by decide +kernel
theorem dX7_edgeAt_26 : decode cX7_edgeAt 26 = .ok (.ifCond .ge 6, 3) := by decide +kernel
theorem dX7_edgeAt_29 : decode cX7_edgeAt 29 = .ok (.bipush (-2), 2) := by decide +kernel
theorem dX7_edgeAt_31 : decode cX7_edgeAt 31 = .ok (.ireturn, 1) := by decide +kernel
theorem dX7_edgeAt_32 : decode cX7_edgeAt 32 = .ok (.iload_n 1, 1) := by decide +kernel
theorem dX7_edgeAt_33 : decode cX7_edgeAt 33 = .ok (.ifCond .ne 19, 3) := by decide +kernel
theorem dX7_edgeAt_36 : decode cX7_edgeAt 36 = .ok (.iload_n 3, 1) := by decide +kernel
theorem dX7_edgeAt_37 : decode cX7_edgeAt 37 = .ok (.iconst 4, 1) := by decide +kernel
theorem dX7_edgeAt_38 : decode cX7_edgeAt 38 = .ok (.if_icmp .ge 12, 3) := by decide +kernel
theorem dX7_edgeAt_41 : decode cX7_edgeAt 41 = .ok (.aload_n 0, 1) := by decide +kernel
theorem dX7_edgeAt_42 : decode cX7_edgeAt 42 = .ok (.iload_n 2, 1) := by decide +kernel
theorem dX7_edgeAt_43 : decode cX7_edgeAt 43 = .ok (.iload_n 3, 1) := by decide +kernel
theorem dX7_edgeAt_44 : decode cX7_edgeAt 44 = .ok (.invokevirtual 52, 3) := by decide +kernel
theorem dX7_edgeAt_47 : decode cX7_edgeAt 47 = .ok (.goto 4, 3) := by decide +kernel
theorem dX7_edgeAt_50 : decode cX7_edgeAt 50 = .ok (.iconst (-1), 1) := by decide +kernel
theorem dX7_edgeAt_51 : decode cX7_edgeAt 51 = .ok (.ireturn, 1) := by decide +kernel
theorem dX7_edgeAt_52 : decode cX7_edgeAt 52 = .ok (.iconst 0, 1) := by decide +kernel
theorem dX7_edgeAt_53 : decode cX7_edgeAt 53 = .ok (.istore 4, 2) := by decide +kernel
theorem dX7_edgeAt_55 : decode cX7_edgeAt 55 = .ok (.iconst 0, 1) := by decide +kernel
theorem dX7_edgeAt_56 : decode cX7_edgeAt 56 = .ok (.istore 5, 2) := by decide +kernel
theorem dX7_edgeAt_58 : decode cX7_edgeAt 58 = .ok (.iload 5, 2) := by decide +kernel
theorem dX7_edgeAt_60 : decode cX7_edgeAt 60 = .ok (.iconst 4, 1) := by decide +kernel
theorem dX7_edgeAt_61 : decode cX7_edgeAt 61 = .ok (.if_icmp .ge 37, 3) := by decide +kernel
theorem dX7_edgeAt_64 : decode cX7_edgeAt 64 = .ok (.aload_n 0, 1) := by decide +kernel
theorem dX7_edgeAt_65 : decode cX7_edgeAt 65 = .ok (.iload_n 2, 1) := by decide +kernel
theorem dX7_edgeAt_66 : decode cX7_edgeAt 66 = .ok (.iload 5, 2) := by decide +kernel
theorem dX7_edgeAt_68 : decode cX7_edgeAt 68 = .ok (.invokevirtual 60, 3) := by decide +kernel
theorem dX7_edgeAt_71 : decode cX7_edgeAt 71 = .ok (.iconst (-1), 1) := by decide +kernel
theorem dX7_edgeAt_72 : decode cX7_edgeAt 72 = .ok (.if_icmp .eq 20, 3) := by decide +kernel
theorem dX7_edgeAt_75 : decode cX7_edgeAt 75 = .ok (.iload 4, 2) := by decide +kernel
theorem dX7_edgeAt_77 : decode cX7_edgeAt 77 = .ok (.iload_n 3, 1) := by decide +kernel
theorem dX7_edgeAt_78 : decode cX7_edgeAt 78 = .ok (.if_icmp .ne 11, 3) := by decide +kernel
theorem dX7_edgeAt_81 : decode cX7_edgeAt 81 = .ok (.aload_n 0, 1) := by decide +kernel
theorem dX7_edgeAt_82 : decode cX7_edgeAt 82 = .ok (.iload_n 2, 1) := by decide +kernel
theorem dX7_edgeAt_83 : decode cX7_edgeAt 83 = .ok (.iload 5, 2) := by decide +kernel
theorem dX7_edgeAt_85 : decode cX7_edgeAt 85 = .ok (.invokevirtual 60, 3) := by decide +kernel
theorem dX7_edgeAt_88 : decode cX7_edgeAt 88 = .ok (.ireturn, 1) := by decide +kernel
theorem dX7_edgeAt_89 : decode cX7_edgeAt 89 = .ok (.iinc 4 1, 3) := by decide +kernel
theorem dX7_edgeAt_92 : decode cX7_edgeAt 92 = .ok (.iinc 5 1, 3) := by decide +kernel
theorem dX7_edgeAt_95 : decode cX7_edgeAt 95 = .ok (.goto (-37), 3) := by decide +kernel
theorem dX7_edgeAt_98 : decode cX7_edgeAt 98 = .ok (.iconst (-1), 1) := by decide +kernel
theorem dX7_edgeAt_99 : decode cX7_edgeAt 99 = .ok (.ireturn, 1) := by decide +kernel
theorem dX7_misfit_0 : decode cX7_misfit 0 = .ok (.aload_n 0, 1) := by decide +kernel
theorem dX7_misfit_1 : decode cX7_misfit 1 = .ok (.invokevirtual 137, 3) := by decide +kernel
theorem dX7_misfit_4 : decode cX7_misfit 4 = .ok (.istore_n 2, 1) := by decide +kernel
theorem dX7_misfit_5 : decode cX7_misfit 5 = .ok (.iload_n 1, 1) := by decide +kernel
theorem dX7_misfit_6 : decode cX7_misfit 6 = .ok (.tableswitch 76 0 4 #[34, 39, 44, 49, 59], 34) := by decide +kernel
theorem dX7_misfit_40 : decode cX7_misfit 40 = .ok (.aload_n 0, 1) := by decide +kernel
theorem dX7_misfit_41 : decode cX7_misfit 41 = .ok (.getfield 88, 3) := by decide +kernel
theorem dX7_misfit_44 : decode cX7_misfit 44 = .ok (.ireturn, 1) := by decide +kernel
theorem dX7_misfit_45 : decode cX7_misfit 45 = .ok (.aload_n 0, 1) := by decide +kernel
theorem dX7_misfit_46 : decode cX7_misfit 46 = .ok (.getfield 91, 3) := by decide +kernel
theorem dX7_misfit_49 : decode cX7_misfit 49 = .ok (.ireturn, 1) := by decide +kernel
theorem dX7_misfit_50 : decode cX7_misfit 50 = .ok (.aload_n 0, 1) := by decide +kernel
theorem dX7_misfit_51 : decode cX7_misfit 51 = .ok (.getfield 101, 3) := by decide +kernel
theorem dX7_misfit_54 : decode cX7_misfit 54 = .ok (.ireturn, 1) := by decide +kernel
theorem dX7_misfit_55 : decode cX7_misfit 55 = .ok (.iload_n 2, 1) := by decide +kernel
theorem dX7_misfit_56 : decode cX7_misfit 56 = .ok (.ifCond .eq 7, 3) := by decide +kernel
theorem dX7_misfit_59 : decode cX7_misfit 59 = .ok (.iconst 1, 1) := by decide +kernel
theorem dX7_misfit_60 : decode cX7_misfit 60 = .ok (.goto 4, 3) := by decide +kernel
theorem dX7_misfit_63 : decode cX7_misfit 63 = .ok (.iconst 0, 1) := by decide +kernel
theorem dX7_misfit_64 : decode cX7_misfit 64 = .ok (.ireturn, 1) := by decide +kernel
theorem dX7_misfit_65 : decode cX7_misfit 65 = .ok (.iload_n 2, 1) := by decide +kernel
theorem dX7_misfit_66 : decode cX7_misfit 66 = .ok (.ifCond .eq 14, 3) := by decide +kernel
theorem dX7_misfit_69 : decode cX7_misfit 69 = .ok (.aload_n 0, 1) := by decide +kernel
theorem dX7_misfit_70 : decode cX7_misfit 70 = .ok (.getfield 97, 3) := by decide +kernel
theorem dX7_misfit_73 : decode cX7_misfit 73 = .ok (.ifCond .eq 7, 3) := by decide +kernel
theorem dX7_misfit_76 : decode cX7_misfit 76 = .ok (.iconst 1, 1) := by decide +kernel
theorem dX7_misfit_77 : decode cX7_misfit 77 = .ok (.goto 4, 3) := by decide +kernel
theorem dX7_misfit_80 : decode cX7_misfit 80 = .ok (.iconst 0, 1) := by decide +kernel
theorem dX7_misfit_81 : decode cX7_misfit 81 = .ok (.ireturn, 1) := by decide +kernel
theorem dX7_misfit_82 : decode cX7_misfit 82 = .ok (.bipush (-2), 2) := by decide +kernel
theorem dX7_misfit_84 : decode cX7_misfit 84 = .ok (.ireturn, 1) := by decide +kernel
theorem dX7_hint_0 : decode cX7_hint 0 = .ok (.iload_n 1, 1) := by decide +kernel
theorem dX7_hint_1 : decode cX7_hint 1 = .ok (.iconst 0, 1) := by decide +kernel
theorem dX7_hint_2 : decode cX7_hint 2 = .ok (.iconst 3, 1) := by decide +kernel
theorem dX7_hint_3 : decode cX7_hint 3 = .ok (.invokestatic 162, 3) := by decide +kernel
theorem dX7_hint_6 : decode cX7_hint 6 = .ok (.ifCond .ne 6, 3) := by decide +kernel
theorem dX7_hint_9 : decode cX7_hint 9 = .ok (.bipush (-2), 2) := by decide +kernel
theorem dX7_hint_11 : decode cX7_hint 11 = .ok (.ireturn, 1) := by decide +kernel
theorem dX7_hint_12 : decode cX7_hint 12 = .ok (.aload_n 0, 1) := by decide +kernel
theorem dX7_hint_13 : decode cX7_hint 13 = .ok (.invokevirtual 137, 3) := by decide +kernel
theorem dX7_hint_16 : decode cX7_hint 16 = .ok (.ifCond .ne 6, 3) := by decide +kernel
theorem dX7_hint_19 : decode cX7_hint 19 = .ok (.bipush (-3), 2) := by decide +kernel
theorem dX7_hint_21 : decode cX7_hint 21 = .ok (.ireturn, 1) := by decide +kernel
theorem dX7_hint_22 : decode cX7_hint 22 = .ok (.aload_n 0, 1) := by decide +kernel
theorem dX7_hint_23 : decode cX7_hint 23 = .ok (.bipush 7, 2) := by decide +kernel
theorem dX7_hint_25 : decode cX7_hint 25 = .ok (.invokevirtual 196, 3) := by decide +kernel
theorem dX7_hint_28 : decode cX7_hint 28 = .ok (.ifCond .ne 5, 3) := by decide +kernel
theorem dX7_hint_31 : decode cX7_hint 31 = .ok (.iconst (-1), 1) := by decide +kernel
theorem dX7_hint_32 : decode cX7_hint 32 = .ok (.ireturn, 1) := by decide +kernel
theorem dX7_hint_33 : decode cX7_hint 33 = .ok (.iload_n 1, 1) := by decide +kernel
theorem dX7_hint_34 : decode cX7_hint 34 = .ok (.ifCond .ne 10, 3) := by decide +kernel
theorem dX7_hint_37 : decode cX7_hint 37 = .ok (.aload_n 0, 1) := by decide +kernel
theorem dX7_hint_38 : decode cX7_hint 38 = .ok (.getfield 115, 3) := by decide +kernel
theorem dX7_hint_41 : decode cX7_hint 41 = .ok (.goto 31, 3) := by decide +kernel
theorem dX7_hint_44 : decode cX7_hint 44 = .ok (.iload_n 1, 1) := by decide +kernel
theorem dX7_hint_45 : decode cX7_hint 45 = .ok (.iconst 1, 1) := by decide +kernel
theorem dX7_hint_46 : decode cX7_hint 46 = .ok (.if_icmp .ne 10, 3) := by decide +kernel
theorem dX7_hint_49 : decode cX7_hint 49 = .ok (.aload_n 0, 1) := by decide +kernel
theorem dX7_hint_50 : decode cX7_hint 50 = .ok (.getfield 118, 3) := by decide +kernel
theorem dX7_hint_53 : decode cX7_hint 53 = .ok (.goto 19, 3) := by decide +kernel
theorem dX7_hint_56 : decode cX7_hint 56 = .ok (.iload_n 1, 1) := by decide +kernel
theorem dX7_hint_57 : decode cX7_hint 57 = .ok (.iconst 2, 1) := by decide +kernel
theorem dX7_hint_58 : decode cX7_hint 58 = .ok (.if_icmp .ne 10, 3) := by decide +kernel
theorem dX7_hint_61 : decode cX7_hint 61 = .ok (.aload_n 0, 1) := by decide +kernel
theorem dX7_hint_62 : decode cX7_hint 62 = .ok (.getfield 121, 3) := by decide +kernel
theorem dX7_hint_65 : decode cX7_hint 65 = .ok (.goto 7, 3) := by decide +kernel
theorem dX7_hint_68 : decode cX7_hint 68 = .ok (.aload_n 0, 1) := by decide +kernel
theorem dX7_hint_69 : decode cX7_hint 69 = .ok (.getfield 124, 3) := by decide +kernel
theorem dX7_hint_72 : decode cX7_hint 72 = .ok (.ireturn, 1) := by decide +kernel
theorem dX7_way_0 : decode cX7_way 0 = .ok (.iload_n 1, 1) := by decide +kernel
theorem dX7_way_1 : decode cX7_way 1 = .ok (.iconst 0, 1) := by decide +kernel
theorem dX7_way_2 : decode cX7_way 2 = .ok (.aload_n 0, 1) := by decide +kernel
theorem dX7_way_3 : decode cX7_way 3 = .ok (.invokevirtual 69, 3) := by decide +kernel
theorem dX7_way_6 : decode cX7_way 6 = .ok (.iconst 1, 1) := by decide +kernel
theorem dX7_way_7 : decode cX7_way 7 = .ok (.isub, 1) := by decide +kernel
theorem dX7_way_8 : decode cX7_way 8 = .ok (.invokestatic 162, 3) := by decide +kernel
theorem dX7_way_11 : decode cX7_way 11 = .ok (.ifCond .eq 12, 3) := by decide +kernel
theorem dX7_way_14 : decode cX7_way 14 = .ok (.iload_n 2, 1) := by decide +kernel
theorem dX7_way_15 : decode cX7_way 15 = .ok (.iconst 0, 1) := by decide +kernel
theorem dX7_way_16 : decode cX7_way 16 = .ok (.iconst 2, 1) := by decide +kernel
theorem dX7_way_17 : decode cX7_way 17 = .ok (.invokestatic 162, 3) := by decide +kernel
theorem dX7_way_20 : decode cX7_way 20 = .ok (.ifCond .ne 6, 3) := by decide +kernel
theorem dX7_way_23 : decode cX7_way 23 = .ok (.bipush (-2), 2) := by decide +kernel
theorem dX7_way_25 : decode cX7_way 25 = .ok (.ireturn, 1) := by decide +kernel
theorem dX7_way_26 : decode cX7_way 26 = .ok (.aload_n 0, 1) := by decide +kernel
theorem dX7_way_27 : decode cX7_way 27 = .ok (.iload_n 1, 1) := by decide +kernel
theorem dX7_way_28 : decode cX7_way 28 = .ok (.invokevirtual 56, 3) := by decide +kernel
theorem dX7_way_31 : decode cX7_way 31 = .ok (.iconst 1, 1) := by decide +kernel
theorem dX7_way_32 : decode cX7_way 32 = .ok (.if_icmp .eq 5, 3) := by decide +kernel
theorem dX7_way_35 : decode cX7_way 35 = .ok (.iconst (-1), 1) := by decide +kernel
theorem dX7_way_36 : decode cX7_way 36 = .ok (.ireturn, 1) := by decide +kernel
theorem dX7_way_37 : decode cX7_way 37 = .ok (.aload_n 0, 1) := by decide +kernel
theorem dX7_way_38 : decode cX7_way 38 = .ok (.invokevirtual 94, 3) := by decide +kernel
theorem dX7_way_41 : decode cX7_way 41 = .ok (.aload_n 0, 1) := by decide +kernel
theorem dX7_way_42 : decode cX7_way 42 = .ok (.aload_n 0, 1) := by decide +kernel
theorem dX7_way_43 : decode cX7_way 43 = .ok (.iload_n 1, 1) := by decide +kernel
theorem dX7_way_44 : decode cX7_way 44 = .ok (.iconst 0, 1) := by decide +kernel
theorem dX7_way_45 : decode cX7_way 45 = .ok (.invokevirtual 72, 3) := by decide +kernel
theorem dX7_way_48 : decode cX7_way 48 = .ok (.invokevirtual 76, 3) := by decide +kernel
theorem dX7_way_51 : decode cX7_way 51 = .ok (.istore_n 3, 1) := by decide +kernel
theorem dX7_way_52 : decode cX7_way 52 = .ok (.iload_n 2, 1) := by decide +kernel
theorem dX7_way_53 : decode cX7_way 53 = .ok (.iconst 1, 1) := by decide +kernel
theorem dX7_way_54 : decode cX7_way 54 = .ok (.if_icmp .eq 30, 3) := by decide +kernel
theorem dX7_way_57 : decode cX7_way 57 = .ok (.iload_n 2, 1) := by decide +kernel
theorem dX7_way_58 : decode cX7_way 58 = .ok (.ifCond .ne 12, 3) := by decide +kernel
theorem dX7_way_61 : decode cX7_way 61 = .ok (.aload_n 0, 1) := by decide +kernel
theorem dX7_way_62 : decode cX7_way 62 = .ok (.getfield 22, 3) := by decide +kernel
theorem dX7_way_65 : decode cX7_way 65 = .ok (.iload_n 3, 1) := by decide +kernel
theorem dX7_way_66 : decode cX7_way 66 = .ok (.iaload, 1) := by decide +kernel
theorem dX7_way_67 : decode cX7_way 67 = .ok (.goto 16, 3) := by decide +kernel
theorem dX7_way_70 : decode cX7_way 70 = .ok (.aload_n 0, 1) := by decide +kernel
theorem dX7_way_71 : decode cX7_way 71 = .ok (.iload_n 3, 1) := by decide +kernel
theorem dX7_way_72 : decode cX7_way 72 = .ok (.invokevirtual 108, 3) := by decide +kernel
theorem dX7_way_75 : decode cX7_way 75 = .ok (.ifCond .eq 7, 3) := by decide +kernel
theorem dX7_way_78 : decode cX7_way 78 = .ok (.iconst 1, 1) := by decide +kernel
theorem dX7_way_79 : decode cX7_way 79 = .ok (.goto 4, 3) := by decide +kernel
theorem dX7_way_82 : decode cX7_way 82 = .ok (.iconst 0, 1) := by decide +kernel
theorem dX7_way_83 : decode cX7_way 83 = .ok (.ireturn, 1) := by decide +kernel
theorem dX7_way_84 : decode cX7_way 84 = .ok (.iconst 0, 1) := by decide +kernel
theorem dX7_way_85 : decode cX7_way 85 = .ok (.istore 4, 2) := by decide +kernel
theorem dX7_way_87 : decode cX7_way 87 = .ok (.aload_n 0, 1) := by decide +kernel
theorem dX7_way_88 : decode cX7_way 88 = .ok (.iload 4, 2) := by decide +kernel
theorem dX7_way_90 : decode cX7_way 90 = .ok (.invokevirtual 56, 3) := by decide +kernel
theorem dX7_way_93 : decode cX7_way 93 = .ok (.iconst 1, 1) := by decide +kernel
theorem dX7_way_94 : decode cX7_way 94 = .ok (.if_icmp .ne 18, 3) := by decide +kernel
theorem dX7_way_97 : decode cX7_way 97 = .ok (.aload_n 0, 1) := by decide +kernel
theorem dX7_way_98 : decode cX7_way 98 = .ok (.aload_n 0, 1) := by decide +kernel
theorem dX7_way_99 : decode cX7_way 99 = .ok (.iload 4, 2) := by decide +kernel
theorem dX7_way_101 : decode cX7_way 101 = .ok (.iconst 0, 1) := by decide +kernel
theorem dX7_way_102 : decode cX7_way 102 = .ok (.invokevirtual 72, 3) := by decide +kernel
theorem dX7_way_105 : decode cX7_way 105 = .ok (.invokevirtual 76, 3) := by decide +kernel
theorem dX7_way_108 : decode cX7_way 108 = .ok (.iload_n 3, 1) := by decide +kernel
theorem dX7_way_109 : decode cX7_way 109 = .ok (.if_icmp .eq 9, 3) := by decide +kernel
theorem dX7_way_112 : decode cX7_way 112 = .ok (.iinc 4 1, 3) := by decide +kernel
theorem dX7_way_115 : decode cX7_way 115 = .ok (.goto (-28), 3) := by decide +kernel
theorem dX7_way_118 : decode cX7_way 118 = .ok (.iload 4, 2) := by decide +kernel
theorem dX7_way_120 : decode cX7_way 120 = .ok (.ireturn, 1) := by decide +kernel
theorem dX7_puts_0 : decode cX7_puts 0 = .ok (.iconst 0, 1) := by decide +kernel
theorem dX7_puts_1 : decode cX7_puts 1 = .ok (.istore_n 2, 1) := by decide +kernel
theorem dX7_puts_2 : decode cX7_puts 2 = .ok (.iload_n 2, 1) := by decide +kernel
theorem dX7_puts_3 : decode cX7_puts 3 = .ok (.bipush 40, 2) := by decide +kernel
theorem dX7_puts_5 : decode cX7_puts 5 = .ok (.if_icmp .ge 29, 3) := by decide +kernel
theorem dX7_puts_8 : decode cX7_puts 8 = .ok (.aload_n 0, 1) := by decide +kernel
theorem dX7_puts_9 : decode cX7_puts 9 = .ok (.getfield 35, 3) := by decide +kernel
theorem dX7_puts_12 : decode cX7_puts 12 = .ok (.bipush 40, 2) := by decide +kernel
theorem dX7_puts_14 : decode cX7_puts 14 = .ok (.iload_n 1, 1) := by decide +kernel
theorem dX7_puts_15 : decode cX7_puts 15 = .ok (.imul, 1) := by decide +kernel
theorem dX7_puts_16 : decode cX7_puts 16 = .ok (.iload_n 2, 1) := by decide +kernel
theorem dX7_puts_17 : decode cX7_puts 17 = .ok (.iadd, 1) := by decide +kernel
theorem dX7_puts_18 : decode cX7_puts 18 = .ok (.aload_n 0, 1) := by decide +kernel
theorem dX7_puts_19 : decode cX7_puts 19 = .ok (.getfield 7, 3) := by decide +kernel
theorem dX7_puts_22 : decode cX7_puts 22 = .ok (.bipush 18, 2) := by decide +kernel
theorem dX7_puts_24 : decode cX7_puts 24 = .ok (.iload_n 2, 1) := by decide +kernel
theorem dX7_puts_25 : decode cX7_puts 25 = .ok (.iadd, 1) := by decide +kernel
theorem dX7_puts_26 : decode cX7_puts 26 = .ok (.iaload, 1) := by decide +kernel
theorem dX7_puts_27 : decode cX7_puts 27 = .ok (.iastore, 1) := by decide +kernel
theorem dX7_puts_28 : decode cX7_puts 28 = .ok (.iinc 2 1, 3) := by decide +kernel
theorem dX7_puts_31 : decode cX7_puts 31 = .ok (.goto (-29), 3) := by decide +kernel
theorem dX7_puts_34 : decode cX7_puts 34 = .ok (.return_, 1) := by decide +kernel
theorem dX7_takes_0 : decode cX7_takes 0 = .ok (.iconst 0, 1) := by decide +kernel
theorem dX7_takes_1 : decode cX7_takes 1 = .ok (.istore_n 2, 1) := by decide +kernel
theorem dX7_takes_2 : decode cX7_takes 2 = .ok (.iload_n 2, 1) := by decide +kernel
theorem dX7_takes_3 : decode cX7_takes 3 = .ok (.bipush 40, 2) := by decide +kernel
theorem dX7_takes_5 : decode cX7_takes 5 = .ok (.if_icmp .ge 29, 3) := by decide +kernel
theorem dX7_takes_8 : decode cX7_takes 8 = .ok (.aload_n 0, 1) := by decide +kernel
theorem dX7_takes_9 : decode cX7_takes 9 = .ok (.getfield 7, 3) := by decide +kernel
theorem dX7_takes_12 : decode cX7_takes 12 = .ok (.bipush 18, 2) := by decide +kernel
theorem dX7_takes_14 : decode cX7_takes 14 = .ok (.iload_n 2, 1) := by decide +kernel
theorem dX7_takes_15 : decode cX7_takes 15 = .ok (.iadd, 1) := by decide +kernel
theorem dX7_takes_16 : decode cX7_takes 16 = .ok (.aload_n 0, 1) := by decide +kernel
theorem dX7_takes_17 : decode cX7_takes 17 = .ok (.getfield 35, 3) := by decide +kernel
theorem dX7_takes_20 : decode cX7_takes 20 = .ok (.bipush 40, 2) := by decide +kernel
theorem dX7_takes_22 : decode cX7_takes 22 = .ok (.iload_n 1, 1) := by decide +kernel
theorem dX7_takes_23 : decode cX7_takes 23 = .ok (.imul, 1) := by decide +kernel
theorem dX7_takes_24 : decode cX7_takes 24 = .ok (.iload_n 2, 1) := by decide +kernel
theorem dX7_takes_25 : decode cX7_takes 25 = .ok (.iadd, 1) := by decide +kernel
theorem dX7_takes_26 : decode cX7_takes 26 = .ok (.iaload, 1) := by decide +kernel
theorem dX7_takes_27 : decode cX7_takes 27 = .ok (.iastore, 1) := by decide +kernel
theorem dX7_takes_28 : decode cX7_takes 28 = .ok (.iinc 2 1, 3) := by decide +kernel
theorem dX7_takes_31 : decode cX7_takes 31 = .ok (.goto (-29), 3) := by decide +kernel
theorem dX7_takes_34 : decode cX7_takes 34 = .ok (.return_, 1) := by decide +kernel
theorem dX7_node_0 : decode cX7_node 0 = .ok (.aload_n 0, 1) := by decide +kernel
theorem dX7_node_1 : decode cX7_node 1 = .ok (.iconst 5, 1) := by decide +kernel
theorem dX7_node_2 : decode cX7_node 2 = .ok (.invokevirtual 149, 3) := by decide +kernel
theorem dX7_node_5 : decode cX7_node 5 = .ok (.ifCond .eq 10, 3) := by decide +kernel
theorem dX7_node_8 : decode cX7_node 8 = .ok (.aload_n 0, 1) := by decide +kernel
theorem dX7_node_9 : decode cX7_node 9 = .ok (.invokevirtual 152, 3) := by decide +kernel
theorem dX7_node_12 : decode cX7_node 12 = .ok (.goto (-12), 3) := by decide +kernel
theorem dX7_node_15 : decode cX7_node 15 = .ok (.aload_n 0, 1) := by decide +kernel
theorem dX7_node_16 : decode cX7_node 16 = .ok (.invokevirtual 137, 3) := by decide +kernel
theorem dX7_node_19 : decode cX7_node 19 = .ok (.ifCond .ne 5, 3) := by decide +kernel
theorem dX7_node_22 : decode cX7_node 22 = .ok (.iconst (-1), 1) := by decide +kernel
theorem dX7_node_23 : decode cX7_node 23 = .ok (.ireturn, 1) := by decide +kernel
theorem dX7_node_24 : decode cX7_node 24 = .ok (.aload_n 0, 1) := by decide +kernel
theorem dX7_node_25 : decode cX7_node 25 = .ok (.getfield 97, 3) := by decide +kernel
theorem dX7_node_28 : decode cX7_node 28 = .ok (.ifCond .eq 60, 3) := by decide +kernel
theorem dX7_node_31 : decode cX7_node 31 = .ok (.iconst 0, 1) := by decide +kernel
theorem dX7_node_32 : decode cX7_node 32 = .ok (.istore_n 1, 1) := by decide +kernel
theorem dX7_node_33 : decode cX7_node 33 = .ok (.iload_n 1, 1) := by decide +kernel
theorem dX7_node_34 : decode cX7_node 34 = .ok (.bipush 40, 2) := by decide +kernel
theorem dX7_node_36 : decode cX7_node 36 = .ok (.if_icmp .ge 40, 3) := by decide +kernel
theorem dX7_node_39 : decode cX7_node 39 = .ok (.aload_n 0, 1) := by decide +kernel
theorem dX7_node_40 : decode cX7_node 40 = .ok (.getfield 199, 3) := by decide +kernel
theorem dX7_node_43 : decode cX7_node 43 = .ok (.ifCond .ne 33, 3) := by decide +kernel
theorem dX7_node_46 : decode cX7_node 46 = .ok (.aload_n 0, 1) := by decide +kernel
theorem dX7_node_47 : decode cX7_node 47 = .ok (.getfield 41, 3) := by decide +kernel
theorem dX7_node_50 : decode cX7_node 50 = .ok (.iload_n 1, 1) := by decide +kernel
theorem dX7_node_51 : decode cX7_node 51 = .ok (.aload_n 0, 1) := by decide +kernel
theorem dX7_node_52 : decode cX7_node 52 = .ok (.getfield 7, 3) := by decide +kernel
theorem dX7_node_55 : decode cX7_node 55 = .ok (.bipush 18, 2) := by decide +kernel
theorem dX7_node_57 : decode cX7_node 57 = .ok (.iload_n 1, 1) := by decide +kernel
theorem dX7_node_58 : decode cX7_node 58 = .ok (.iadd, 1) := by decide +kernel
theorem dX7_node_59 : decode cX7_node 59 = .ok (.iaload, 1) := by decide +kernel
theorem dX7_node_60 : decode cX7_node 60 = .ok (.iconst 1, 1) := by decide +kernel
theorem dX7_node_61 : decode cX7_node 61 = .ok (.if_icmp .ne 7, 3) := by decide +kernel
theorem dX7_node_64 : decode cX7_node 64 = .ok (.iconst 1, 1) := by decide +kernel
theorem dX7_node_65 : decode cX7_node 65 = .ok (.goto 4, 3) := by decide +kernel
theorem dX7_node_68 : decode cX7_node 68 = .ok (.iconst 0, 1) := by decide +kernel
theorem dX7_node_69 : decode cX7_node 69 = .ok (.iastore, 1) := by decide +kernel
theorem dX7_node_70 : decode cX7_node 70 = .ok (.iinc 1 1, 3) := by decide +kernel
theorem dX7_node_73 : decode cX7_node 73 = .ok (.goto (-40), 3) := by decide +kernel
theorem dX7_node_76 : decode cX7_node 76 = .ok (.aload_n 0, 1) := by decide +kernel
theorem dX7_node_77 : decode cX7_node 77 = .ok (.dup, 1) := by decide +kernel
theorem dX7_node_78 : decode cX7_node 78 = .ok (.getfield 199, 3) := by decide +kernel
theorem dX7_node_81 : decode cX7_node 81 = .ok (.iconst 1, 1) := by decide +kernel
theorem dX7_node_82 : decode cX7_node 82 = .ok (.iadd, 1) := by decide +kernel
theorem dX7_node_83 : decode cX7_node 83 = .ok (.putfield 199, 3) := by decide +kernel
theorem dX7_node_86 : decode cX7_node 86 = .ok (.iconst (-1), 1) := by decide +kernel
theorem dX7_node_87 : decode cX7_node 87 = .ok (.ireturn, 1) := by decide +kernel
theorem dX7_node_88 : decode cX7_node 88 = .ok (.iconst 0, 1) := by decide +kernel
theorem dX7_node_89 : decode cX7_node 89 = .ok (.istore_n 1, 1) := by decide +kernel
theorem dX7_node_90 : decode cX7_node 90 = .ok (.iload_n 1, 1) := by decide +kernel
theorem dX7_node_91 : decode cX7_node 91 = .ok (.aload_n 0, 1) := by decide +kernel
theorem dX7_node_92 : decode cX7_node 92 = .ok (.invokevirtual 69, 3) := by decide +kernel
theorem dX7_node_95 : decode cX7_node 95 = .ok (.if_icmp .ge 17, 3) := by decide +kernel
theorem dX7_node_98 : decode cX7_node 98 = .ok (.aload_n 0, 1) := by decide +kernel
theorem dX7_node_99 : decode cX7_node 99 = .ok (.iload_n 1, 1) := by decide +kernel
theorem dX7_node_100 : decode cX7_node 100 = .ok (.invokevirtual 56, 3) := by decide +kernel
theorem dX7_node_103 : decode cX7_node 103 = .ok (.ifCond .eq 9, 3) := by decide +kernel
theorem dX7_node_106 : decode cX7_node 106 = .ok (.iinc 1 1, 3) := by decide +kernel
theorem dX7_node_109 : decode cX7_node 109 = .ok (.goto (-19), 3) := by decide +kernel
theorem dX7_node_112 : decode cX7_node 112 = .ok (.iload_n 1, 1) := by decide +kernel
theorem dX7_node_113 : decode cX7_node 113 = .ok (.aload_n 0, 1) := by decide +kernel
theorem dX7_node_114 : decode cX7_node 114 = .ok (.invokevirtual 69, 3) := by decide +kernel
theorem dX7_node_117 : decode cX7_node 117 = .ok (.if_icmp .ge 7, 3) := by decide +kernel
theorem dX7_node_120 : decode cX7_node 120 = .ok (.iload_n 1, 1) := by decide +kernel
theorem dX7_node_121 : decode cX7_node 121 = .ok (.goto 4, 3) := by decide +kernel
theorem dX7_node_124 : decode cX7_node 124 = .ok (.iconst (-1), 1) := by decide +kernel
theorem dX7_node_125 : decode cX7_node 125 = .ok (.ireturn, 1) := by decide +kernel
theorem dX7_searches_0 : decode cX7_searches 0 = .ok (.iconst 0, 1) := by decide +kernel
theorem dX7_searches_1 : decode cX7_searches 1 = .ok (.istore_n 2, 1) := by decide +kernel
theorem dX7_searches_2 : decode cX7_searches 2 = .ok (.iload_n 2, 1) := by decide +kernel
theorem dX7_searches_3 : decode cX7_searches 3 = .ok (.bipush 40, 2) := by decide +kernel
theorem dX7_searches_5 : decode cX7_searches 5 = .ok (.if_icmp .ge 24, 3) := by decide +kernel
theorem dX7_searches_8 : decode cX7_searches 8 = .ok (.aload_n 0, 1) := by decide +kernel
theorem dX7_searches_9 : decode cX7_searches 9 = .ok (.getfield 38, 3) := by decide +kernel
theorem dX7_searches_12 : decode cX7_searches 12 = .ok (.iload_n 2, 1) := by decide +kernel
theorem dX7_searches_13 : decode cX7_searches 13 = .ok (.aload_n 0, 1) := by decide +kernel
theorem dX7_searches_14 : decode cX7_searches 14 = .ok (.getfield 7, 3) := by decide +kernel
theorem dX7_searches_17 : decode cX7_searches 17 = .ok (.bipush 18, 2) := by decide +kernel
theorem dX7_searches_19 : decode cX7_searches 19 = .ok (.iload_n 2, 1) := by decide +kernel
theorem dX7_searches_20 : decode cX7_searches 20 = .ok (.iadd, 1) := by decide +kernel
theorem dX7_searches_21 : decode cX7_searches 21 = .ok (.iaload, 1) := by decide +kernel
theorem dX7_searches_22 : decode cX7_searches 22 = .ok (.iastore, 1) := by decide +kernel
theorem dX7_searches_23 : decode cX7_searches 23 = .ok (.iinc 2 1, 3) := by decide +kernel
theorem dX7_searches_26 : decode cX7_searches 26 = .ok (.goto (-24), 3) := by decide +kernel
theorem dX7_searches_29 : decode cX7_searches 29 = .ok (.aload_n 0, 1) := by decide +kernel
theorem dX7_searches_30 : decode cX7_searches 30 = .ok (.iconst 0, 1) := by decide +kernel
theorem dX7_searches_31 : decode cX7_searches 31 = .ok (.putfield 202, 3) := by decide +kernel
theorem dX7_searches_34 : decode cX7_searches 34 = .ok (.aload_n 0, 1) := by decide +kernel
theorem dX7_searches_35 : decode cX7_searches 35 = .ok (.iconst 0, 1) := by decide +kernel
theorem dX7_searches_36 : decode cX7_searches 36 = .ok (.putfield 199, 3) := by decide +kernel
theorem dX7_searches_39 : decode cX7_searches 39 = .ok (.aload_n 0, 1) := by decide +kernel
theorem dX7_searches_40 : decode cX7_searches 40 = .ok (.iconst 0, 1) := by decide +kernel
theorem dX7_searches_41 : decode cX7_searches 41 = .ok (.putfield 205, 3) := by decide +kernel
theorem dX7_searches_44 : decode cX7_searches 44 = .ok (.aload_n 0, 1) := by decide +kernel
theorem dX7_searches_45 : decode cX7_searches 45 = .ok (.iconst 0, 1) := by decide +kernel
theorem dX7_searches_46 : decode cX7_searches 46 = .ok (.invokevirtual 208, 3) := by decide +kernel
theorem dX7_searches_49 : decode cX7_searches 49 = .ok (.iconst 1, 1) := by decide +kernel
theorem dX7_searches_50 : decode cX7_searches 50 = .ok (.istore_n 2, 1) := by decide +kernel
theorem dX7_searches_51 : decode cX7_searches 51 = .ok (.iload_n 2, 1) := by decide +kernel
theorem dX7_searches_52 : decode cX7_searches 52 = .ok (.ifCond .le 110, 3) := by decide +kernel
theorem dX7_searches_55 : decode cX7_searches 55 = .ok (.aload_n 0, 1) := by decide +kernel
theorem dX7_searches_56 : decode cX7_searches 56 = .ok (.getfield 199, 3) := by decide +kernel
theorem dX7_searches_59 : decode cX7_searches 59 = .ok (.iload_n 1, 1) := by decide +kernel
theorem dX7_searches_60 : decode cX7_searches 60 = .ok (.if_icmp .ge 102, 3) := by decide +kernel
theorem dX7_searches_63 : decode cX7_searches 63 = .ok (.aload_n 0, 1) := by decide +kernel
theorem dX7_searches_64 : decode cX7_searches 64 = .ok (.getfield 205, 3) := by decide +kernel
theorem dX7_searches_67 : decode cX7_searches 67 = .ok (.ifCond .ne 95, 3) := by decide +kernel
theorem dX7_searches_70 : decode cX7_searches 70 = .ok (.aload_n 0, 1) := by decide +kernel
theorem dX7_searches_71 : decode cX7_searches 71 = .ok (.aload_n 0, 1) := by decide +kernel
theorem dX7_searches_72 : decode cX7_searches 72 = .ok (.getfield 202, 3) := by decide +kernel
theorem dX7_searches_75 : decode cX7_searches 75 = .ok (.sipush 200, 3) := by decide +kernel
theorem dX7_searches_78 : decode cX7_searches 78 = .ok (.if_icmp .ne 7, 3) := by decide +kernel
theorem dX7_searches_81 : decode cX7_searches 81 = .ok (.iconst 1, 1) := by decide +kernel
theorem dX7_searches_82 : decode cX7_searches 82 = .ok (.goto 4, 3) := by decide +kernel
theorem dX7_searches_85 : decode cX7_searches 85 = .ok (.iconst 0, 1) := by decide +kernel
theorem dX7_searches_86 : decode cX7_searches 86 = .ok (.putfield 205, 3) := by decide +kernel
theorem dX7_searches_89 : decode cX7_searches 89 = .ok (.aload_n 0, 1) := by decide +kernel
theorem dX7_searches_90 : decode cX7_searches 90 = .ok (.getfield 205, 3) := by decide +kernel
theorem dX7_searches_93 : decode cX7_searches 93 = .ok (.ifCond .ne (-42), 3) := by decide +kernel
theorem dX7_searches_96 : decode cX7_searches 96 = .ok (.iinc 2 (-1), 3) := by decide +kernel
theorem dX7_searches_99 : decode cX7_searches 99 = .ok (.aload_n 0, 1) := by decide +kernel
theorem dX7_searches_100 : decode cX7_searches 100 = .ok (.dup, 1) := by decide +kernel
theorem dX7_searches_101 : decode cX7_searches 101 = .ok (.getfield 202, 3) := by decide +kernel
theorem dX7_searches_104 : decode cX7_searches 104 = .ok (.iconst 1, 1) := by decide +kernel
theorem dX7_searches_105 : decode cX7_searches 105 = .ok (.iadd, 1) := by decide +kernel
theorem dX7_searches_106 : decode cX7_searches 106 = .ok (.putfield 202, 3) := by decide +kernel
theorem dX7_searches_109 : decode cX7_searches 109 = .ok (.aload_n 0, 1) := by decide +kernel
theorem dX7_searches_110 : decode cX7_searches 110 = .ok (.iload_n 2, 1) := by decide +kernel
theorem dX7_searches_111 : decode cX7_searches 111 = .ok (.invokevirtual 212, 3) := by decide +kernel
theorem dX7_searches_114 : decode cX7_searches 114 = .ok (.aload_n 0, 1) := by decide +kernel
theorem dX7_searches_115 : decode cX7_searches 115 = .ok (.invokevirtual 215, 3) := by decide +kernel
theorem dX7_searches_118 : decode cX7_searches 118 = .ok (.istore_n 3, 1) := by decide +kernel
theorem dX7_searches_119 : decode cX7_searches 119 = .ok (.iload_n 3, 1) := by decide +kernel
theorem dX7_searches_120 : decode cX7_searches 120 = .ok (.iconst (-1), 1) := by decide +kernel
theorem dX7_searches_121 : decode cX7_searches 121 = .ok (.if_icmp .eq 38, 3) := by decide +kernel
theorem dX7_searches_124 : decode cX7_searches 124 = .ok (.aload_n 0, 1) := by decide +kernel
theorem dX7_searches_125 : decode cX7_searches 125 = .ok (.getfield 7, 3) := by decide +kernel
theorem dX7_searches_128 : decode cX7_searches 128 = .ok (.bipush 18, 2) := by decide +kernel
theorem dX7_searches_130 : decode cX7_searches 130 = .ok (.iload_n 3, 1) := by decide +kernel
theorem dX7_searches_131 : decode cX7_searches 131 = .ok (.iadd, 1) := by decide +kernel
theorem dX7_searches_132 : decode cX7_searches 132 = .ok (.iconst 2, 1) := by decide +kernel
theorem dX7_searches_133 : decode cX7_searches 133 = .ok (.iastore, 1) := by decide +kernel
theorem dX7_searches_134 : decode cX7_searches 134 = .ok (.aload_n 0, 1) := by decide +kernel
theorem dX7_searches_135 : decode cX7_searches 135 = .ok (.iload_n 2, 1) := by decide +kernel
theorem dX7_searches_136 : decode cX7_searches 136 = .ok (.invokevirtual 208, 3) := by decide +kernel
theorem dX7_searches_139 : decode cX7_searches 139 = .ok (.aload_n 0, 1) := by decide +kernel
theorem dX7_searches_140 : decode cX7_searches 140 = .ok (.getfield 7, 3) := by decide +kernel
theorem dX7_searches_143 : decode cX7_searches 143 = .ok (.bipush 18, 2) := by decide +kernel
theorem dX7_searches_145 : decode cX7_searches 145 = .ok (.iload_n 3, 1) := by decide +kernel
theorem dX7_searches_146 : decode cX7_searches 146 = .ok (.iadd, 1) := by decide +kernel
theorem dX7_searches_147 : decode cX7_searches 147 = .ok (.iconst 1, 1) := by decide +kernel
theorem dX7_searches_148 : decode cX7_searches 148 = .ok (.iastore, 1) := by decide +kernel
theorem dX7_searches_149 : decode cX7_searches 149 = .ok (.aload_n 0, 1) := by decide +kernel
theorem dX7_searches_150 : decode cX7_searches 150 = .ok (.iload_n 2, 1) := by decide +kernel
theorem dX7_searches_151 : decode cX7_searches 151 = .ok (.iconst 1, 1) := by decide +kernel
theorem dX7_searches_152 : decode cX7_searches 152 = .ok (.iadd, 1) := by decide +kernel
theorem dX7_searches_153 : decode cX7_searches 153 = .ok (.invokevirtual 208, 3) := by decide +kernel
theorem dX7_searches_156 : decode cX7_searches 156 = .ok (.iinc 2 2, 3) := by decide +kernel
theorem dX7_searches_159 : decode cX7_searches 159 = .ok (.goto (-108), 3) := by decide +kernel
theorem dX7_searches_162 : decode cX7_searches 162 = .ok (.iconst 0, 1) := by decide +kernel
theorem dX7_searches_163 : decode cX7_searches 163 = .ok (.istore_n 3, 1) := by decide +kernel
theorem dX7_searches_164 : decode cX7_searches 164 = .ok (.iload_n 3, 1) := by decide +kernel
theorem dX7_searches_165 : decode cX7_searches 165 = .ok (.bipush 40, 2) := by decide +kernel
theorem dX7_searches_167 : decode cX7_searches 167 = .ok (.if_icmp .ge 24, 3) := by decide +kernel
theorem dX7_searches_170 : decode cX7_searches 170 = .ok (.aload_n 0, 1) := by decide +kernel
theorem dX7_searches_171 : decode cX7_searches 171 = .ok (.getfield 7, 3) := by decide +kernel
theorem dX7_searches_174 : decode cX7_searches 174 = .ok (.bipush 18, 2) := by decide +kernel
theorem dX7_searches_176 : decode cX7_searches 176 = .ok (.iload_n 3, 1) := by decide +kernel
theorem dX7_searches_177 : decode cX7_searches 177 = .ok (.iadd, 1) := by decide +kernel
theorem dX7_searches_178 : decode cX7_searches 178 = .ok (.aload_n 0, 1) := by decide +kernel
theorem dX7_searches_179 : decode cX7_searches 179 = .ok (.getfield 38, 3) := by decide +kernel
theorem dX7_searches_182 : decode cX7_searches 182 = .ok (.iload_n 3, 1) := by decide +kernel
theorem dX7_searches_183 : decode cX7_searches 183 = .ok (.iaload, 1) := by decide +kernel
theorem dX7_searches_184 : decode cX7_searches 184 = .ok (.iastore, 1) := by decide +kernel
theorem dX7_searches_185 : decode cX7_searches 185 = .ok (.iinc 3 1, 3) := by decide +kernel
theorem dX7_searches_188 : decode cX7_searches 188 = .ok (.goto (-24), 3) := by decide +kernel
theorem dX7_searches_191 : decode cX7_searches 191 = .ok (.return_, 1) := by decide +kernel
theorem dX7_solutions_0 : decode cX7_solutions 0 = .ok (.iload_n 1, 1) := by decide +kernel
theorem dX7_solutions_1 : decode cX7_solutions 1 = .ok (.iconst 1, 1) := by decide +kernel
theorem dX7_solutions_2 : decode cX7_solutions 2 = .ok (.bipush 20, 2) := by decide +kernel
theorem dX7_solutions_4 : decode cX7_solutions 4 = .ok (.invokestatic 162, 3) := by decide +kernel
theorem dX7_solutions_7 : decode cX7_solutions 7 = .ok (.ifCond .ne 6, 3) := by decide +kernel
theorem dX7_solutions_10 : decode cX7_solutions 10 = .ok (.bipush (-2), 2) := by decide +kernel
theorem dX7_solutions_12 : decode cX7_solutions 12 = .ok (.ireturn, 1) := by decide +kernel
theorem dX7_solutions_13 : decode cX7_solutions 13 = .ok (.aload_n 0, 1) := by decide +kernel
theorem dX7_solutions_14 : decode cX7_solutions 14 = .ok (.iload_n 1, 1) := by decide +kernel
theorem dX7_solutions_15 : decode cX7_solutions 15 = .ok (.invokevirtual 218, 3) := by decide +kernel
theorem dX7_solutions_18 : decode cX7_solutions 18 = .ok (.aload_n 0, 1) := by decide +kernel
theorem dX7_solutions_19 : decode cX7_solutions 19 = .ok (.getfield 199, 3) := by decide +kernel
theorem dX7_solutions_22 : decode cX7_solutions 22 = .ok (.ireturn, 1) := by decide +kernel
theorem dX7_nodes_0 : decode cX7_nodes 0 = .ok (.iload_n 1, 1) := by decide +kernel
theorem dX7_nodes_1 : decode cX7_nodes 1 = .ok (.iconst 1, 1) := by decide +kernel
theorem dX7_nodes_2 : decode cX7_nodes 2 = .ok (.bipush 20, 2) := by decide +kernel
theorem dX7_nodes_4 : decode cX7_nodes 4 = .ok (.invokestatic 162, 3) := by decide +kernel
theorem dX7_nodes_7 : decode cX7_nodes 7 = .ok (.ifCond .ne 6, 3) := by decide +kernel
theorem dX7_nodes_10 : decode cX7_nodes 10 = .ok (.bipush (-2), 2) := by decide +kernel
theorem dX7_nodes_12 : decode cX7_nodes 12 = .ok (.ireturn, 1) := by decide +kernel
theorem dX7_nodes_13 : decode cX7_nodes 13 = .ok (.aload_n 0, 1) := by decide +kernel
theorem dX7_nodes_14 : decode cX7_nodes 14 = .ok (.iload_n 1, 1) := by decide +kernel
theorem dX7_nodes_15 : decode cX7_nodes 15 = .ok (.invokevirtual 218, 3) := by decide +kernel
theorem dX7_nodes_18 : decode cX7_nodes 18 = .ok (.aload_n 0, 1) := by decide +kernel
theorem dX7_nodes_19 : decode cX7_nodes 19 = .ok (.getfield 205, 3) := by decide +kernel
theorem dX7_nodes_22 : decode cX7_nodes 22 = .ok (.ifCond .eq 9, 3) := by decide +kernel
theorem dX7_nodes_25 : decode cX7_nodes 25 = .ok (.sipush (-200), 3) := by decide +kernel
theorem dX7_nodes_28 : decode cX7_nodes 28 = .ok (.goto 7, 3) := by decide +kernel
theorem dX7_nodes_31 : decode cX7_nodes 31 = .ok (.aload_n 0, 1) := by decide +kernel
theorem dX7_nodes_32 : decode cX7_nodes 32 = .ok (.getfield 202, 3) := by decide +kernel
theorem dX7_nodes_35 : decode cX7_nodes 35 = .ok (.ireturn, 1) := by decide +kernel
theorem dX7_solved_0 : decode cX7_solved 0 = .ok (.iload_n 1, 1) := by decide +kernel
theorem dX7_solved_1 : decode cX7_solved 1 = .ok (.iconst 0, 1) := by decide +kernel
theorem dX7_solved_2 : decode cX7_solved 2 = .ok (.aload_n 0, 1) := by decide +kernel
theorem dX7_solved_3 : decode cX7_solved 3 = .ok (.invokevirtual 69, 3) := by decide +kernel
theorem dX7_solved_6 : decode cX7_solved 6 = .ok (.iconst 1, 1) := by decide +kernel
theorem dX7_solved_7 : decode cX7_solved 7 = .ok (.isub, 1) := by decide +kernel
theorem dX7_solved_8 : decode cX7_solved 8 = .ok (.invokestatic 162, 3) := by decide +kernel
theorem dX7_solved_11 : decode cX7_solved 11 = .ok (.ifCond .ne 6, 3) := by decide +kernel
theorem dX7_solved_14 : decode cX7_solved 14 = .ok (.bipush (-2), 2) := by decide +kernel
theorem dX7_solved_16 : decode cX7_solved 16 = .ok (.ireturn, 1) := by decide +kernel
theorem dX7_solved_17 : decode cX7_solved 17 = .ok (.aload_n 0, 1) := by decide +kernel
theorem dX7_solved_18 : decode cX7_solved 18 = .ok (.iconst 1, 1) := by decide +kernel
theorem dX7_solved_19 : decode cX7_solved 19 = .ok (.invokevirtual 218, 3) := by decide +kernel
theorem dX7_solved_22 : decode cX7_solved 22 = .ok (.aload_n 0, 1) := by decide +kernel
theorem dX7_solved_23 : decode cX7_solved 23 = .ok (.getfield 199, 3) := by decide +kernel
theorem dX7_solved_26 : decode cX7_solved 26 = .ok (.ifCond .ne 7, 3) := by decide +kernel
theorem dX7_solved_29 : decode cX7_solved 29 = .ok (.iconst (-1), 1) := by decide +kernel
theorem dX7_solved_30 : decode cX7_solved 30 = .ok (.goto 9, 3) := by decide +kernel
theorem dX7_solved_33 : decode cX7_solved 33 = .ok (.aload_n 0, 1) := by decide +kernel
theorem dX7_solved_34 : decode cX7_solved 34 = .ok (.getfield 41, 3) := by decide +kernel
theorem dX7_solved_37 : decode cX7_solved 37 = .ok (.iload_n 1, 1) := by decide +kernel
theorem dX7_solved_38 : decode cX7_solved 38 = .ok (.iaload, 1) := by decide +kernel
theorem dX7_solved_39 : decode cX7_solved 39 = .ok (.ireturn, 1) := by decide +kernel
theorem dX7_gradeOf_0 : decode cX7_gradeOf 0 = .ok (.iload_n 0, 1) := by decide +kernel
theorem dX7_gradeOf_1 : decode cX7_gradeOf 1 = .ok (.iconst 3, 1) := by decide +kernel
theorem dX7_gradeOf_2 : decode cX7_gradeOf 2 = .ok (.if_icmp .ge 7, 3) := by decide +kernel
theorem dX7_gradeOf_5 : decode cX7_gradeOf 5 = .ok (.iconst 1, 1) := by decide +kernel
theorem dX7_gradeOf_6 : decode cX7_gradeOf 6 = .ok (.goto 22, 3) := by decide +kernel
theorem dX7_gradeOf_9 : decode cX7_gradeOf 9 = .ok (.iload_n 0, 1) := by decide +kernel
theorem dX7_gradeOf_10 : decode cX7_gradeOf 10 = .ok (.iconst 5, 1) := by decide +kernel
theorem dX7_gradeOf_11 : decode cX7_gradeOf 11 = .ok (.if_icmp .ge 7, 3) := by decide +kernel
theorem dX7_gradeOf_14 : decode cX7_gradeOf 14 = .ok (.iconst 2, 1) := by decide +kernel
theorem dX7_gradeOf_15 : decode cX7_gradeOf 15 = .ok (.goto 13, 3) := by decide +kernel
theorem dX7_gradeOf_18 : decode cX7_gradeOf 18 = .ok (.iload_n 0, 1) := by decide +kernel
theorem dX7_gradeOf_19 : decode cX7_gradeOf 19 = .ok (.iconst 5, 1) := by decide +kernel
theorem dX7_gradeOf_20 : decode cX7_gradeOf 20 = .ok (.if_icmp .ne 7, 3) := by decide +kernel
theorem dX7_gradeOf_23 : decode cX7_gradeOf 23 = .ok (.iconst 3, 1) := by decide +kernel
theorem dX7_gradeOf_24 : decode cX7_gradeOf 24 = .ok (.goto 4, 3) := by decide +kernel
theorem dX7_gradeOf_27 : decode cX7_gradeOf 27 = .ok (.iconst 4, 1) := by decide +kernel
theorem dX7_gradeOf_28 : decode cX7_gradeOf 28 = .ok (.ireturn, 1) := by decide +kernel
theorem dX7_grade_0 : decode cX7_grade 0 = .ok (.iconst 0, 1) := by decide +kernel
theorem dX7_grade_1 : decode cX7_grade 1 = .ok (.istore_n 1, 1) := by decide +kernel
theorem dX7_grade_2 : decode cX7_grade 2 = .ok (.iload_n 1, 1) := by decide +kernel
theorem dX7_grade_3 : decode cX7_grade 3 = .ok (.bipush 40, 2) := by decide +kernel
theorem dX7_grade_5 : decode cX7_grade 5 = .ok (.if_icmp .ge 34, 3) := by decide +kernel
theorem dX7_grade_8 : decode cX7_grade 8 = .ok (.aload_n 0, 1) := by decide +kernel
theorem dX7_grade_9 : decode cX7_grade 9 = .ok (.getfield 38, 3) := by decide +kernel
theorem dX7_grade_12 : decode cX7_grade 12 = .ok (.iload_n 1, 1) := by decide +kernel
theorem dX7_grade_13 : decode cX7_grade 13 = .ok (.aload_n 0, 1) := by decide +kernel
theorem dX7_grade_14 : decode cX7_grade 14 = .ok (.getfield 7, 3) := by decide +kernel
theorem dX7_grade_17 : decode cX7_grade 17 = .ok (.bipush 18, 2) := by decide +kernel
theorem dX7_grade_19 : decode cX7_grade 19 = .ok (.iload_n 1, 1) := by decide +kernel
theorem dX7_grade_20 : decode cX7_grade 20 = .ok (.iadd, 1) := by decide +kernel
theorem dX7_grade_21 : decode cX7_grade 21 = .ok (.iaload, 1) := by decide +kernel
theorem dX7_grade_22 : decode cX7_grade 22 = .ok (.iastore, 1) := by decide +kernel
theorem dX7_grade_23 : decode cX7_grade 23 = .ok (.aload_n 0, 1) := by decide +kernel
theorem dX7_grade_24 : decode cX7_grade 24 = .ok (.getfield 7, 3) := by decide +kernel
theorem dX7_grade_27 : decode cX7_grade 27 = .ok (.bipush 18, 2) := by decide +kernel
theorem dX7_grade_29 : decode cX7_grade 29 = .ok (.iload_n 1, 1) := by decide +kernel
theorem dX7_grade_30 : decode cX7_grade 30 = .ok (.iadd, 1) := by decide +kernel
theorem dX7_grade_31 : decode cX7_grade 31 = .ok (.iconst 0, 1) := by decide +kernel
theorem dX7_grade_32 : decode cX7_grade 32 = .ok (.iastore, 1) := by decide +kernel
theorem dX7_grade_33 : decode cX7_grade 33 = .ok (.iinc 1 1, 3) := by decide +kernel
theorem dX7_grade_36 : decode cX7_grade 36 = .ok (.goto (-34), 3) := by decide +kernel
theorem dX7_grade_39 : decode cX7_grade 39 = .ok (.iconst 0, 1) := by decide +kernel
theorem dX7_grade_40 : decode cX7_grade 40 = .ok (.istore_n 1, 1) := by decide +kernel
theorem dX7_grade_41 : decode cX7_grade 41 = .ok (.aload_n 0, 1) := by decide +kernel
theorem dX7_grade_42 : decode cX7_grade 42 = .ok (.bipush 7, 2) := by decide +kernel
theorem dX7_grade_44 : decode cX7_grade 44 = .ok (.invokevirtual 196, 3) := by decide +kernel
theorem dX7_grade_47 : decode cX7_grade 47 = .ok (.ifCond .eq 33, 3) := by decide +kernel
theorem dX7_grade_50 : decode cX7_grade 50 = .ok (.aload_n 0, 1) := by decide +kernel
theorem dX7_grade_51 : decode cX7_grade 51 = .ok (.invokevirtual 152, 3) := by decide +kernel
theorem dX7_grade_54 : decode cX7_grade 54 = .ok (.aload_n 0, 1) := by decide +kernel
theorem dX7_grade_55 : decode cX7_grade 55 = .ok (.getfield 115, 3) := by decide +kernel
theorem dX7_grade_58 : decode cX7_grade 58 = .ok (.invokestatic 221, 3) := by decide +kernel
theorem dX7_grade_61 : decode cX7_grade 61 = .ok (.iload_n 1, 1) := by decide +kernel
theorem dX7_grade_62 : decode cX7_grade 62 = .ok (.if_icmp .le 13, 3) := by decide +kernel
theorem dX7_grade_65 : decode cX7_grade 65 = .ok (.aload_n 0, 1) := by decide +kernel
theorem dX7_grade_66 : decode cX7_grade 66 = .ok (.getfield 115, 3) := by decide +kernel
theorem dX7_grade_69 : decode cX7_grade 69 = .ok (.invokestatic 221, 3) := by decide +kernel
theorem dX7_grade_72 : decode cX7_grade 72 = .ok (.goto 4, 3) := by decide +kernel
theorem dX7_grade_75 : decode cX7_grade 75 = .ok (.iload_n 1, 1) := by decide +kernel
theorem dX7_grade_76 : decode cX7_grade 76 = .ok (.istore_n 1, 1) := by decide +kernel
theorem dX7_grade_77 : decode cX7_grade 77 = .ok (.goto (-36), 3) := by decide +kernel
theorem dX7_grade_80 : decode cX7_grade 80 = .ok (.aload_n 0, 1) := by decide +kernel
theorem dX7_grade_81 : decode cX7_grade 81 = .ok (.invokevirtual 137, 3) := by decide +kernel
theorem dX7_grade_84 : decode cX7_grade 84 = .ok (.ifCond .eq 14, 3) := by decide +kernel
theorem dX7_grade_87 : decode cX7_grade 87 = .ok (.aload_n 0, 1) := by decide +kernel
theorem dX7_grade_88 : decode cX7_grade 88 = .ok (.getfield 97, 3) := by decide +kernel
theorem dX7_grade_91 : decode cX7_grade 91 = .ok (.ifCond .eq 7, 3) := by decide +kernel
theorem dX7_grade_94 : decode cX7_grade 94 = .ok (.iconst 1, 1) := by decide +kernel
theorem dX7_grade_95 : decode cX7_grade 95 = .ok (.goto 4, 3) := by decide +kernel
theorem dX7_grade_98 : decode cX7_grade 98 = .ok (.iconst 0, 1) := by decide +kernel
theorem dX7_grade_99 : decode cX7_grade 99 = .ok (.istore_n 2, 1) := by decide +kernel
theorem dX7_grade_100 : decode cX7_grade 100 = .ok (.iconst 0, 1) := by decide +kernel
theorem dX7_grade_101 : decode cX7_grade 101 = .ok (.istore_n 3, 1) := by decide +kernel
theorem dX7_grade_102 : decode cX7_grade 102 = .ok (.iload_n 3, 1) := by decide +kernel
theorem dX7_grade_103 : decode cX7_grade 103 = .ok (.bipush 40, 2) := by decide +kernel
theorem dX7_grade_105 : decode cX7_grade 105 = .ok (.if_icmp .ge 24, 3) := by decide +kernel
theorem dX7_grade_108 : decode cX7_grade 108 = .ok (.aload_n 0, 1) := by decide +kernel
theorem dX7_grade_109 : decode cX7_grade 109 = .ok (.getfield 7, 3) := by decide +kernel
theorem dX7_grade_112 : decode cX7_grade 112 = .ok (.bipush 18, 2) := by decide +kernel
theorem dX7_grade_114 : decode cX7_grade 114 = .ok (.iload_n 3, 1) := by decide +kernel
theorem dX7_grade_115 : decode cX7_grade 115 = .ok (.iadd, 1) := by decide +kernel
theorem dX7_grade_116 : decode cX7_grade 116 = .ok (.aload_n 0, 1) := by decide +kernel
theorem dX7_grade_117 : decode cX7_grade 117 = .ok (.getfield 38, 3) := by decide +kernel
theorem dX7_grade_120 : decode cX7_grade 120 = .ok (.iload_n 3, 1) := by decide +kernel
theorem dX7_grade_121 : decode cX7_grade 121 = .ok (.iaload, 1) := by decide +kernel
theorem dX7_grade_122 : decode cX7_grade 122 = .ok (.iastore, 1) := by decide +kernel
theorem dX7_grade_123 : decode cX7_grade 123 = .ok (.iinc 3 1, 3) := by decide +kernel
theorem dX7_grade_126 : decode cX7_grade 126 = .ok (.goto (-24), 3) := by decide +kernel
theorem dX7_grade_129 : decode cX7_grade 129 = .ok (.iload_n 2, 1) := by decide +kernel
theorem dX7_grade_130 : decode cX7_grade 130 = .ok (.ifCond .eq 7, 3) := by decide +kernel
theorem dX7_grade_133 : decode cX7_grade 133 = .ok (.iload_n 1, 1) := by decide +kernel
theorem dX7_grade_134 : decode cX7_grade 134 = .ok (.goto 4, 3) := by decide +kernel
theorem dX7_grade_137 : decode cX7_grade 137 = .ok (.iconst (-1), 1) := by decide +kernel
theorem dX7_grade_138 : decode cX7_grade 138 = .ok (.ireturn, 1) := by decide +kernel
theorem dX7_counts_0 : decode cX7_counts 0 = .ok (.iconst 0, 1) := by decide +kernel
theorem dX7_counts_1 : decode cX7_counts 1 = .ok (.istore_n 1, 1) := by decide +kernel
theorem dX7_counts_2 : decode cX7_counts 2 = .ok (.iconst 0, 1) := by decide +kernel
theorem dX7_counts_3 : decode cX7_counts 3 = .ok (.istore_n 2, 1) := by decide +kernel
theorem dX7_counts_4 : decode cX7_counts 4 = .ok (.iload_n 2, 1) := by decide +kernel
theorem dX7_counts_5 : decode cX7_counts 5 = .ok (.aload_n 0, 1) := by decide +kernel
theorem dX7_counts_6 : decode cX7_counts 6 = .ok (.invokevirtual 82, 3) := by decide +kernel
theorem dX7_counts_9 : decode cX7_counts 9 = .ok (.if_icmp .ge 29, 3) := by decide +kernel
theorem dX7_counts_12 : decode cX7_counts 12 = .ok (.iload_n 1, 1) := by decide +kernel
theorem dX7_counts_13 : decode cX7_counts 13 = .ok (.aload_n 0, 1) := by decide +kernel
theorem dX7_counts_14 : decode cX7_counts 14 = .ok (.getfield 7, 3) := by decide +kernel
theorem dX7_counts_17 : decode cX7_counts 17 = .ok (.iconst 2, 1) := by decide +kernel
theorem dX7_counts_18 : decode cX7_counts 18 = .ok (.iload_n 2, 1) := by decide +kernel
theorem dX7_counts_19 : decode cX7_counts 19 = .ok (.iadd, 1) := by decide +kernel
theorem dX7_counts_20 : decode cX7_counts 20 = .ok (.iaload, 1) := by decide +kernel
theorem dX7_counts_21 : decode cX7_counts 21 = .ok (.iconst (-1), 1) := by decide +kernel
theorem dX7_counts_22 : decode cX7_counts 22 = .ok (.if_icmp .ne 7, 3) := by decide +kernel
theorem dX7_counts_25 : decode cX7_counts 25 = .ok (.iconst 0, 1) := by decide +kernel
theorem dX7_counts_26 : decode cX7_counts 26 = .ok (.goto 4, 3) := by decide +kernel
theorem dX7_counts_29 : decode cX7_counts 29 = .ok (.iconst 1, 1) := by decide +kernel
theorem dX7_counts_30 : decode cX7_counts 30 = .ok (.iadd, 1) := by decide +kernel
theorem dX7_counts_31 : decode cX7_counts 31 = .ok (.istore_n 1, 1) := by decide +kernel
theorem dX7_counts_32 : decode cX7_counts 32 = .ok (.iinc 2 1, 3) := by decide +kernel
theorem dX7_counts_35 : decode cX7_counts 35 = .ok (.goto (-31), 3) := by decide +kernel
theorem dX7_counts_38 : decode cX7_counts 38 = .ok (.iload_n 1, 1) := by decide +kernel
theorem dX7_counts_39 : decode cX7_counts 39 = .ok (.ireturn, 1) := by decide +kernel
theorem dX7_count_0 : decode cX7_count 0 = .ok (.iload_n 1, 1) := by decide +kernel
theorem dX7_count_1 : decode cX7_count 1 = .ok (.bipush 6, 2) := by decide +kernel
theorem dX7_count_3 : decode cX7_count 3 = .ok (.bipush 13, 2) := by decide +kernel
theorem dX7_count_5 : decode cX7_count 5 = .ok (.invokestatic 162, 3) := by decide +kernel
theorem dX7_count_8 : decode cX7_count 8 = .ok (.ifCond .eq 16, 3) := by decide +kernel
theorem dX7_count_11 : decode cX7_count 11 = .ok (.aload_n 0, 1) := by decide +kernel
theorem dX7_count_12 : decode cX7_count 12 = .ok (.getfield 7, 3) := by decide +kernel
theorem dX7_count_15 : decode cX7_count 15 = .ok (.bipush 58, 2) := by decide +kernel
theorem dX7_count_17 : decode cX7_count 17 = .ok (.iload_n 1, 1) := by decide +kernel
theorem dX7_count_18 : decode cX7_count 18 = .ok (.iadd, 1) := by decide +kernel
theorem dX7_count_19 : decode cX7_count 19 = .ok (.bipush 6, 2) := by decide +kernel
theorem dX7_count_21 : decode cX7_count 21 = .ok (.isub, 1) := by decide +kernel
theorem dX7_count_22 : decode cX7_count 22 = .ok (.iaload, 1) := by decide +kernel
theorem dX7_count_23 : decode cX7_count 23 = .ok (.ireturn, 1) := by decide +kernel
theorem dX7_count_24 : decode cX7_count 24 = .ok (.iload_n 1, 1) := by decide +kernel
theorem dX7_count_25 : decode cX7_count 25 = .ok (.tableswitch 114 0 15 #[79, 79, 86, 91, 91, 99, 114, 114, 114, 114, 114, 114, 114, 114, 104, 109], 79) := by decide +kernel
theorem dX7_count_104 : decode cX7_count 104 = .ok (.aload_n 0, 1) := by decide +kernel
theorem dX7_count_105 : decode cX7_count 105 = .ok (.getfield 7, 3) := by decide +kernel
theorem dX7_count_108 : decode cX7_count 108 = .ok (.iload_n 1, 1) := by decide +kernel
theorem dX7_count_109 : decode cX7_count 109 = .ok (.iaload, 1) := by decide +kernel
theorem dX7_count_110 : decode cX7_count 110 = .ok (.ireturn, 1) := by decide +kernel
theorem dX7_count_111 : decode cX7_count 111 = .ok (.aload_n 0, 1) := by decide +kernel
theorem dX7_count_112 : decode cX7_count 112 = .ok (.invokevirtual 69, 3) := by decide +kernel
theorem dX7_count_115 : decode cX7_count 115 = .ok (.ireturn, 1) := by decide +kernel
theorem dX7_count_116 : decode cX7_count 116 = .ok (.aload_n 0, 1) := by decide +kernel
theorem dX7_count_117 : decode cX7_count 117 = .ok (.iload_n 1, 1) := by decide +kernel
theorem dX7_count_118 : decode cX7_count 118 = .ok (.iconst 3, 1) := by decide +kernel
theorem dX7_count_119 : decode cX7_count 119 = .ok (.isub, 1) := by decide +kernel
theorem dX7_count_120 : decode cX7_count 120 = .ok (.invokevirtual 193, 3) := by decide +kernel
theorem dX7_count_123 : decode cX7_count 123 = .ok (.ireturn, 1) := by decide +kernel
theorem dX7_count_124 : decode cX7_count 124 = .ok (.aload_n 0, 1) := by decide +kernel
theorem dX7_count_125 : decode cX7_count 125 = .ok (.invokevirtual 224, 3) := by decide +kernel
theorem dX7_count_128 : decode cX7_count 128 = .ok (.ireturn, 1) := by decide +kernel
theorem dX7_count_129 : decode cX7_count 129 = .ok (.aload_n 0, 1) := by decide +kernel
theorem dX7_count_130 : decode cX7_count 130 = .ok (.getfield 44, 3) := by decide +kernel
theorem dX7_count_133 : decode cX7_count 133 = .ok (.ireturn, 1) := by decide +kernel
theorem dX7_count_134 : decode cX7_count 134 = .ok (.aload_n 0, 1) := by decide +kernel
theorem dX7_count_135 : decode cX7_count 135 = .ok (.getfield 166, 3) := by decide +kernel
theorem dX7_count_138 : decode cX7_count 138 = .ok (.ireturn, 1) := by decide +kernel
theorem dX7_count_139 : decode cX7_count 139 = .ok (.bipush (-2), 2) := by decide +kernel
theorem dX7_count_141 : decode cX7_count 141 = .ok (.ireturn, 1) := by decide +kernel
theorem dX7_mixes_0 : decode cX7_mixes 0 = .ok (.aload_n 0, 1) := by decide +kernel
theorem dX7_mixes_1 : decode cX7_mixes 1 = .ok (.ldc2_w 227, 3) := by decide +kernel
theorem dX7_mixes_4 : decode cX7_mixes 4 = .ok (.aload_n 0, 1) := by decide +kernel
theorem dX7_mixes_5 : decode cX7_mixes 5 = .ok (.getfield 229, 3) := by decide +kernel
theorem dX7_mixes_8 : decode cX7_mixes 8 = .ok (.lmul, 1) := by decide +kernel
theorem dX7_mixes_9 : decode cX7_mixes 9 = .ok (.iload_n 1, 1) := by decide +kernel
theorem dX7_mixes_10 : decode cX7_mixes 10 = .ok (.i2l, 1) := by decide +kernel
theorem dX7_mixes_11 : decode cX7_mixes 11 = .ok (.ladd, 1) := by decide +kernel
theorem dX7_mixes_12 : decode cX7_mixes 12 = .ok (.putfield 229, 3) := by decide +kernel
theorem dX7_mixes_15 : decode cX7_mixes 15 = .ok (.return_, 1) := by decide +kernel
theorem dX7_digest_0 : decode cX7_digest 0 = .ok (.aload_n 0, 1) := by decide +kernel
theorem dX7_digest_1 : decode cX7_digest 1 = .ok (.ldc2_w 233, 3) := by decide +kernel
theorem dX7_digest_4 : decode cX7_digest 4 = .ok (.putfield 229, 3) := by decide +kernel
theorem dX7_digest_7 : decode cX7_digest 7 = .ok (.iconst 0, 1) := by decide +kernel
theorem dX7_digest_8 : decode cX7_digest 8 = .ok (.istore_n 1, 1) := by decide +kernel
theorem dX7_digest_9 : decode cX7_digest 9 = .ok (.iload_n 1, 1) := by decide +kernel
theorem dX7_digest_10 : decode cX7_digest 10 = .ok (.bipush 16, 2) := by decide +kernel
theorem dX7_digest_12 : decode cX7_digest 12 = .ok (.if_icmp .ge 18, 3) := by decide +kernel
theorem dX7_digest_15 : decode cX7_digest 15 = .ok (.aload_n 0, 1) := by decide +kernel
theorem dX7_digest_16 : decode cX7_digest 16 = .ok (.aload_n 0, 1) := by decide +kernel
theorem dX7_digest_17 : decode cX7_digest 17 = .ok (.iload_n 1, 1) := by decide +kernel
theorem dX7_digest_18 : decode cX7_digest 18 = .ok (.invokevirtual 235, 3) := by decide +kernel
theorem dX7_digest_21 : decode cX7_digest 21 = .ok (.invokevirtual 238, 3) := by decide +kernel
theorem dX7_digest_24 : decode cX7_digest 24 = .ok (.iinc 1 1, 3) := by decide +kernel
theorem dX7_digest_27 : decode cX7_digest 27 = .ok (.goto (-18), 3) := by decide +kernel
theorem dX7_digest_30 : decode cX7_digest 30 = .ok (.iconst 0, 1) := by decide +kernel
theorem dX7_digest_31 : decode cX7_digest 31 = .ok (.istore_n 1, 1) := by decide +kernel
theorem dX7_digest_32 : decode cX7_digest 32 = .ok (.iload_n 1, 1) := by decide +kernel
theorem dX7_digest_33 : decode cX7_digest 33 = .ok (.aload_n 0, 1) := by decide +kernel
theorem dX7_digest_34 : decode cX7_digest 34 = .ok (.invokevirtual 82, 3) := by decide +kernel
theorem dX7_digest_37 : decode cX7_digest 37 = .ok (.if_icmp .ge 21, 3) := by decide +kernel
theorem dX7_digest_40 : decode cX7_digest 40 = .ok (.aload_n 0, 1) := by decide +kernel
theorem dX7_digest_41 : decode cX7_digest 41 = .ok (.aload_n 0, 1) := by decide +kernel
theorem dX7_digest_42 : decode cX7_digest 42 = .ok (.getfield 7, 3) := by decide +kernel
theorem dX7_digest_45 : decode cX7_digest 45 = .ok (.iconst 2, 1) := by decide +kernel
theorem dX7_digest_46 : decode cX7_digest 46 = .ok (.iload_n 1, 1) := by decide +kernel
theorem dX7_digest_47 : decode cX7_digest 47 = .ok (.iadd, 1) := by decide +kernel
theorem dX7_digest_48 : decode cX7_digest 48 = .ok (.iaload, 1) := by decide +kernel
theorem dX7_digest_49 : decode cX7_digest 49 = .ok (.invokevirtual 238, 3) := by decide +kernel
theorem dX7_digest_52 : decode cX7_digest 52 = .ok (.iinc 1 1, 3) := by decide +kernel
theorem dX7_digest_55 : decode cX7_digest 55 = .ok (.goto (-23), 3) := by decide +kernel
theorem dX7_digest_58 : decode cX7_digest 58 = .ok (.iconst 0, 1) := by decide +kernel
theorem dX7_digest_59 : decode cX7_digest 59 = .ok (.istore_n 1, 1) := by decide +kernel
theorem dX7_digest_60 : decode cX7_digest 60 = .ok (.iload_n 1, 1) := by decide +kernel
theorem dX7_digest_61 : decode cX7_digest 61 = .ok (.aload_n 0, 1) := by decide +kernel
theorem dX7_digest_62 : decode cX7_digest 62 = .ok (.invokevirtual 69, 3) := by decide +kernel
theorem dX7_digest_65 : decode cX7_digest 65 = .ok (.if_icmp .ge 18, 3) := by decide +kernel
theorem dX7_digest_68 : decode cX7_digest 68 = .ok (.aload_n 0, 1) := by decide +kernel
theorem dX7_digest_69 : decode cX7_digest 69 = .ok (.aload_n 0, 1) := by decide +kernel
theorem dX7_digest_70 : decode cX7_digest 70 = .ok (.iload_n 1, 1) := by decide +kernel
theorem dX7_digest_71 : decode cX7_digest 71 = .ok (.invokevirtual 56, 3) := by decide +kernel
theorem dX7_digest_74 : decode cX7_digest 74 = .ok (.invokevirtual 238, 3) := by decide +kernel
theorem dX7_digest_77 : decode cX7_digest 77 = .ok (.iinc 1 1, 3) := by decide +kernel
theorem dX7_digest_80 : decode cX7_digest 80 = .ok (.goto (-20), 3) := by decide +kernel
theorem dX7_digest_83 : decode cX7_digest 83 = .ok (.iconst 0, 1) := by decide +kernel
theorem dX7_digest_84 : decode cX7_digest 84 = .ok (.istore_n 1, 1) := by decide +kernel
theorem dX7_digest_85 : decode cX7_digest 85 = .ok (.iload_n 1, 1) := by decide +kernel
theorem dX7_digest_86 : decode cX7_digest 86 = .ok (.iconst 5, 1) := by decide +kernel
theorem dX7_digest_87 : decode cX7_digest 87 = .ok (.if_icmp .ge 18, 3) := by decide +kernel
theorem dX7_digest_90 : decode cX7_digest 90 = .ok (.aload_n 0, 1) := by decide +kernel
theorem dX7_digest_91 : decode cX7_digest 91 = .ok (.aload_n 0, 1) := by decide +kernel
theorem dX7_digest_92 : decode cX7_digest 92 = .ok (.iload_n 1, 1) := by decide +kernel
theorem dX7_digest_93 : decode cX7_digest 93 = .ok (.invokevirtual 241, 3) := by decide +kernel
theorem dX7_digest_96 : decode cX7_digest 96 = .ok (.invokevirtual 238, 3) := by decide +kernel
theorem dX7_digest_99 : decode cX7_digest 99 = .ok (.iinc 1 1, 3) := by decide +kernel
theorem dX7_digest_102 : decode cX7_digest 102 = .ok (.goto (-17), 3) := by decide +kernel
theorem dX7_digest_105 : decode cX7_digest 105 = .ok (.iconst 0, 1) := by decide +kernel
theorem dX7_digest_106 : decode cX7_digest 106 = .ok (.istore_n 1, 1) := by decide +kernel
theorem dX7_digest_107 : decode cX7_digest 107 = .ok (.iload_n 1, 1) := by decide +kernel
theorem dX7_digest_108 : decode cX7_digest 108 = .ok (.iconst 4, 1) := by decide +kernel
theorem dX7_digest_109 : decode cX7_digest 109 = .ok (.if_icmp .ge 18, 3) := by decide +kernel
theorem dX7_digest_112 : decode cX7_digest 112 = .ok (.aload_n 0, 1) := by decide +kernel
theorem dX7_digest_113 : decode cX7_digest 113 = .ok (.aload_n 0, 1) := by decide +kernel
theorem dX7_digest_114 : decode cX7_digest 114 = .ok (.iload_n 1, 1) := by decide +kernel
theorem dX7_digest_115 : decode cX7_digest 115 = .ok (.invokevirtual 244, 3) := by decide +kernel
theorem dX7_digest_118 : decode cX7_digest 118 = .ok (.invokevirtual 238, 3) := by decide +kernel
theorem dX7_digest_121 : decode cX7_digest 121 = .ok (.iinc 1 1, 3) := by decide +kernel
theorem dX7_digest_124 : decode cX7_digest 124 = .ok (.goto (-17), 3) := by decide +kernel
theorem dX7_digest_127 : decode cX7_digest 127 = .ok (.aload_n 0, 1) := by decide +kernel
theorem dX7_digest_128 : decode cX7_digest 128 = .ok (.aload_n 0, 1) := by decide +kernel
theorem dX7_digest_129 : decode cX7_digest 129 = .ok (.iconst 2, 1) := by decide +kernel
theorem dX7_digest_130 : decode cX7_digest 130 = .ok (.invokevirtual 247, 3) := by decide +kernel
theorem dX7_digest_133 : decode cX7_digest 133 = .ok (.invokevirtual 238, 3) := by decide +kernel
theorem dX7_digest_136 : decode cX7_digest 136 = .ok (.aload_n 0, 1) := by decide +kernel
theorem dX7_digest_137 : decode cX7_digest 137 = .ok (.aload_n 0, 1) := by decide +kernel
theorem dX7_digest_138 : decode cX7_digest 138 = .ok (.iconst 2, 1) := by decide +kernel
theorem dX7_digest_139 : decode cX7_digest 139 = .ok (.invokevirtual 250, 3) := by decide +kernel
theorem dX7_digest_142 : decode cX7_digest 142 = .ok (.invokevirtual 238, 3) := by decide +kernel
theorem dX7_digest_145 : decode cX7_digest 145 = .ok (.aload_n 0, 1) := by decide +kernel
theorem dX7_digest_146 : decode cX7_digest 146 = .ok (.aload_n 0, 1) := by decide +kernel
theorem dX7_digest_147 : decode cX7_digest 147 = .ok (.invokevirtual 253, 3) := by decide +kernel
theorem dX7_digest_150 : decode cX7_digest 150 = .ok (.invokevirtual 238, 3) := by decide +kernel
theorem dX7_digest_153 : decode cX7_digest 153 = .ok (.iconst 0, 1) := by decide +kernel
theorem dX7_digest_154 : decode cX7_digest 154 = .ok (.istore_n 1, 1) := by decide +kernel
theorem dX7_digest_155 : decode cX7_digest 155 = .ok (.iload_n 1, 1) := by decide +kernel
theorem dX7_digest_156 : decode cX7_digest 156 = .ok (.aload_n 0, 1) := by decide +kernel
theorem dX7_digest_157 : decode cX7_digest 157 = .ok (.getfield 166, 3) := by decide +kernel
theorem dX7_digest_160 : decode cX7_digest 160 = .ok (.if_icmp .ge 19, 3) := by decide +kernel
theorem dX7_digest_163 : decode cX7_digest 163 = .ok (.aload_n 0, 1) := by decide +kernel
theorem dX7_digest_164 : decode cX7_digest 164 = .ok (.aload_n 0, 1) := by decide +kernel
theorem dX7_digest_165 : decode cX7_digest 165 = .ok (.getfield 16, 3) := by decide +kernel
theorem dX7_digest_168 : decode cX7_digest 168 = .ok (.iload_n 1, 1) := by decide +kernel
theorem dX7_digest_169 : decode cX7_digest 169 = .ok (.iaload, 1) := by decide +kernel
theorem dX7_digest_170 : decode cX7_digest 170 = .ok (.invokevirtual 238, 3) := by decide +kernel
theorem dX7_digest_173 : decode cX7_digest 173 = .ok (.iinc 1 1, 3) := by decide +kernel
theorem dX7_digest_176 : decode cX7_digest 176 = .ok (.goto (-21), 3) := by decide +kernel
theorem dX7_digest_179 : decode cX7_digest 179 = .ok (.aload_n 0, 1) := by decide +kernel
theorem dX7_digest_180 : decode cX7_digest 180 = .ok (.getfield 229, 3) := by decide +kernel
theorem dX7_digest_183 : decode cX7_digest 183 = .ok (.lreturn, 1) := by decide +kernel
theorem dJ13_bitCount_95d88_0 : decode cJ13_bitCount_95d88 0 = .ok (.lload_n 0, 1) := by decide +kernel
theorem dJ13_bitCount_95d88_1 : decode cJ13_bitCount_95d88 1 = .ok (.lload_n 0, 1) := by decide +kernel
theorem dJ13_bitCount_95d88_2 : decode cJ13_bitCount_95d88 2 = .ok (.iconst 1, 1) := by decide +kernel
theorem dJ13_bitCount_95d88_3 : decode cJ13_bitCount_95d88 3 = .ok (.lushr, 1) := by decide +kernel
theorem dJ13_bitCount_95d88_4 : decode cJ13_bitCount_95d88 4 = .ok (.ldc2_w 314, 3) := by decide +kernel
theorem dJ13_bitCount_95d88_7 : decode cJ13_bitCount_95d88 7 = .ok (.land, 1) := by decide +kernel
theorem dJ13_bitCount_95d88_8 : decode cJ13_bitCount_95d88 8 = .ok (.lsub, 1) := by decide +kernel
theorem dJ13_bitCount_95d88_9 : decode cJ13_bitCount_95d88 9 = .ok (.lstore_n 0, 1) := by decide +kernel
theorem dJ13_bitCount_95d88_10 : decode cJ13_bitCount_95d88 10 = .ok (.lload_n 0, 1) := by decide +kernel
theorem dJ13_bitCount_95d88_11 : decode cJ13_bitCount_95d88 11 = .ok (.ldc2_w 316, 3) := by decide +kernel
theorem dJ13_bitCount_95d88_14 : decode cJ13_bitCount_95d88 14 = .ok (.land, 1) := by decide +kernel
theorem dJ13_bitCount_95d88_15 : decode cJ13_bitCount_95d88 15 = .ok (.lload_n 0, 1) := by decide +kernel
theorem dJ13_bitCount_95d88_16 : decode cJ13_bitCount_95d88 16 = .ok (.iconst 2, 1) := by decide +kernel
theorem dJ13_bitCount_95d88_17 : decode cJ13_bitCount_95d88 17 = .ok (.lushr, 1) := by decide +kernel
theorem dJ13_bitCount_95d88_18 : decode cJ13_bitCount_95d88 18 = .ok (.ldc2_w 316, 3) := by decide +kernel
theorem dJ13_bitCount_95d88_21 : decode cJ13_bitCount_95d88 21 = .ok (.land, 1) := by decide +kernel
theorem dJ13_bitCount_95d88_22 : decode cJ13_bitCount_95d88 22 = .ok (.ladd, 1) := by decide +kernel
theorem dJ13_bitCount_95d88_23 : decode cJ13_bitCount_95d88 23 = .ok (.lstore_n 0, 1) := by decide +kernel
theorem dJ13_bitCount_95d88_24 : decode cJ13_bitCount_95d88 24 = .ok (.lload_n 0, 1) := by decide +kernel
theorem dJ13_bitCount_95d88_25 : decode cJ13_bitCount_95d88 25 = .ok (.lload_n 0, 1) := by decide +kernel
theorem dJ13_bitCount_95d88_26 : decode cJ13_bitCount_95d88 26 = .ok (.iconst 4, 1) := by decide +kernel
theorem dJ13_bitCount_95d88_27 : decode cJ13_bitCount_95d88 27 = .ok (.lushr, 1) := by decide +kernel
theorem dJ13_bitCount_95d88_28 : decode cJ13_bitCount_95d88 28 = .ok (.ladd, 1) := by decide +kernel
theorem dJ13_bitCount_95d88_29 : decode cJ13_bitCount_95d88 29 = .ok (.ldc2_w 318, 3) := by decide +kernel
theorem dJ13_bitCount_95d88_32 : decode cJ13_bitCount_95d88 32 = .ok (.land, 1) := by decide +kernel
theorem dJ13_bitCount_95d88_33 : decode cJ13_bitCount_95d88 33 = .ok (.lstore_n 0, 1) := by decide +kernel
theorem dJ13_bitCount_95d88_34 : decode cJ13_bitCount_95d88 34 = .ok (.lload_n 0, 1) := by decide +kernel
theorem dJ13_bitCount_95d88_35 : decode cJ13_bitCount_95d88 35 = .ok (.lload_n 0, 1) := by decide +kernel
theorem dJ13_bitCount_95d88_36 : decode cJ13_bitCount_95d88 36 = .ok (.bipush 8, 2) := by decide +kernel
theorem dJ13_bitCount_95d88_38 : decode cJ13_bitCount_95d88 38 = .ok (.lushr, 1) := by decide +kernel
theorem dJ13_bitCount_95d88_39 : decode cJ13_bitCount_95d88 39 = .ok (.ladd, 1) := by decide +kernel
theorem dJ13_bitCount_95d88_40 : decode cJ13_bitCount_95d88 40 = .ok (.lstore_n 0, 1) := by decide +kernel
theorem dJ13_bitCount_95d88_41 : decode cJ13_bitCount_95d88 41 = .ok (.lload_n 0, 1) := by decide +kernel
theorem dJ13_bitCount_95d88_42 : decode cJ13_bitCount_95d88 42 = .ok (.lload_n 0, 1) := by decide +kernel
theorem dJ13_bitCount_95d88_43 : decode cJ13_bitCount_95d88 43 = .ok (.bipush 16, 2) := by decide +kernel
theorem dJ13_bitCount_95d88_45 : decode cJ13_bitCount_95d88 45 = .ok (.lushr, 1) := by decide +kernel
theorem dJ13_bitCount_95d88_46 : decode cJ13_bitCount_95d88 46 = .ok (.ladd, 1) := by decide +kernel
theorem dJ13_bitCount_95d88_47 : decode cJ13_bitCount_95d88 47 = .ok (.lstore_n 0, 1) := by decide +kernel
theorem dJ13_bitCount_95d88_48 : decode cJ13_bitCount_95d88 48 = .ok (.lload_n 0, 1) := by decide +kernel
theorem dJ13_bitCount_95d88_49 : decode cJ13_bitCount_95d88 49 = .ok (.lload_n 0, 1) := by decide +kernel
theorem dJ13_bitCount_95d88_50 : decode cJ13_bitCount_95d88 50 = .ok (.bipush 32, 2) := by decide +kernel
theorem dJ13_bitCount_95d88_52 : decode cJ13_bitCount_95d88 52 = .ok (.lushr, 1) := by decide +kernel
theorem dJ13_bitCount_95d88_53 : decode cJ13_bitCount_95d88 53 = .ok (.ladd, 1) := by decide +kernel
theorem dJ13_bitCount_95d88_54 : decode cJ13_bitCount_95d88 54 = .ok (.lstore_n 0, 1) := by decide +kernel
theorem dJ13_bitCount_95d88_55 : decode cJ13_bitCount_95d88 55 = .ok (.lload_n 0, 1) := by decide +kernel
theorem dJ13_bitCount_95d88_56 : decode cJ13_bitCount_95d88 56 = .ok (.l2i, 1) := by decide +kernel
theorem dJ13_bitCount_95d88_57 : decode cJ13_bitCount_95d88 57 = .ok (.bipush 127, 2) := by decide +kernel
theorem dJ13_bitCount_95d88_59 : decode cJ13_bitCount_95d88 59 = .ok (.iand, 1) := by decide +kernel
theorem dJ13_bitCount_95d88_60 : decode cJ13_bitCount_95d88 60 = .ok (.ireturn, 1) := by decide +kernel
theorem dJ9_floorMod_7cf53_0 : decode cJ9_floorMod_7cf53 0 = .ok (.iload_n 0, 1) := by decide +kernel
theorem dJ9_floorMod_7cf53_1 : decode cJ9_floorMod_7cf53 1 = .ok (.iload_n 1, 1) := by decide +kernel
theorem dJ9_floorMod_7cf53_2 : decode cJ9_floorMod_7cf53 2 = .ok (.irem, 1) := by decide +kernel
theorem dJ9_floorMod_7cf53_3 : decode cJ9_floorMod_7cf53 3 = .ok (.istore_n 2, 1) := by decide +kernel
theorem dJ9_floorMod_7cf53_4 : decode cJ9_floorMod_7cf53 4 = .ok (.iload_n 0, 1) := by decide +kernel
theorem dJ9_floorMod_7cf53_5 : decode cJ9_floorMod_7cf53 5 = .ok (.iload_n 1, 1) := by decide +kernel
theorem dJ9_floorMod_7cf53_6 : decode cJ9_floorMod_7cf53 6 = .ok (.ixor, 1) := by decide +kernel
theorem dJ9_floorMod_7cf53_7 : decode cJ9_floorMod_7cf53 7 = .ok (.ifCond .ge 11, 3) := by decide +kernel
theorem dJ9_floorMod_7cf53_10 : decode cJ9_floorMod_7cf53 10 = .ok (.iload_n 2, 1) := by decide +kernel
theorem dJ9_floorMod_7cf53_11 : decode cJ9_floorMod_7cf53 11 = .ok (.ifCond .eq 7, 3) := by decide +kernel
theorem dJ9_floorMod_7cf53_14 : decode cJ9_floorMod_7cf53 14 = .ok (.iload_n 2, 1) := by decide +kernel
theorem dJ9_floorMod_7cf53_15 : decode cJ9_floorMod_7cf53 15 = .ok (.iload_n 1, 1) := by decide +kernel
theorem dJ9_floorMod_7cf53_16 : decode cJ9_floorMod_7cf53 16 = .ok (.iadd, 1) := by decide +kernel
theorem dJ9_floorMod_7cf53_17 : decode cJ9_floorMod_7cf53 17 = .ok (.ireturn, 1) := by decide +kernel
theorem dJ9_floorMod_7cf53_18 : decode cJ9_floorMod_7cf53 18 = .ok (.iload_n 2, 1) := by decide +kernel
theorem dJ9_floorMod_7cf53_19 : decode cJ9_floorMod_7cf53 19 = .ok (.ireturn, 1) := by decide +kernel
theorem dJ9_max_7cf53_0 : decode cJ9_max_7cf53 0 = .ok (.iload_n 0, 1) := by decide +kernel
theorem dJ9_max_7cf53_1 : decode cJ9_max_7cf53 1 = .ok (.iload_n 1, 1) := by decide +kernel
theorem dJ9_max_7cf53_2 : decode cJ9_max_7cf53 2 = .ok (.if_icmp .lt 7, 3) := by decide +kernel
theorem dJ9_max_7cf53_5 : decode cJ9_max_7cf53 5 = .ok (.iload_n 0, 1) := by decide +kernel
theorem dJ9_max_7cf53_6 : decode cJ9_max_7cf53 6 = .ok (.goto 4, 3) := by decide +kernel
theorem dJ9_max_7cf53_9 : decode cJ9_max_7cf53 9 = .ok (.iload_n 1, 1) := by decide +kernel
theorem dJ9_max_7cf53_10 : decode cJ9_max_7cf53 10 = .ok (.ireturn, 1) := by decide +kernel
theorem dJ9_min_7cf53_0 : decode cJ9_min_7cf53 0 = .ok (.iload_n 0, 1) := by decide +kernel
theorem dJ9_min_7cf53_1 : decode cJ9_min_7cf53 1 = .ok (.iload_n 1, 1) := by decide +kernel
theorem dJ9_min_7cf53_2 : decode cJ9_min_7cf53 2 = .ok (.if_icmp .gt 7, 3) := by decide +kernel
theorem dJ9_min_7cf53_5 : decode cJ9_min_7cf53 5 = .ok (.iload_n 0, 1) := by decide +kernel
theorem dJ9_min_7cf53_6 : decode cJ9_min_7cf53 6 = .ok (.goto 4, 3) := by decide +kernel
theorem dJ9_min_7cf53_9 : decode cJ9_min_7cf53 9 = .ok (.iload_n 1, 1) := by decide +kernel
theorem dJ9_min_7cf53_10 : decode cJ9_min_7cf53 10 = .ok (.ireturn, 1) := by decide +kernel
theorem dL_law_0 : decode cL_law 0 = .ok (.new 7, 3) := by decide +kernel
theorem dL_law_3 : decode cL_law 3 = .ok (.dup, 1) := by decide +kernel
theorem dL_law_4 : decode cL_law 4 = .ok (.invokespecial 9, 3) := by decide +kernel
theorem dL_law_7 : decode cL_law 7 = .ok (.astore_n 1, 1) := by decide +kernel
theorem dL_law_8 : decode cL_law 8 = .ok (.new 10, 3) := by decide +kernel
theorem dL_law_11 : decode cL_law 11 = .ok (.dup, 1) := by decide +kernel
theorem dL_law_12 : decode cL_law 12 = .ok (.invokespecial 12, 3) := by decide +kernel
theorem dL_law_15 : decode cL_law 15 = .ok (.astore_n 2, 1) := by decide +kernel
theorem dL_law_16 : decode cL_law 16 = .ok (.iconst 0, 1) := by decide +kernel
theorem dL_law_17 : decode cL_law 17 = .ok (.istore_n 3, 1) := by decide +kernel
theorem dL_law_18 : decode cL_law 18 = .ok (.iload_n 3, 1) := by decide +kernel
theorem dL_law_19 : decode cL_law 19 = .ok (.aload_n 0, 1) := by decide +kernel
theorem dL_law_20 : decode cL_law 20 = .ok (.arraylength, 1) := by decide +kernel
theorem dL_law_21 : decode cL_law 21 = .ok (.iconst 4, 1) := by decide +kernel
theorem dL_law_22 : decode cL_law 22 = .ok (.isub, 1) := by decide +kernel
theorem dL_law_23 : decode cL_law 23 = .ok (.if_icmp .gt 612, 3) := by decide +kernel
theorem dL_law_26 : decode cL_law 26 = .ok (.aload_n 0, 1) := by decide +kernel
theorem dL_law_27 : decode cL_law 27 = .ok (.iload_n 3, 1) := by decide +kernel
theorem dL_law_28 : decode cL_law 28 = .ok (.iaload, 1) := by decide +kernel
theorem dL_law_29 : decode cL_law 29 = .ok (.bipush 31, 2) := by decide +kernel
theorem dL_law_31 : decode cL_law 31 = .ok (.iand, 1) := by decide +kernel
theorem dL_law_32 : decode cL_law 32 = .ok (.tableswitch 597 0 21 #[104, 127, 140, 153, 166, 199, 232, 245, 258, 281, 294, 317, 340, 399, 422, 445, 478, 501, 524, 547, 560, 583], 104) := by decide +kernel
theorem dL_law_136 : decode cL_law 136 = .ok (.aload_n 1, 1) := by decide +kernel
theorem dL_law_137 : decode cL_law 137 = .ok (.aload_n 0, 1) := by decide +kernel
theorem dL_law_138 : decode cL_law 138 = .ok (.iload_n 3, 1) := by decide +kernel
theorem dL_law_139 : decode cL_law 139 = .ok (.iconst 1, 1) := by decide +kernel
theorem dL_law_140 : decode cL_law 140 = .ok (.iadd, 1) := by decide +kernel
theorem dL_law_141 : decode cL_law 141 = .ok (.iaload, 1) := by decide +kernel
theorem dL_law_142 : decode cL_law 142 = .ok (.invokevirtual 13, 3) := by decide +kernel
theorem dL_law_145 : decode cL_law 145 = .ok (.aload_n 2, 1) := by decide +kernel
theorem dL_law_146 : decode cL_law 146 = .ok (.aload_n 0, 1) := by decide +kernel
theorem dL_law_147 : decode cL_law 147 = .ok (.iload_n 3, 1) := by decide +kernel
theorem dL_law_148 : decode cL_law 148 = .ok (.iconst 1, 1) := by decide +kernel
theorem dL_law_149 : decode cL_law 149 = .ok (.iadd, 1) := by decide +kernel
theorem dL_law_150 : decode cL_law 150 = .ok (.iaload, 1) := by decide +kernel
theorem dL_law_151 : decode cL_law 151 = .ok (.invokevirtual 17, 3) := by decide +kernel
theorem dL_law_154 : decode cL_law 154 = .ok (.if_icmp .eq 475, 3) := by decide +kernel
theorem dL_law_157 : decode cL_law 157 = .ok (.iconst 0, 1) := by decide +kernel
theorem dL_law_158 : decode cL_law 158 = .ok (.ireturn, 1) := by decide +kernel
theorem dL_law_159 : decode cL_law 159 = .ok (.aload_n 1, 1) := by decide +kernel
theorem dL_law_160 : decode cL_law 160 = .ok (.invokevirtual 18, 3) := by decide +kernel
theorem dL_law_163 : decode cL_law 163 = .ok (.aload_n 2, 1) := by decide +kernel
theorem dL_law_164 : decode cL_law 164 = .ok (.invokevirtual 22, 3) := by decide +kernel
theorem dL_law_167 : decode cL_law 167 = .ok (.if_icmp .eq 462, 3) := by decide +kernel
theorem dL_law_170 : decode cL_law 170 = .ok (.iconst 0, 1) := by decide +kernel
theorem dL_law_171 : decode cL_law 171 = .ok (.ireturn, 1) := by decide +kernel
theorem dL_law_172 : decode cL_law 172 = .ok (.aload_n 1, 1) := by decide +kernel
theorem dL_law_173 : decode cL_law 173 = .ok (.invokevirtual 23, 3) := by decide +kernel
theorem dL_law_176 : decode cL_law 176 = .ok (.aload_n 2, 1) := by decide +kernel
theorem dL_law_177 : decode cL_law 177 = .ok (.invokevirtual 26, 3) := by decide +kernel
theorem dL_law_180 : decode cL_law 180 = .ok (.if_icmp .eq 449, 3) := by decide +kernel
theorem dL_law_183 : decode cL_law 183 = .ok (.iconst 0, 1) := by decide +kernel
theorem dL_law_184 : decode cL_law 184 = .ok (.ireturn, 1) := by decide +kernel
theorem dL_law_185 : decode cL_law 185 = .ok (.aload_n 1, 1) := by decide +kernel
theorem dL_law_186 : decode cL_law 186 = .ok (.invokevirtual 27, 3) := by decide +kernel
theorem dL_law_189 : decode cL_law 189 = .ok (.aload_n 2, 1) := by decide +kernel
theorem dL_law_190 : decode cL_law 190 = .ok (.invokevirtual 30, 3) := by decide +kernel
theorem dL_law_193 : decode cL_law 193 = .ok (.if_icmp .eq 436, 3) := by decide +kernel
theorem dL_law_196 : decode cL_law 196 = .ok (.iconst 0, 1) := by decide +kernel
theorem dL_law_197 : decode cL_law 197 = .ok (.ireturn, 1) := by decide +kernel
theorem dL_law_198 : decode cL_law 198 = .ok (.aload_n 1, 1) := by decide +kernel
theorem dL_law_199 : decode cL_law 199 = .ok (.aload_n 0, 1) := by decide +kernel
theorem dL_law_200 : decode cL_law 200 = .ok (.iload_n 3, 1) := by decide +kernel
theorem dL_law_201 : decode cL_law 201 = .ok (.iconst 1, 1) := by decide +kernel
theorem dL_law_202 : decode cL_law 202 = .ok (.iadd, 1) := by decide +kernel
theorem dL_law_203 : decode cL_law 203 = .ok (.iaload, 1) := by decide +kernel
theorem dL_law_204 : decode cL_law 204 = .ok (.aload_n 0, 1) := by decide +kernel
theorem dL_law_205 : decode cL_law 205 = .ok (.iload_n 3, 1) := by decide +kernel
theorem dL_law_206 : decode cL_law 206 = .ok (.iconst 2, 1) := by decide +kernel
theorem dL_law_207 : decode cL_law 207 = .ok (.iadd, 1) := by decide +kernel
theorem dL_law_208 : decode cL_law 208 = .ok (.iaload, 1) := by decide +kernel
theorem dL_law_209 : decode cL_law 209 = .ok (.invokevirtual 31, 3) := by decide +kernel
theorem dL_law_212 : decode cL_law 212 = .ok (.aload_n 2, 1) := by decide +kernel
theorem dL_law_213 : decode cL_law 213 = .ok (.aload_n 0, 1) := by decide +kernel
theorem dL_law_214 : decode cL_law 214 = .ok (.iload_n 3, 1) := by decide +kernel
theorem dL_law_215 : decode cL_law 215 = .ok (.iconst 1, 1) := by decide +kernel
theorem dL_law_216 : decode cL_law 216 = .ok (.iadd, 1) := by decide +kernel
theorem dL_law_217 : decode cL_law 217 = .ok (.iaload, 1) := by decide +kernel
theorem dL_law_218 : decode cL_law 218 = .ok (.aload_n 0, 1) := by decide +kernel
theorem dL_law_219 : decode cL_law 219 = .ok (.iload_n 3, 1) := by decide +kernel
theorem dL_law_220 : decode cL_law 220 = .ok (.iconst 2, 1) := by decide +kernel
theorem dL_law_221 : decode cL_law 221 = .ok (.iadd, 1) := by decide +kernel
theorem dL_law_222 : decode cL_law 222 = .ok (.iaload, 1) := by decide +kernel
theorem dL_law_223 : decode cL_law 223 = .ok (.invokevirtual 35, 3) := by decide +kernel
theorem dL_law_226 : decode cL_law 226 = .ok (.if_icmp .eq 403, 3) := by decide +kernel
theorem dL_law_229 : decode cL_law 229 = .ok (.iconst 0, 1) := by decide +kernel
theorem dL_law_230 : decode cL_law 230 = .ok (.ireturn, 1) := by decide +kernel
theorem dL_law_231 : decode cL_law 231 = .ok (.aload_n 1, 1) := by decide +kernel
theorem dL_law_232 : decode cL_law 232 = .ok (.aload_n 0, 1) := by decide +kernel
theorem dL_law_233 : decode cL_law 233 = .ok (.iload_n 3, 1) := by decide +kernel
theorem dL_law_234 : decode cL_law 234 = .ok (.iconst 1, 1) := by decide +kernel
theorem dL_law_235 : decode cL_law 235 = .ok (.iadd, 1) := by decide +kernel
theorem dL_law_236 : decode cL_law 236 = .ok (.iaload, 1) := by decide +kernel
theorem dL_law_237 : decode cL_law 237 = .ok (.aload_n 0, 1) := by decide +kernel
theorem dL_law_238 : decode cL_law 238 = .ok (.iload_n 3, 1) := by decide +kernel
theorem dL_law_239 : decode cL_law 239 = .ok (.iconst 2, 1) := by decide +kernel
theorem dL_law_240 : decode cL_law 240 = .ok (.iadd, 1) := by decide +kernel
theorem dL_law_241 : decode cL_law 241 = .ok (.iaload, 1) := by decide +kernel
theorem dL_law_242 : decode cL_law 242 = .ok (.invokevirtual 36, 3) := by decide +kernel
theorem dL_law_245 : decode cL_law 245 = .ok (.aload_n 2, 1) := by decide +kernel
theorem dL_law_246 : decode cL_law 246 = .ok (.aload_n 0, 1) := by decide +kernel
theorem dL_law_247 : decode cL_law 247 = .ok (.iload_n 3, 1) := by decide +kernel
theorem dL_law_248 : decode cL_law 248 = .ok (.iconst 1, 1) := by decide +kernel
theorem dL_law_249 : decode cL_law 249 = .ok (.iadd, 1) := by decide +kernel
theorem dL_law_250 : decode cL_law 250 = .ok (.iaload, 1) := by decide +kernel
theorem dL_law_251 : decode cL_law 251 = .ok (.aload_n 0, 1) := by decide +kernel
theorem dL_law_252 : decode cL_law 252 = .ok (.iload_n 3, 1) := by decide +kernel
theorem dL_law_253 : decode cL_law 253 = .ok (.iconst 2, 1) := by decide +kernel
theorem dL_law_254 : decode cL_law 254 = .ok (.iadd, 1) := by decide +kernel
theorem dL_law_255 : decode cL_law 255 = .ok (.iaload, 1) := by decide +kernel
theorem dL_law_256 : decode cL_law 256 = .ok (.invokevirtual 39, 3) := by decide +kernel
theorem dL_law_259 : decode cL_law 259 = .ok (.if_icmp .eq 370, 3) := by decide +kernel
theorem dL_law_262 : decode cL_law 262 = .ok (.iconst 0, 1) := by decide +kernel
theorem dL_law_263 : decode cL_law 263 = .ok (.ireturn, 1) := by decide +kernel
theorem dL_law_264 : decode cL_law 264 = .ok (.aload_n 1, 1) := by decide +kernel
theorem dL_law_265 : decode cL_law 265 = .ok (.invokevirtual 40, 3) := by decide +kernel
theorem dL_law_268 : decode cL_law 268 = .ok (.aload_n 2, 1) := by decide +kernel
theorem dL_law_269 : decode cL_law 269 = .ok (.invokevirtual 43, 3) := by decide +kernel
theorem dL_law_272 : decode cL_law 272 = .ok (.if_icmp .eq 357, 3) := by decide +kernel
theorem dL_law_275 : decode cL_law 275 = .ok (.iconst 0, 1) := by decide +kernel
theorem dL_law_276 : decode cL_law 276 = .ok (.ireturn, 1) := by decide +kernel
theorem dL_law_277 : decode cL_law 277 = .ok (.aload_n 1, 1) := by decide +kernel
theorem dL_law_278 : decode cL_law 278 = .ok (.invokevirtual 44, 3) := by decide +kernel
theorem dL_law_281 : decode cL_law 281 = .ok (.aload_n 2, 1) := by decide +kernel
theorem dL_law_282 : decode cL_law 282 = .ok (.invokevirtual 47, 3) := by decide +kernel
theorem dL_law_285 : decode cL_law 285 = .ok (.if_icmp .eq 344, 3) := by decide +kernel
theorem dL_law_288 : decode cL_law 288 = .ok (.iconst 0, 1) := by decide +kernel
theorem dL_law_289 : decode cL_law 289 = .ok (.ireturn, 1) := by decide +kernel
theorem dL_law_290 : decode cL_law 290 = .ok (.aload_n 1, 1) := by decide +kernel
theorem dL_law_291 : decode cL_law 291 = .ok (.aload_n 0, 1) := by decide +kernel
theorem dL_law_292 : decode cL_law 292 = .ok (.iload_n 3, 1) := by decide +kernel
theorem dL_law_293 : decode cL_law 293 = .ok (.iconst 1, 1) := by decide +kernel
theorem dL_law_294 : decode cL_law 294 = .ok (.iadd, 1) := by decide +kernel
theorem dL_law_295 : decode cL_law 295 = .ok (.iaload, 1) := by decide +kernel
theorem dL_law_296 : decode cL_law 296 = .ok (.invokevirtual 48, 3) := by decide +kernel
theorem dL_law_299 : decode cL_law 299 = .ok (.aload_n 2, 1) := by decide +kernel
theorem dL_law_300 : decode cL_law 300 = .ok (.aload_n 0, 1) := by decide +kernel
theorem dL_law_301 : decode cL_law 301 = .ok (.iload_n 3, 1) := by decide +kernel
theorem dL_law_302 : decode cL_law 302 = .ok (.iconst 1, 1) := by decide +kernel
theorem dL_law_303 : decode cL_law 303 = .ok (.iadd, 1) := by decide +kernel
theorem dL_law_304 : decode cL_law 304 = .ok (.iaload, 1) := by decide +kernel
theorem dL_law_305 : decode cL_law 305 = .ok (.invokevirtual 51, 3) := by decide +kernel
theorem dL_law_308 : decode cL_law 308 = .ok (.if_icmp .eq 321, 3) := by decide +kernel
theorem dL_law_311 : decode cL_law 311 = .ok (.iconst 0, 1) := by decide +kernel
theorem dL_law_312 : decode cL_law 312 = .ok (.ireturn, 1) := by decide +kernel
theorem dL_law_313 : decode cL_law 313 = .ok (.aload_n 1, 1) := by decide +kernel
theorem dL_law_314 : decode cL_law 314 = .ok (.invokevirtual 52, 3) := by decide +kernel
theorem dL_law_317 : decode cL_law 317 = .ok (.aload_n 2, 1) := by decide +kernel
theorem dL_law_318 : decode cL_law 318 = .ok (.invokevirtual 55, 3) := by decide +kernel
theorem dL_law_321 : decode cL_law 321 = .ok (.if_icmp .eq 308, 3) := by decide +kernel
theorem dL_law_324 : decode cL_law 324 = .ok (.iconst 0, 1) := by decide +kernel
theorem dL_law_325 : decode cL_law 325 = .ok (.ireturn, 1) := by decide +kernel
theorem dL_law_326 : decode cL_law 326 = .ok (.aload_n 1, 1) := by decide +kernel
theorem dL_law_327 : decode cL_law 327 = .ok (.aload_n 0, 1) := by decide +kernel
theorem dL_law_328 : decode cL_law 328 = .ok (.iload_n 3, 1) := by decide +kernel
theorem dL_law_329 : decode cL_law 329 = .ok (.iconst 1, 1) := by decide +kernel
theorem dL_law_330 : decode cL_law 330 = .ok (.iadd, 1) := by decide +kernel
theorem dL_law_331 : decode cL_law 331 = .ok (.iaload, 1) := by decide +kernel
theorem dL_law_332 : decode cL_law 332 = .ok (.invokevirtual 56, 3) := by decide +kernel
theorem dL_law_335 : decode cL_law 335 = .ok (.aload_n 2, 1) := by decide +kernel
theorem dL_law_336 : decode cL_law 336 = .ok (.aload_n 0, 1) := by decide +kernel
theorem dL_law_337 : decode cL_law 337 = .ok (.iload_n 3, 1) := by decide +kernel
theorem dL_law_338 : decode cL_law 338 = .ok (.iconst 1, 1) := by decide +kernel
theorem dL_law_339 : decode cL_law 339 = .ok (.iadd, 1) := by decide +kernel
theorem dL_law_340 : decode cL_law 340 = .ok (.iaload, 1) := by decide +kernel
theorem dL_law_341 : decode cL_law 341 = .ok (.invokevirtual 59, 3) := by decide +kernel
theorem dL_law_344 : decode cL_law 344 = .ok (.if_icmp .eq 285, 3) := by decide +kernel
theorem dL_law_347 : decode cL_law 347 = .ok (.iconst 0, 1) := by decide +kernel
theorem dL_law_348 : decode cL_law 348 = .ok (.ireturn, 1) := by decide +kernel
theorem dL_law_349 : decode cL_law 349 = .ok (.aload_n 1, 1) := by decide +kernel
theorem dL_law_350 : decode cL_law 350 = .ok (.aload_n 0, 1) := by decide +kernel
theorem dL_law_351 : decode cL_law 351 = .ok (.iload_n 3, 1) := by decide +kernel
theorem dL_law_352 : decode cL_law 352 = .ok (.iconst 1, 1) := by decide +kernel
theorem dL_law_353 : decode cL_law 353 = .ok (.iadd, 1) := by decide +kernel
theorem dL_law_354 : decode cL_law 354 = .ok (.iaload, 1) := by decide +kernel
theorem dL_law_355 : decode cL_law 355 = .ok (.invokevirtual 60, 3) := by decide +kernel
theorem dL_law_358 : decode cL_law 358 = .ok (.aload_n 2, 1) := by decide +kernel
theorem dL_law_359 : decode cL_law 359 = .ok (.aload_n 0, 1) := by decide +kernel
theorem dL_law_360 : decode cL_law 360 = .ok (.iload_n 3, 1) := by decide +kernel
theorem dL_law_361 : decode cL_law 361 = .ok (.iconst 1, 1) := by decide +kernel
theorem dL_law_362 : decode cL_law 362 = .ok (.iadd, 1) := by decide +kernel
theorem dL_law_363 : decode cL_law 363 = .ok (.iaload, 1) := by decide +kernel
theorem dL_law_364 : decode cL_law 364 = .ok (.invokevirtual 63, 3) := by decide +kernel
theorem dL_law_367 : decode cL_law 367 = .ok (.if_icmp .eq 262, 3) := by decide +kernel
theorem dL_law_370 : decode cL_law 370 = .ok (.iconst 0, 1) := by decide +kernel
theorem dL_law_371 : decode cL_law 371 = .ok (.ireturn, 1) := by decide +kernel
theorem dL_law_372 : decode cL_law 372 = .ok (.aload_n 1, 1) := by decide +kernel
theorem dL_law_373 : decode cL_law 373 = .ok (.aload_n 0, 1) := by decide +kernel
theorem dL_law_374 : decode cL_law 374 = .ok (.iload_n 3, 1) := by decide +kernel
theorem dL_law_375 : decode cL_law 375 = .ok (.iconst 1, 1) := by decide +kernel
theorem dL_law_376 : decode cL_law 376 = .ok (.iadd, 1) := by decide +kernel
theorem dL_law_377 : decode cL_law 377 = .ok (.iaload, 1) := by decide +kernel
theorem dL_law_378 : decode cL_law 378 = .ok (.ifCond .eq 7, 3) := by decide +kernel
theorem dL_law_381 : decode cL_law 381 = .ok (.iconst 1, 1) := by decide +kernel
theorem dL_law_382 : decode cL_law 382 = .ok (.goto 4, 3) := by decide +kernel
theorem dL_law_385 : decode cL_law 385 = .ok (.iconst 0, 1) := by decide +kernel
theorem dL_law_386 : decode cL_law 386 = .ok (.aload_n 0, 1) := by decide +kernel
theorem dL_law_387 : decode cL_law 387 = .ok (.iload_n 3, 1) := by decide +kernel
theorem dL_law_388 : decode cL_law 388 = .ok (.iconst 2, 1) := by decide +kernel
theorem dL_law_389 : decode cL_law 389 = .ok (.iadd, 1) := by decide +kernel
theorem dL_law_390 : decode cL_law 390 = .ok (.iaload, 1) := by decide +kernel
theorem dL_law_391 : decode cL_law 391 = .ok (.aload_n 0, 1) := by decide +kernel
theorem dL_law_392 : decode cL_law 392 = .ok (.iload_n 3, 1) := by decide +kernel
theorem dL_law_393 : decode cL_law 393 = .ok (.iconst 3, 1) := by decide +kernel
theorem dL_law_394 : decode cL_law 394 = .ok (.iadd, 1) := by decide +kernel
theorem dL_law_395 : decode cL_law 395 = .ok (.iaload, 1) := by decide +kernel
theorem dL_law_396 : decode cL_law 396 = .ok (.invokevirtual 64, 3) := by decide +kernel
theorem dL_law_399 : decode cL_law 399 = .ok (.aload_n 2, 1) := by decide +kernel
theorem dL_law_400 : decode cL_law 400 = .ok (.aload_n 0, 1) := by decide +kernel
theorem dL_law_401 : decode cL_law 401 = .ok (.iload_n 3, 1) := by decide +kernel
theorem dL_law_402 : decode cL_law 402 = .ok (.iconst 1, 1) := by decide +kernel
theorem dL_law_403 : decode cL_law 403 = .ok (.iadd, 1) := by decide +kernel
theorem dL_law_404 : decode cL_law 404 = .ok (.iaload, 1) := by decide +kernel
theorem dL_law_405 : decode cL_law 405 = .ok (.ifCond .eq 7, 3) := by decide +kernel
theorem dL_law_408 : decode cL_law 408 = .ok (.iconst 1, 1) := by decide +kernel
theorem dL_law_409 : decode cL_law 409 = .ok (.goto 4, 3) := by decide +kernel
theorem dL_law_412 : decode cL_law 412 = .ok (.iconst 0, 1) := by decide +kernel
theorem dL_law_413 : decode cL_law 413 = .ok (.aload_n 0, 1) := by decide +kernel
theorem dL_law_414 : decode cL_law 414 = .ok (.iload_n 3, 1) := by decide +kernel
theorem dL_law_415 : decode cL_law 415 = .ok (.iconst 2, 1) := by decide +kernel
theorem dL_law_416 : decode cL_law 416 = .ok (.iadd, 1) := by decide +kernel
theorem dL_law_417 : decode cL_law 417 = .ok (.iaload, 1) := by decide +kernel
theorem dL_law_418 : decode cL_law 418 = .ok (.aload_n 0, 1) := by decide +kernel
theorem dL_law_419 : decode cL_law 419 = .ok (.iload_n 3, 1) := by decide +kernel
theorem dL_law_420 : decode cL_law 420 = .ok (.iconst 3, 1) := by decide +kernel
theorem dL_law_421 : decode cL_law 421 = .ok (.iadd, 1) := by decide +kernel
theorem dL_law_422 : decode cL_law 422 = .ok (.iaload, 1) := by decide +kernel
theorem dL_law_423 : decode cL_law 423 = .ok (.invokevirtual 68, 3) := by decide +kernel
theorem dL_law_426 : decode cL_law 426 = .ok (.if_icmp .eq 203, 3) := by decide +kernel
theorem dL_law_429 : decode cL_law 429 = .ok (.iconst 0, 1) := by decide +kernel
theorem dL_law_430 : decode cL_law 430 = .ok (.ireturn, 1) := by decide +kernel
theorem dL_law_431 : decode cL_law 431 = .ok (.aload_n 1, 1) := by decide +kernel
theorem dL_law_432 : decode cL_law 432 = .ok (.aload_n 0, 1) := by decide +kernel
theorem dL_law_433 : decode cL_law 433 = .ok (.iload_n 3, 1) := by decide +kernel
theorem dL_law_434 : decode cL_law 434 = .ok (.iconst 1, 1) := by decide +kernel
theorem dL_law_435 : decode cL_law 435 = .ok (.iadd, 1) := by decide +kernel
theorem dL_law_436 : decode cL_law 436 = .ok (.iaload, 1) := by decide +kernel
theorem dL_law_437 : decode cL_law 437 = .ok (.invokevirtual 69, 3) := by decide +kernel
theorem dL_law_440 : decode cL_law 440 = .ok (.aload_n 2, 1) := by decide +kernel
theorem dL_law_441 : decode cL_law 441 = .ok (.aload_n 0, 1) := by decide +kernel
theorem dL_law_442 : decode cL_law 442 = .ok (.iload_n 3, 1) := by decide +kernel
theorem dL_law_443 : decode cL_law 443 = .ok (.iconst 1, 1) := by decide +kernel
theorem dL_law_444 : decode cL_law 444 = .ok (.iadd, 1) := by decide +kernel
theorem dL_law_445 : decode cL_law 445 = .ok (.iaload, 1) := by decide +kernel
theorem dL_law_446 : decode cL_law 446 = .ok (.invokevirtual 72, 3) := by decide +kernel
theorem dL_law_449 : decode cL_law 449 = .ok (.if_icmp .eq 180, 3) := by decide +kernel
theorem dL_law_452 : decode cL_law 452 = .ok (.iconst 0, 1) := by decide +kernel
theorem dL_law_453 : decode cL_law 453 = .ok (.ireturn, 1) := by decide +kernel
theorem dL_law_454 : decode cL_law 454 = .ok (.aload_n 1, 1) := by decide +kernel
theorem dL_law_455 : decode cL_law 455 = .ok (.aload_n 0, 1) := by decide +kernel
theorem dL_law_456 : decode cL_law 456 = .ok (.iload_n 3, 1) := by decide +kernel
theorem dL_law_457 : decode cL_law 457 = .ok (.iconst 1, 1) := by decide +kernel
theorem dL_law_458 : decode cL_law 458 = .ok (.iadd, 1) := by decide +kernel
theorem dL_law_459 : decode cL_law 459 = .ok (.iaload, 1) := by decide +kernel
theorem dL_law_460 : decode cL_law 460 = .ok (.invokevirtual 73, 3) := by decide +kernel
theorem dL_law_463 : decode cL_law 463 = .ok (.aload_n 2, 1) := by decide +kernel
theorem dL_law_464 : decode cL_law 464 = .ok (.aload_n 0, 1) := by decide +kernel
theorem dL_law_465 : decode cL_law 465 = .ok (.iload_n 3, 1) := by decide +kernel
theorem dL_law_466 : decode cL_law 466 = .ok (.iconst 1, 1) := by decide +kernel
theorem dL_law_467 : decode cL_law 467 = .ok (.iadd, 1) := by decide +kernel
theorem dL_law_468 : decode cL_law 468 = .ok (.iaload, 1) := by decide +kernel
theorem dL_law_469 : decode cL_law 469 = .ok (.invokevirtual 76, 3) := by decide +kernel
theorem dL_law_472 : decode cL_law 472 = .ok (.if_icmp .eq 157, 3) := by decide +kernel
theorem dL_law_475 : decode cL_law 475 = .ok (.iconst 0, 1) := by decide +kernel
theorem dL_law_476 : decode cL_law 476 = .ok (.ireturn, 1) := by decide +kernel
theorem dL_law_477 : decode cL_law 477 = .ok (.aload_n 1, 1) := by decide +kernel
theorem dL_law_478 : decode cL_law 478 = .ok (.aload_n 0, 1) := by decide +kernel
theorem dL_law_479 : decode cL_law 479 = .ok (.iload_n 3, 1) := by decide +kernel
theorem dL_law_480 : decode cL_law 480 = .ok (.iconst 1, 1) := by decide +kernel
theorem dL_law_481 : decode cL_law 481 = .ok (.iadd, 1) := by decide +kernel
theorem dL_law_482 : decode cL_law 482 = .ok (.iaload, 1) := by decide +kernel
theorem dL_law_483 : decode cL_law 483 = .ok (.aload_n 0, 1) := by decide +kernel
theorem dL_law_484 : decode cL_law 484 = .ok (.iload_n 3, 1) := by decide +kernel
theorem dL_law_485 : decode cL_law 485 = .ok (.iconst 2, 1) := by decide +kernel
theorem dL_law_486 : decode cL_law 486 = .ok (.iadd, 1) := by decide +kernel
theorem dL_law_487 : decode cL_law 487 = .ok (.iaload, 1) := by decide +kernel
theorem dL_law_488 : decode cL_law 488 = .ok (.invokevirtual 77, 3) := by decide +kernel
theorem dL_law_491 : decode cL_law 491 = .ok (.aload_n 2, 1) := by decide +kernel
theorem dL_law_492 : decode cL_law 492 = .ok (.aload_n 0, 1) := by decide +kernel
theorem dL_law_493 : decode cL_law 493 = .ok (.iload_n 3, 1) := by decide +kernel
theorem dL_law_494 : decode cL_law 494 = .ok (.iconst 1, 1) := by decide +kernel
theorem dL_law_495 : decode cL_law 495 = .ok (.iadd, 1) := by decide +kernel
theorem dL_law_496 : decode cL_law 496 = .ok (.iaload, 1) := by decide +kernel
theorem dL_law_497 : decode cL_law 497 = .ok (.aload_n 0, 1) := by decide +kernel
theorem dL_law_498 : decode cL_law 498 = .ok (.iload_n 3, 1) := by decide +kernel
theorem dL_law_499 : decode cL_law 499 = .ok (.iconst 2, 1) := by decide +kernel
theorem dL_law_500 : decode cL_law 500 = .ok (.iadd, 1) := by decide +kernel
theorem dL_law_501 : decode cL_law 501 = .ok (.iaload, 1) := by decide +kernel
theorem dL_law_502 : decode cL_law 502 = .ok (.invokevirtual 80, 3) := by decide +kernel
theorem dL_law_505 : decode cL_law 505 = .ok (.if_icmp .eq 124, 3) := by decide +kernel
theorem dL_law_508 : decode cL_law 508 = .ok (.iconst 0, 1) := by decide +kernel
theorem dL_law_509 : decode cL_law 509 = .ok (.ireturn, 1) := by decide +kernel
theorem dL_law_510 : decode cL_law 510 = .ok (.aload_n 1, 1) := by decide +kernel
theorem dL_law_511 : decode cL_law 511 = .ok (.aload_n 0, 1) := by decide +kernel
theorem dL_law_512 : decode cL_law 512 = .ok (.iload_n 3, 1) := by decide +kernel
theorem dL_law_513 : decode cL_law 513 = .ok (.iconst 1, 1) := by decide +kernel
theorem dL_law_514 : decode cL_law 514 = .ok (.iadd, 1) := by decide +kernel
theorem dL_law_515 : decode cL_law 515 = .ok (.iaload, 1) := by decide +kernel
theorem dL_law_516 : decode cL_law 516 = .ok (.invokevirtual 81, 3) := by decide +kernel
theorem dL_law_519 : decode cL_law 519 = .ok (.aload_n 2, 1) := by decide +kernel
theorem dL_law_520 : decode cL_law 520 = .ok (.aload_n 0, 1) := by decide +kernel
theorem dL_law_521 : decode cL_law 521 = .ok (.iload_n 3, 1) := by decide +kernel
theorem dL_law_522 : decode cL_law 522 = .ok (.iconst 1, 1) := by decide +kernel
theorem dL_law_523 : decode cL_law 523 = .ok (.iadd, 1) := by decide +kernel
theorem dL_law_524 : decode cL_law 524 = .ok (.iaload, 1) := by decide +kernel
theorem dL_law_525 : decode cL_law 525 = .ok (.invokevirtual 84, 3) := by decide +kernel
theorem dL_law_528 : decode cL_law 528 = .ok (.if_icmp .eq 101, 3) := by decide +kernel
theorem dL_law_531 : decode cL_law 531 = .ok (.iconst 0, 1) := by decide +kernel
theorem dL_law_532 : decode cL_law 532 = .ok (.ireturn, 1) := by decide +kernel
theorem dL_law_533 : decode cL_law 533 = .ok (.aload_n 1, 1) := by decide +kernel
theorem dL_law_534 : decode cL_law 534 = .ok (.aload_n 0, 1) := by decide +kernel
theorem dL_law_535 : decode cL_law 535 = .ok (.iload_n 3, 1) := by decide +kernel
theorem dL_law_536 : decode cL_law 536 = .ok (.iconst 1, 1) := by decide +kernel
theorem dL_law_537 : decode cL_law 537 = .ok (.iadd, 1) := by decide +kernel
theorem dL_law_538 : decode cL_law 538 = .ok (.iaload, 1) := by decide +kernel
theorem dL_law_539 : decode cL_law 539 = .ok (.invokevirtual 85, 3) := by decide +kernel
theorem dL_law_542 : decode cL_law 542 = .ok (.aload_n 2, 1) := by decide +kernel
theorem dL_law_543 : decode cL_law 543 = .ok (.aload_n 0, 1) := by decide +kernel
theorem dL_law_544 : decode cL_law 544 = .ok (.iload_n 3, 1) := by decide +kernel
theorem dL_law_545 : decode cL_law 545 = .ok (.iconst 1, 1) := by decide +kernel
theorem dL_law_546 : decode cL_law 546 = .ok (.iadd, 1) := by decide +kernel
theorem dL_law_547 : decode cL_law 547 = .ok (.iaload, 1) := by decide +kernel
theorem dL_law_548 : decode cL_law 548 = .ok (.invokevirtual 88, 3) := by decide +kernel
theorem dL_law_551 : decode cL_law 551 = .ok (.if_icmp .eq 78, 3) := by decide +kernel
theorem dL_law_554 : decode cL_law 554 = .ok (.iconst 0, 1) := by decide +kernel
theorem dL_law_555 : decode cL_law 555 = .ok (.ireturn, 1) := by decide +kernel
theorem dL_law_556 : decode cL_law 556 = .ok (.aload_n 1, 1) := by decide +kernel
theorem dL_law_557 : decode cL_law 557 = .ok (.aload_n 0, 1) := by decide +kernel
theorem dL_law_558 : decode cL_law 558 = .ok (.iload_n 3, 1) := by decide +kernel
theorem dL_law_559 : decode cL_law 559 = .ok (.iconst 1, 1) := by decide +kernel
theorem dL_law_560 : decode cL_law 560 = .ok (.iadd, 1) := by decide +kernel
theorem dL_law_561 : decode cL_law 561 = .ok (.iaload, 1) := by decide +kernel
theorem dL_law_562 : decode cL_law 562 = .ok (.invokevirtual 89, 3) := by decide +kernel
theorem dL_law_565 : decode cL_law 565 = .ok (.aload_n 2, 1) := by decide +kernel
theorem dL_law_566 : decode cL_law 566 = .ok (.aload_n 0, 1) := by decide +kernel
theorem dL_law_567 : decode cL_law 567 = .ok (.iload_n 3, 1) := by decide +kernel
theorem dL_law_568 : decode cL_law 568 = .ok (.iconst 1, 1) := by decide +kernel
theorem dL_law_569 : decode cL_law 569 = .ok (.iadd, 1) := by decide +kernel
theorem dL_law_570 : decode cL_law 570 = .ok (.iaload, 1) := by decide +kernel
theorem dL_law_571 : decode cL_law 571 = .ok (.invokevirtual 92, 3) := by decide +kernel
theorem dL_law_574 : decode cL_law 574 = .ok (.if_icmp .eq 55, 3) := by decide +kernel
theorem dL_law_577 : decode cL_law 577 = .ok (.iconst 0, 1) := by decide +kernel
theorem dL_law_578 : decode cL_law 578 = .ok (.ireturn, 1) := by decide +kernel
theorem dL_law_579 : decode cL_law 579 = .ok (.aload_n 1, 1) := by decide +kernel
theorem dL_law_580 : decode cL_law 580 = .ok (.invokevirtual 93, 3) := by decide +kernel
theorem dL_law_583 : decode cL_law 583 = .ok (.aload_n 2, 1) := by decide +kernel
theorem dL_law_584 : decode cL_law 584 = .ok (.invokevirtual 96, 3) := by decide +kernel
theorem dL_law_587 : decode cL_law 587 = .ok (.if_icmp .eq 42, 3) := by decide +kernel
theorem dL_law_590 : decode cL_law 590 = .ok (.iconst 0, 1) := by decide +kernel
theorem dL_law_591 : decode cL_law 591 = .ok (.ireturn, 1) := by decide +kernel
theorem dL_law_592 : decode cL_law 592 = .ok (.aload_n 1, 1) := by decide +kernel
theorem dL_law_593 : decode cL_law 593 = .ok (.aload_n 0, 1) := by decide +kernel
theorem dL_law_594 : decode cL_law 594 = .ok (.iload_n 3, 1) := by decide +kernel
theorem dL_law_595 : decode cL_law 595 = .ok (.iconst 1, 1) := by decide +kernel
theorem dL_law_596 : decode cL_law 596 = .ok (.iadd, 1) := by decide +kernel
theorem dL_law_597 : decode cL_law 597 = .ok (.iaload, 1) := by decide +kernel
theorem dL_law_598 : decode cL_law 598 = .ok (.invokevirtual 97, 3) := by decide +kernel
theorem dL_law_601 : decode cL_law 601 = .ok (.aload_n 2, 1) := by decide +kernel
theorem dL_law_602 : decode cL_law 602 = .ok (.aload_n 0, 1) := by decide +kernel
theorem dL_law_603 : decode cL_law 603 = .ok (.iload_n 3, 1) := by decide +kernel
theorem dL_law_604 : decode cL_law 604 = .ok (.iconst 1, 1) := by decide +kernel
theorem dL_law_605 : decode cL_law 605 = .ok (.iadd, 1) := by decide +kernel
theorem dL_law_606 : decode cL_law 606 = .ok (.iaload, 1) := by decide +kernel
theorem dL_law_607 : decode cL_law 607 = .ok (.invokevirtual 100, 3) := by decide +kernel
theorem dL_law_610 : decode cL_law 610 = .ok (.if_icmp .eq 19, 3) := by decide +kernel
theorem dL_law_613 : decode cL_law 613 = .ok (.iconst 0, 1) := by decide +kernel
theorem dL_law_614 : decode cL_law 614 = .ok (.ireturn, 1) := by decide +kernel
theorem dL_law_615 : decode cL_law 615 = .ok (.aload_n 1, 1) := by decide +kernel
theorem dL_law_616 : decode cL_law 616 = .ok (.invokevirtual 101, 3) := by decide +kernel
theorem dL_law_619 : decode cL_law 619 = .ok (.aload_n 2, 1) := by decide +kernel
theorem dL_law_620 : decode cL_law 620 = .ok (.invokevirtual 105, 3) := by decide +kernel
theorem dL_law_623 : decode cL_law 623 = .ok (.lcmp, 1) := by decide +kernel
theorem dL_law_624 : decode cL_law 624 = .ok (.ifCond .eq 5, 3) := by decide +kernel
theorem dL_law_627 : decode cL_law 627 = .ok (.iconst 0, 1) := by decide +kernel
theorem dL_law_628 : decode cL_law 628 = .ok (.ireturn, 1) := by decide +kernel
theorem dL_law_629 : decode cL_law 629 = .ok (.iinc 3 4, 3) := by decide +kernel
theorem dL_law_632 : decode cL_law 632 = .ok (.goto (-614), 3) := by decide +kernel
theorem dL_law_635 : decode cL_law 635 = .ok (.iconst 1, 1) := by decide +kernel
theorem dL_law_636 : decode cL_law 636 = .ok (.ireturn, 1) := by decide +kernel
end
section
def gtbl : List Cond := lw_tbl.filter goodWord
theorem gtbl_in {w : Cond} {i : Nat} (h : lw_tbl[i]? = some w) (hg : goodWord w = true) : w ∈ gtbl := List.mem_filter.mpr ⟨List.mem_of_getElem? h, hg⟩
theorem gtbl_good {w : Cond} (h : w ∈ gtbl) : goodWord w = true := (List.mem_filter.mp h).2
theorem gtbl_lw {w : Cond} (h : w ∈ gtbl) : w ∈ lw_tbl := (List.mem_filter.mp h).1
theorem gtbl_ps (ws : List Cond) (ps : List Nat) (hp : ws = ps.filterMap (fun i => lw_tbl[i]?)) (h : ws.all goodWord = true) : ∀ w ∈ ws, w ∈ gtbl := by
  intro w hw
  have h1 := List.all_eq_true.mp h w hw
  rw [hp] at hw
  obtain ⟨i, -, hi⟩ := List.mem_filterMap.mp hw
  exact gtbl_in hi h1
theorem in_L : Cond.initialized RL ∈ gtbl := gtbl_in (i := 54) (by decide +kernel) (by decide +kernel)
theorem in_X6 : Cond.initialized RX6 ∈ gtbl := gtbl_in (i := 55) (by decide +kernel) (by decide +kernel)
theorem in_X1 : Cond.initialized RX1 ∈ gtbl := gtbl_in (i := 56) (by decide +kernel) (by decide +kernel)
theorem in_JMath : Cond.initialized RJ9 ∈ gtbl := gtbl_in (i := 57) (by decide +kernel) (by decide +kernel)
theorem in_X0 : Cond.initialized RX0 ∈ gtbl := gtbl_in (i := 58) (by decide +kernel) (by decide +kernel)
theorem in_JLong : Cond.initialized RJ13 ∈ gtbl := gtbl_in (i := 59) (by decide +kernel) (by decide +kernel)
theorem in_X4 : Cond.initialized RX4 ∈ gtbl := gtbl_in (i := 60) (by decide +kernel) (by decide +kernel)
theorem in_X3 : Cond.initialized RX3 ∈ gtbl := gtbl_in (i := 61) (by decide +kernel) (by decide +kernel)
theorem in_X2 : Cond.initialized RX2 ∈ gtbl := gtbl_in (i := 62) (by decide +kernel) (by decide +kernel)
theorem in_X5 : Cond.initialized RX5 ∈ gtbl := gtbl_in (i := 63) (by decide +kernel) (by decide +kernel)
theorem in_X7 : Cond.initialized RX7 ∈ gtbl := gtbl_in (i := 64) (by decide +kernel) (by decide +kernel)
theorem cl_L_7 : Cond.classLink RL 7 RX6 ∈ gtbl := gtbl_in (i := 65) (by decide +kernel) (by decide +kernel)
theorem ib_X6 : Cond.instantiable RX6 7 ∈ gtbl := gtbl_in (i := 66) (by decide +kernel) (by decide +kernel)
theorem ml_L_9 : Cond.methodLink RL 9 yX6_init ∈ gtbl := gtbl_in (i := 67) (by decide +kernel) (by decide +kernel)
theorem im_X6_init : Cond.instanceMethod yX6_init ∈ gtbl := gtbl_in (i := 68) (by decide +kernel) (by decide +kernel)
theorem co_X6_init : Cond.code yX6_init cX6_init 3 none ∈ gtbl := gtbl_in (i := 69) (by decide +kernel) (by decide +kernel)
theorem ml_X6_1 : Cond.methodLink RX6 1 objectInit ∈ gtbl := gtbl_in (i := 70) (by decide +kernel) (by decide +kernel)
theorem im_Oinit : Cond.instanceMethod objectInit ∈ gtbl := gtbl_in (i := 71) (by decide +kernel) (by decide +kernel)
theorem co_Oinit : Cond.code objectInit ⟨#[0xb1]⟩ 1 none ∈ gtbl := gtbl_in (i := 72) (by decide +kernel) (by decide +kernel)
theorem cl_X6_7 : Cond.classLink RX6 7 RX1 ∈ gtbl := gtbl_in (i := 73) (by decide +kernel) (by decide +kernel)
theorem ib_X1 : Cond.instantiable RX1 10 ∈ gtbl := gtbl_in (i := 74) (by decide +kernel) (by decide +kernel)
theorem mn_X6_9 : Cond.methodLinkNest RX6 9 yX1_init "RingPuzzle" ∈ lw_tbl := List.mem_of_getElem? (i := 75) (by decide +kernel)
theorem im_X1_init : Cond.instanceMethod yX1_init ∈ gtbl := gtbl_in (i := 76) (by decide +kernel) (by decide +kernel)
theorem co_X1_init : Cond.code yX1_init cX1_init 1 none ∈ gtbl := gtbl_in (i := 77) (by decide +kernel) (by decide +kernel)
theorem ml_X1_3 : Cond.methodLink RX1 3 objectInit ∈ gtbl := gtbl_in (i := 78) (by decide +kernel) (by decide +kernel)
theorem fl_X1_9 : Cond.fieldLink RX1 9 "RingPuzzle$Grid" "counts" "[I" ∈ gtbl := gtbl_in (i := 79) (by decide +kernel) (by decide +kernel)
theorem fl_X2_56 : Cond.fieldLink RX2 56 "RingPuzzle$Grid" "counts" "[I" ∈ gtbl := gtbl_in (i := 80) (by decide +kernel) (by decide +kernel)
theorem fl_X6_94 : Cond.fieldLink RX6 94 "RingPuzzle$Grid" "counts" "[I" ∈ gtbl := gtbl_in (i := 81) (by decide +kernel) (by decide +kernel)
theorem fl_X0_100 : Cond.fieldLink RX0 100 "RingPuzzle$Grid" "counts" "[I" ∈ gtbl := gtbl_in (i := 82) (by decide +kernel) (by decide +kernel)
theorem fl_X1_15 : Cond.fieldLink RX1 15 "RingPuzzle$Grid" "around" "[J" ∈ gtbl := gtbl_in (i := 83) (by decide +kernel) (by decide +kernel)
theorem fl_X0_103 : Cond.fieldLink RX0 103 "RingPuzzle$Grid" "around" "[J" ∈ gtbl := gtbl_in (i := 84) (by decide +kernel) (by decide +kernel)
theorem fl_X6_156 : Cond.fieldLink RX6 156 "RingPuzzle$Grid" "around" "[J" ∈ gtbl := gtbl_in (i := 85) (by decide +kernel) (by decide +kernel)
theorem fl_X1_19 : Cond.fieldLink RX1 19 "RingPuzzle$Grid" "meeting" "[J" ∈ gtbl := gtbl_in (i := 86) (by decide +kernel) (by decide +kernel)
theorem fl_X0_120 : Cond.fieldLink RX0 120 "RingPuzzle$Grid" "meeting" "[J" ∈ gtbl := gtbl_in (i := 87) (by decide +kernel) (by decide +kernel)
theorem fl_X6_152 : Cond.fieldLink RX6 152 "RingPuzzle$Grid" "meeting" "[J" ∈ gtbl := gtbl_in (i := 88) (by decide +kernel) (by decide +kernel)
theorem fl_X1_22 : Cond.fieldLink RX1 22 "RingPuzzle$Grid" "cellsOf" "[I" ∈ gtbl := gtbl_in (i := 89) (by decide +kernel) (by decide +kernel)
theorem fl_X0_83 : Cond.fieldLink RX0 83 "RingPuzzle$Grid" "cellsOf" "[I" ∈ gtbl := gtbl_in (i := 90) (by decide +kernel) (by decide +kernel)
theorem fl_X1_25 : Cond.fieldLink RX1 25 "RingPuzzle$Grid" "cornersOf" "[I" ∈ gtbl := gtbl_in (i := 91) (by decide +kernel) (by decide +kernel)
theorem fl_X0_86 : Cond.fieldLink RX0 86 "RingPuzzle$Grid" "cornersOf" "[I" ∈ gtbl := gtbl_in (i := 92) (by decide +kernel) (by decide +kernel)
theorem fl_X2_41 : Cond.fieldLink RX2 41 "RingPuzzle$Grid" "width" "I" ∈ gtbl := gtbl_in (i := 93) (by decide +kernel) (by decide +kernel)
theorem fl_X1_47 : Cond.fieldLink RX1 47 "RingPuzzle$Grid" "width" "I" ∈ gtbl := gtbl_in (i := 94) (by decide +kernel) (by decide +kernel)
theorem fl_X6_201 : Cond.fieldLink RX6 201 "RingPuzzle$Grid" "width" "I" ∈ gtbl := gtbl_in (i := 95) (by decide +kernel) (by decide +kernel)
theorem fl_X2_46 : Cond.fieldLink RX2 46 "RingPuzzle$Grid" "height" "I" ∈ gtbl := gtbl_in (i := 96) (by decide +kernel) (by decide +kernel)
theorem fl_X1_50 : Cond.fieldLink RX1 50 "RingPuzzle$Grid" "height" "I" ∈ gtbl := gtbl_in (i := 97) (by decide +kernel) (by decide +kernel)
theorem fl_X6_204 : Cond.fieldLink RX6 204 "RingPuzzle$Grid" "height" "I" ∈ gtbl := gtbl_in (i := 98) (by decide +kernel) (by decide +kernel)
theorem fl_X1_28 : Cond.fieldLink RX1 28 "RingPuzzle$Grid" "cells" "I" ∈ gtbl := gtbl_in (i := 99) (by decide +kernel) (by decide +kernel)
theorem fl_X6_91 : Cond.fieldLink RX6 91 "RingPuzzle$Grid" "cells" "I" ∈ gtbl := gtbl_in (i := 100) (by decide +kernel) (by decide +kernel)
theorem fl_X0_59 : Cond.fieldLink RX0 59 "RingPuzzle$Grid" "cells" "I" ∈ gtbl := gtbl_in (i := 101) (by decide +kernel) (by decide +kernel)
theorem fl_X1_32 : Cond.fieldLink RX1 32 "RingPuzzle$Grid" "corners" "I" ∈ gtbl := gtbl_in (i := 102) (by decide +kernel) (by decide +kernel)
theorem fl_X0_68 : Cond.fieldLink RX0 68 "RingPuzzle$Grid" "corners" "I" ∈ gtbl := gtbl_in (i := 103) (by decide +kernel) (by decide +kernel)
theorem fl_X4_42 : Cond.fieldLink RX4 42 "RingPuzzle$Grid" "edges" "I" ∈ gtbl := gtbl_in (i := 104) (by decide +kernel) (by decide +kernel)
theorem fl_X1_35 : Cond.fieldLink RX1 35 "RingPuzzle$Grid" "edges" "I" ∈ gtbl := gtbl_in (i := 105) (by decide +kernel) (by decide +kernel)
theorem fl_X6_101 : Cond.fieldLink RX6 101 "RingPuzzle$Grid" "edges" "I" ∈ gtbl := gtbl_in (i := 106) (by decide +kernel) (by decide +kernel)
theorem fl_X0_134 : Cond.fieldLink RX0 134 "RingPuzzle$Grid" "edges" "I" ∈ gtbl := gtbl_in (i := 107) (by decide +kernel) (by decide +kernel)
theorem ac_int : Cond.arrayClass .int ∈ gtbl := gtbl_in (i := 129) (by decide +kernel) (by decide +kernel)
theorem ac_long : Cond.arrayClass .long ∈ gtbl := gtbl_in (i := 130) (by decide +kernel) (by decide +kernel)
theorem ml_X6_10 : Cond.methodLink RX6 10 yX1_lay ∈ gtbl := gtbl_in (i := 131) (by decide +kernel) (by decide +kernel)
theorem im_X1_lay : Cond.instanceMethod yX1_lay ∈ gtbl := gtbl_in (i := 132) (by decide +kernel) (by decide +kernel)
theorem se_X1_lay : Cond.selects RX1 yX1_lay yX1_lay ∈ gtbl := gtbl_in (i := 133) (by decide +kernel) (by decide +kernel)
theorem co_X1_lay : Cond.code yX1_lay cX1_lay 5 none ∈ gtbl := gtbl_in (i := 134) (by decide +kernel) (by decide +kernel)
theorem ml_X1_38 : Cond.methodLink RX1 38 yJ9_min_7cf53 ∈ gtbl := gtbl_in (i := 135) (by decide +kernel) (by decide +kernel)
theorem sm_J9_min_7cf53 : Cond.static yJ9_min_7cf53 ∈ gtbl := gtbl_in (i := 136) (by decide +kernel) (by decide +kernel)
theorem co_J9_min_7cf53 : Cond.code yJ9_min_7cf53 cJ9_min_7cf53 2 (some .int) ∈ gtbl := gtbl_in (i := 137) (by decide +kernel) (by decide +kernel)
theorem ml_X1_44 : Cond.methodLink RX1 44 yJ9_max_7cf53 ∈ gtbl := gtbl_in (i := 138) (by decide +kernel) (by decide +kernel)
theorem sm_J9_max_7cf53 : Cond.static yJ9_max_7cf53 ∈ gtbl := gtbl_in (i := 139) (by decide +kernel) (by decide +kernel)
theorem co_J9_max_7cf53 : Cond.code yJ9_max_7cf53 cJ9_max_7cf53 2 (some .int) ∈ gtbl := gtbl_in (i := 140) (by decide +kernel) (by decide +kernel)
theorem ml_X1_53 : Cond.methodLink RX1 53 yX1_layEdgesFrom ∈ gtbl := gtbl_in (i := 141) (by decide +kernel) (by decide +kernel)
theorem im_X1_layEdgesFrom : Cond.instanceMethod yX1_layEdgesFrom ∈ gtbl := gtbl_in (i := 143) (by decide +kernel) (by decide +kernel)
theorem co_X1_layEdgesFrom : Cond.code yX1_layEdgesFrom cX1_layEdgesFrom 6 none ∈ gtbl := gtbl_in (i := 144) (by decide +kernel) (by decide +kernel)
theorem ml_X1_57 : Cond.methodLink RX1 57 yX1_cellAt ∈ gtbl := gtbl_in (i := 145) (by decide +kernel) (by decide +kernel)
theorem im_X1_cellAt : Cond.instanceMethod yX1_cellAt ∈ gtbl := gtbl_in (i := 147) (by decide +kernel) (by decide +kernel)
theorem co_X1_cellAt : Cond.code yX1_cellAt cX1_cellAt 4 (some .int) ∈ gtbl := gtbl_in (i := 148) (by decide +kernel) (by decide +kernel)
theorem ml_X1_60 : Cond.methodLink RX1 60 yX1_layEdge ∈ gtbl := gtbl_in (i := 149) (by decide +kernel) (by decide +kernel)
theorem im_X1_layEdge : Cond.instanceMethod yX1_layEdge ∈ gtbl := gtbl_in (i := 151) (by decide +kernel) (by decide +kernel)
theorem co_X1_layEdge : Cond.code yX1_layEdge cX1_layEdge 8 none ∈ gtbl := gtbl_in (i := 152) (by decide +kernel) (by decide +kernel)
theorem ml_X1_64 : Cond.methodLink RX1 64 yX1_hasEdge ∈ gtbl := gtbl_in (i := 153) (by decide +kernel) (by decide +kernel)
theorem im_X1_hasEdge : Cond.instanceMethod yX1_hasEdge ∈ gtbl := gtbl_in (i := 154) (by decide +kernel) (by decide +kernel)
theorem se_X1_hasEdge : Cond.selects RX1 yX1_hasEdge yX1_hasEdge ∈ gtbl := gtbl_in (i := 155) (by decide +kernel) (by decide +kernel)
theorem co_X1_hasEdge : Cond.code yX1_hasEdge cX1_hasEdge 2 (some .boolean) ∈ gtbl := gtbl_in (i := 156) (by decide +kernel) (by decide +kernel)
theorem ml_X1_68 : Cond.methodLink RX1 68 yX1_hasCorner ∈ gtbl := gtbl_in (i := 157) (by decide +kernel) (by decide +kernel)
theorem im_X1_hasCorner : Cond.instanceMethod yX1_hasCorner ∈ gtbl := gtbl_in (i := 158) (by decide +kernel) (by decide +kernel)
theorem se_X1_hasCorner : Cond.selects RX1 yX1_hasCorner yX1_hasCorner ∈ gtbl := gtbl_in (i := 159) (by decide +kernel) (by decide +kernel)
theorem co_X1_hasCorner : Cond.code yX1_hasCorner cX1_hasCorner 2 (some .boolean) ∈ gtbl := gtbl_in (i := 160) (by decide +kernel) (by decide +kernel)
theorem ml_X1_71 : Cond.methodLink RX1 71 yX1_hasCell ∈ gtbl := gtbl_in (i := 161) (by decide +kernel) (by decide +kernel)
theorem im_X1_hasCell : Cond.instanceMethod yX1_hasCell ∈ gtbl := gtbl_in (i := 162) (by decide +kernel) (by decide +kernel)
theorem se_X1_hasCell : Cond.selects RX1 yX1_hasCell yX1_hasCell ∈ gtbl := gtbl_in (i := 163) (by decide +kernel) (by decide +kernel)
theorem co_X1_hasCell : Cond.code yX1_hasCell cX1_hasCell 2 (some .boolean) ∈ gtbl := gtbl_in (i := 164) (by decide +kernel) (by decide +kernel)
theorem cl_X6_14 : Cond.classLink RX6 14 RX0 ∈ gtbl := gtbl_in (i := 165) (by decide +kernel) (by decide +kernel)
theorem ib_X0 : Cond.instantiable RX0 13 ∈ gtbl := gtbl_in (i := 166) (by decide +kernel) (by decide +kernel)
theorem ml_X6_16 : Cond.methodLink RX6 16 yX0_init ∈ gtbl := gtbl_in (i := 167) (by decide +kernel) (by decide +kernel)
theorem im_X0_init : Cond.instanceMethod yX0_init ∈ gtbl := gtbl_in (i := 168) (by decide +kernel) (by decide +kernel)
theorem co_X0_init : Cond.code yX0_init cX0_init 2 none ∈ gtbl := gtbl_in (i := 169) (by decide +kernel) (by decide +kernel)
theorem ml_X0_3 : Cond.methodLink RX0 3 objectInit ∈ gtbl := gtbl_in (i := 170) (by decide +kernel) (by decide +kernel)
theorem fl_X0_25 : Cond.fieldLink RX0 25 "RingPuzzle$Board" "grid" "LRingPuzzle$Grid;" ∈ gtbl := gtbl_in (i := 171) (by decide +kernel) (by decide +kernel)
theorem fl_X0_9 : Cond.fieldLink RX0 9 "RingPuzzle$Board" "ready" "[I" ∈ gtbl := gtbl_in (i := 172) (by decide +kernel) (by decide +kernel)
theorem fl_X3_41 : Cond.fieldLink RX3 41 "RingPuzzle$Board" "drawn" "J" ∈ gtbl := gtbl_in (i := 173) (by decide +kernel) (by decide +kernel)
theorem fl_X2_49 : Cond.fieldLink RX2 49 "RingPuzzle$Board" "drawn" "J" ∈ gtbl := gtbl_in (i := 174) (by decide +kernel) (by decide +kernel)
theorem fl_X0_47 : Cond.fieldLink RX0 47 "RingPuzzle$Board" "drawn" "J" ∈ gtbl := gtbl_in (i := 175) (by decide +kernel) (by decide +kernel)
theorem fl_X6_108 : Cond.fieldLink RX6 108 "RingPuzzle$Board" "drawn" "J" ∈ gtbl := gtbl_in (i := 176) (by decide +kernel) (by decide +kernel)
theorem fl_X3_44 : Cond.fieldLink RX3 44 "RingPuzzle$Board" "open" "J" ∈ gtbl := gtbl_in (i := 177) (by decide +kernel) (by decide +kernel)
theorem fl_X2_54 : Cond.fieldLink RX2 54 "RingPuzzle$Board" "open" "J" ∈ gtbl := gtbl_in (i := 178) (by decide +kernel) (by decide +kernel)
theorem fl_X0_50 : Cond.fieldLink RX0 50 "RingPuzzle$Board" "open" "J" ∈ gtbl := gtbl_in (i := 179) (by decide +kernel) (by decide +kernel)
theorem fl_X6_112 : Cond.fieldLink RX6 112 "RingPuzzle$Board" "open" "J" ∈ gtbl := gtbl_in (i := 180) (by decide +kernel) (by decide +kernel)
theorem fl_X0_29 : Cond.fieldLink RX0 29 "RingPuzzle$Board" "badCells" "I" ∈ gtbl := gtbl_in (i := 181) (by decide +kernel) (by decide +kernel)
theorem fl_X6_162 : Cond.fieldLink RX6 162 "RingPuzzle$Board" "badCells" "I" ∈ gtbl := gtbl_in (i := 182) (by decide +kernel) (by decide +kernel)
theorem fl_X0_53 : Cond.fieldLink RX0 53 "RingPuzzle$Board" "unmetCells" "I" ∈ gtbl := gtbl_in (i := 183) (by decide +kernel) (by decide +kernel)
theorem fl_X0_32 : Cond.fieldLink RX0 32 "RingPuzzle$Board" "badCorners" "I" ∈ gtbl := gtbl_in (i := 184) (by decide +kernel) (by decide +kernel)
theorem fl_X6_165 : Cond.fieldLink RX6 165 "RingPuzzle$Board" "badCorners" "I" ∈ gtbl := gtbl_in (i := 185) (by decide +kernel) (by decide +kernel)
theorem fl_X0_56 : Cond.fieldLink RX0 56 "RingPuzzle$Board" "pairedCorners" "I" ∈ gtbl := gtbl_in (i := 186) (by decide +kernel) (by decide +kernel)
theorem fl_X0_35 : Cond.fieldLink RX0 35 "RingPuzzle$Board" "badRing" "J" ∈ gtbl := gtbl_in (i := 187) (by decide +kernel) (by decide +kernel)
theorem fl_X6_168 : Cond.fieldLink RX6 168 "RingPuzzle$Board" "badRing" "J" ∈ gtbl := gtbl_in (i := 188) (by decide +kernel) (by decide +kernel)
theorem fl_X4_38 : Cond.fieldLink RX4 38 "RingPuzzle$Board" "goodRing" "Z" ∈ gtbl := gtbl_in (i := 189) (by decide +kernel) (by decide +kernel)
theorem fl_X0_39 : Cond.fieldLink RX0 39 "RingPuzzle$Board" "goodRing" "Z" ∈ gtbl := gtbl_in (i := 190) (by decide +kernel) (by decide +kernel)
theorem fl_X0_15 : Cond.fieldLink RX0 15 "RingPuzzle$Board" "foundRule" "I" ∈ gtbl := gtbl_in (i := 191) (by decide +kernel) (by decide +kernel)
theorem fl_X4_79 : Cond.fieldLink RX4 79 "RingPuzzle$Board" "foundRule" "I" ∈ gtbl := gtbl_in (i := 192) (by decide +kernel) (by decide +kernel)
theorem fl_X6_140 : Cond.fieldLink RX6 140 "RingPuzzle$Board" "foundRule" "I" ∈ gtbl := gtbl_in (i := 193) (by decide +kernel) (by decide +kernel)
theorem fl_X0_19 : Cond.fieldLink RX0 19 "RingPuzzle$Board" "foundEdge" "I" ∈ gtbl := gtbl_in (i := 194) (by decide +kernel) (by decide +kernel)
theorem fl_X6_227 : Cond.fieldLink RX6 227 "RingPuzzle$Board" "foundEdge" "I" ∈ gtbl := gtbl_in (i := 195) (by decide +kernel) (by decide +kernel)
theorem fl_X0_22 : Cond.fieldLink RX0 22 "RingPuzzle$Board" "foundPlace" "I" ∈ gtbl := gtbl_in (i := 196) (by decide +kernel) (by decide +kernel)
theorem fl_X6_233 : Cond.fieldLink RX6 233 "RingPuzzle$Board" "foundPlace" "I" ∈ gtbl := gtbl_in (i := 197) (by decide +kernel) (by decide +kernel)
theorem ml_X6_19 : Cond.methodLink RX6 19 yX1_allEdges ∈ gtbl := gtbl_in (i := 225) (by decide +kernel) (by decide +kernel)
theorem im_X1_allEdges : Cond.instanceMethod yX1_allEdges ∈ gtbl := gtbl_in (i := 226) (by decide +kernel) (by decide +kernel)
theorem se_X1_allEdges : Cond.selects RX1 yX1_allEdges yX1_allEdges ∈ gtbl := gtbl_in (i := 227) (by decide +kernel) (by decide +kernel)
theorem co_X1_allEdges : Cond.code yX1_allEdges cX1_allEdges 1 (some .long) ∈ gtbl := gtbl_in (i := 228) (by decide +kernel) (by decide +kernel)
theorem ml_X6_23 : Cond.methodLink RX6 23 yX0_begin ∈ gtbl := gtbl_in (i := 229) (by decide +kernel) (by decide +kernel)
theorem im_X0_begin : Cond.instanceMethod yX0_begin ∈ gtbl := gtbl_in (i := 230) (by decide +kernel) (by decide +kernel)
theorem se_X0_begin : Cond.selects RX0 yX0_begin yX0_begin ∈ gtbl := gtbl_in (i := 231) (by decide +kernel) (by decide +kernel)
theorem co_X0_begin : Cond.code yX0_begin cX0_begin 6 none ∈ gtbl := gtbl_in (i := 232) (by decide +kernel) (by decide +kernel)
theorem ml_X0_64 : Cond.methodLink RX0 64 yX0_lookAtCell ∈ gtbl := gtbl_in (i := 233) (by decide +kernel) (by decide +kernel)
theorem im_X0_lookAtCell : Cond.instanceMethod yX0_lookAtCell ∈ gtbl := gtbl_in (i := 235) (by decide +kernel) (by decide +kernel)
theorem co_X0_lookAtCell : Cond.code yX0_lookAtCell cX0_lookAtCell 5 none ∈ gtbl := gtbl_in (i := 236) (by decide +kernel) (by decide +kernel)
theorem ml_X0_97 : Cond.methodLink RX0 97 yX1_hasCell ∈ gtbl := gtbl_in (i := 237) (by decide +kernel) (by decide +kernel)
theorem ml_X0_107 : Cond.methodLink RX0 107 yJ13_bitCount_95d88 ∈ gtbl := gtbl_in (i := 238) (by decide +kernel) (by decide +kernel)
theorem sm_J13_bitCount_95d88 : Cond.static yJ13_bitCount_95d88 ∈ gtbl := gtbl_in (i := 239) (by decide +kernel) (by decide +kernel)
theorem co_J13_bitCount_95d88 : Cond.code yJ13_bitCount_95d88 cJ13_bitCount_95d88 2 (some .int) ∈ gtbl := gtbl_in (i := 240) (by decide +kernel) (by decide +kernel)
theorem kl_J13_314 : Cond.constantLong RJ13 314 (6148914691236517205) ∈ gtbl := gtbl_in (i := 241) (by decide +kernel) (by decide +kernel)
theorem kl_J13_316 : Cond.constantLong RJ13 316 (3689348814741910323) ∈ gtbl := gtbl_in (i := 242) (by decide +kernel) (by decide +kernel)
theorem kl_J13_318 : Cond.constantLong RJ13 318 (1085102592571150095) ∈ gtbl := gtbl_in (i := 243) (by decide +kernel) (by decide +kernel)
theorem mn_X0_113 : Cond.methodLinkNest RX0 113 yX6_with "RingPuzzle" ∈ lw_tbl := List.mem_of_getElem? (i := 244) (by decide +kernel)
theorem sm_X6_with : Cond.static yX6_with ∈ gtbl := gtbl_in (i := 245) (by decide +kernel) (by decide +kernel)
theorem co_X6_with : Cond.code yX6_with cX6_with 3 (some .int) ∈ gtbl := gtbl_in (i := 246) (by decide +kernel) (by decide +kernel)
theorem ml_X0_71 : Cond.methodLink RX0 71 yX0_lookAtCorner ∈ gtbl := gtbl_in (i := 247) (by decide +kernel) (by decide +kernel)
theorem im_X0_lookAtCorner : Cond.instanceMethod yX0_lookAtCorner ∈ gtbl := gtbl_in (i := 249) (by decide +kernel) (by decide +kernel)
theorem co_X0_lookAtCorner : Cond.code yX0_lookAtCorner cX0_lookAtCorner 4 none ∈ gtbl := gtbl_in (i := 250) (by decide +kernel) (by decide +kernel)
theorem ml_X0_117 : Cond.methodLink RX0 117 yX1_hasCorner ∈ gtbl := gtbl_in (i := 251) (by decide +kernel) (by decide +kernel)
theorem ml_X0_74 : Cond.methodLink RX0 74 yX0_lookAtRings ∈ gtbl := gtbl_in (i := 252) (by decide +kernel) (by decide +kernel)
theorem im_X0_lookAtRings : Cond.instanceMethod yX0_lookAtRings ∈ gtbl := gtbl_in (i := 254) (by decide +kernel) (by decide +kernel)
theorem co_X0_lookAtRings : Cond.code yX0_lookAtRings cX0_lookAtRings 6 none ∈ gtbl := gtbl_in (i := 255) (by decide +kernel) (by decide +kernel)
theorem ml_X0_89 : Cond.methodLink RX0 89 yX0_wayOf ∈ gtbl := gtbl_in (i := 256) (by decide +kernel) (by decide +kernel)
theorem im_X0_wayOf : Cond.instanceMethod yX0_wayOf ∈ gtbl := gtbl_in (i := 257) (by decide +kernel) (by decide +kernel)
theorem se_X0_wayOf : Cond.selects RX0 yX0_wayOf yX0_wayOf ∈ gtbl := gtbl_in (i := 258) (by decide +kernel) (by decide +kernel)
theorem co_X0_wayOf : Cond.code yX0_wayOf cX0_wayOf 11 (some .long) ∈ gtbl := gtbl_in (i := 259) (by decide +kernel) (by decide +kernel)
theorem ml_X0_93 : Cond.methodLink RX0 93 yX0_lookAtWay ∈ gtbl := gtbl_in (i := 260) (by decide +kernel) (by decide +kernel)
theorem im_X0_lookAtWay : Cond.instanceMethod yX0_lookAtWay ∈ gtbl := gtbl_in (i := 262) (by decide +kernel) (by decide +kernel)
theorem co_X0_lookAtWay : Cond.code yX0_lookAtWay cX0_lookAtWay 3 none ∈ gtbl := gtbl_in (i := 263) (by decide +kernel) (by decide +kernel)
theorem ml_X0_123 : Cond.methodLink RX0 123 yX0_isRing ∈ gtbl := gtbl_in (i := 264) (by decide +kernel) (by decide +kernel)
theorem im_X0_isRing : Cond.instanceMethod yX0_isRing ∈ gtbl := gtbl_in (i := 265) (by decide +kernel) (by decide +kernel)
theorem se_X0_isRing : Cond.selects RX0 yX0_isRing yX0_isRing ∈ gtbl := gtbl_in (i := 266) (by decide +kernel) (by decide +kernel)
theorem co_X0_isRing : Cond.code yX0_isRing cX0_isRing 5 (some .boolean) ∈ gtbl := gtbl_in (i := 267) (by decide +kernel) (by decide +kernel)
theorem kl_X0_81 : Cond.constantLong RX0 81 (-1) ∈ gtbl := gtbl_in (i := 268) (by decide +kernel) (by decide +kernel)
theorem cl_X6_37 : Cond.classLink RX6 37 RX4 ∈ gtbl := gtbl_in (i := 269) (by decide +kernel) (by decide +kernel)
theorem ib_X4 : Cond.instantiable RX4 3 ∈ gtbl := gtbl_in (i := 270) (by decide +kernel) (by decide +kernel)
theorem ml_X6_39 : Cond.methodLink RX6 39 yX4_init ∈ gtbl := gtbl_in (i := 271) (by decide +kernel) (by decide +kernel)
theorem im_X4_init : Cond.instanceMethod yX4_init ∈ gtbl := gtbl_in (i := 272) (by decide +kernel) (by decide +kernel)
theorem co_X4_init : Cond.code yX4_init cX4_init 2 none ∈ gtbl := gtbl_in (i := 273) (by decide +kernel) (by decide +kernel)
theorem ml_X4_3 : Cond.methodLink RX4 3 objectInit ∈ gtbl := gtbl_in (i := 274) (by decide +kernel) (by decide +kernel)
theorem cl_X4_15 : Cond.classLink RX4 15 RX0 ∈ gtbl := gtbl_in (i := 275) (by decide +kernel) (by decide +kernel)
theorem ml_X4_17 : Cond.methodLink RX4 17 yX0_init ∈ gtbl := gtbl_in (i := 276) (by decide +kernel) (by decide +kernel)
theorem fl_X4_9 : Cond.fieldLink RX4 9 "RingPuzzle$Solver" "grid" "LRingPuzzle$Grid;" ∈ gtbl := gtbl_in (i := 277) (by decide +kernel) (by decide +kernel)
theorem fl_X4_20 : Cond.fieldLink RX4 20 "RingPuzzle$Solver" "trial" "LRingPuzzle$Board;" ∈ gtbl := gtbl_in (i := 278) (by decide +kernel) (by decide +kernel)
theorem fl_X4_24 : Cond.fieldLink RX4 24 "RingPuzzle$Solver" "graded" "LRingPuzzle$Board;" ∈ gtbl := gtbl_in (i := 279) (by decide +kernel) (by decide +kernel)
theorem cl_X6_44 : Cond.classLink RX6 44 RX3 ∈ gtbl := gtbl_in (i := 287) (by decide +kernel) (by decide +kernel)
theorem ib_X3 : Cond.instantiable RX3 8 ∈ gtbl := gtbl_in (i := 288) (by decide +kernel) (by decide +kernel)
theorem ml_X6_46 : Cond.methodLink RX6 46 yX3_init ∈ gtbl := gtbl_in (i := 289) (by decide +kernel) (by decide +kernel)
theorem im_X3_init : Cond.instanceMethod yX3_init ∈ gtbl := gtbl_in (i := 290) (by decide +kernel) (by decide +kernel)
theorem co_X3_init : Cond.code yX3_init cX3_init 2 none ∈ gtbl := gtbl_in (i := 291) (by decide +kernel) (by decide +kernel)
theorem ml_X3_3 : Cond.methodLink RX3 3 objectInit ∈ gtbl := gtbl_in (i := 292) (by decide +kernel) (by decide +kernel)
theorem cl_X3_18 : Cond.classLink RX3 18 RX0 ∈ gtbl := gtbl_in (i := 293) (by decide +kernel) (by decide +kernel)
theorem ml_X3_20 : Cond.methodLink RX3 20 yX0_init ∈ gtbl := gtbl_in (i := 294) (by decide +kernel) (by decide +kernel)
theorem fl_X3_23 : Cond.fieldLink RX3 23 "RingPuzzle$Search" "board" "LRingPuzzle$Board;" ∈ gtbl := gtbl_in (i := 295) (by decide +kernel) (by decide +kernel)
theorem fl_X3_9 : Cond.fieldLink RX3 9 "RingPuzzle$Search" "drawnOf" "[J" ∈ gtbl := gtbl_in (i := 296) (by decide +kernel) (by decide +kernel)
theorem fl_X3_15 : Cond.fieldLink RX3 15 "RingPuzzle$Search" "openOf" "[J" ∈ gtbl := gtbl_in (i := 297) (by decide +kernel) (by decide +kernel)
theorem fl_X3_27 : Cond.fieldLink RX3 27 "RingPuzzle$Search" "waiting" "I" ∈ gtbl := gtbl_in (i := 298) (by decide +kernel) (by decide +kernel)
theorem fl_X3_31 : Cond.fieldLink RX3 31 "RingPuzzle$Search" "found" "I" ∈ gtbl := gtbl_in (i := 299) (by decide +kernel) (by decide +kernel)
theorem fl_X6_189 : Cond.fieldLink RX6 189 "RingPuzzle$Search" "found" "I" ∈ gtbl := gtbl_in (i := 300) (by decide +kernel) (by decide +kernel)
theorem fl_X3_34 : Cond.fieldLink RX3 34 "RingPuzzle$Search" "looked" "I" ∈ gtbl := gtbl_in (i := 301) (by decide +kernel) (by decide +kernel)
theorem fl_X3_37 : Cond.fieldLink RX3 37 "RingPuzzle$Search" "first" "J" ∈ gtbl := gtbl_in (i := 302) (by decide +kernel) (by decide +kernel)
theorem fl_X6_195 : Cond.fieldLink RX6 195 "RingPuzzle$Search" "first" "J" ∈ gtbl := gtbl_in (i := 303) (by decide +kernel) (by decide +kernel)
theorem fl_X3_60 : Cond.fieldLink RX3 60 "RingPuzzle$Search" "cutShort" "Z" ∈ gtbl := gtbl_in (i := 304) (by decide +kernel) (by decide +kernel)
theorem cl_X6_51 : Cond.classLink RX6 51 RX2 ∈ gtbl := gtbl_in (i := 322) (by decide +kernel) (by decide +kernel)
theorem ib_X2 : Cond.instantiable RX2 8 ∈ gtbl := gtbl_in (i := 323) (by decide +kernel) (by decide +kernel)
theorem mn_X6_53 : Cond.methodLinkNest RX6 53 yX2_init "RingPuzzle" ∈ lw_tbl := List.mem_of_getElem? (i := 324) (by decide +kernel)
theorem im_X2_init : Cond.instanceMethod yX2_init ∈ gtbl := gtbl_in (i := 325) (by decide +kernel) (by decide +kernel)
theorem co_X2_init : Cond.code yX2_init cX2_init 1 none ∈ gtbl := gtbl_in (i := 326) (by decide +kernel) (by decide +kernel)
theorem ml_X2_3 : Cond.methodLink RX2 3 objectInit ∈ gtbl := gtbl_in (i := 327) (by decide +kernel) (by decide +kernel)
theorem fl_X2_9 : Cond.fieldLink RX2 9 "RingPuzzle$History" "widths" "[I" ∈ gtbl := gtbl_in (i := 328) (by decide +kernel) (by decide +kernel)
theorem fl_X2_15 : Cond.fieldLink RX2 15 "RingPuzzle$History" "heights" "[I" ∈ gtbl := gtbl_in (i := 329) (by decide +kernel) (by decide +kernel)
theorem fl_X2_18 : Cond.fieldLink RX2 18 "RingPuzzle$History" "drawn" "[J" ∈ gtbl := gtbl_in (i := 330) (by decide +kernel) (by decide +kernel)
theorem fl_X2_22 : Cond.fieldLink RX2 22 "RingPuzzle$History" "open" "[J" ∈ gtbl := gtbl_in (i := 331) (by decide +kernel) (by decide +kernel)
theorem fl_X2_25 : Cond.fieldLink RX2 25 "RingPuzzle$History" "counts" "[I" ∈ gtbl := gtbl_in (i := 332) (by decide +kernel) (by decide +kernel)
theorem fl_X2_28 : Cond.fieldLink RX2 28 "RingPuzzle$History" "made" "[I" ∈ gtbl := gtbl_in (i := 333) (by decide +kernel) (by decide +kernel)
theorem fl_X2_57 : Cond.fieldLink RX2 57 "RingPuzzle$History" "size" "I" ∈ gtbl := gtbl_in (i := 334) (by decide +kernel) (by decide +kernel)
theorem fl_X6_143 : Cond.fieldLink RX6 143 "RingPuzzle$History" "size" "I" ∈ gtbl := gtbl_in (i := 335) (by decide +kernel) (by decide +kernel)
theorem fl_X2_31 : Cond.fieldLink RX2 31 "RingPuzzle$History" "next" "I" ∈ gtbl := gtbl_in (i := 336) (by decide +kernel) (by decide +kernel)
theorem cl_X6_58 : Cond.classLink RX6 58 RX5 ∈ gtbl := gtbl_in (i := 354) (by decide +kernel) (by decide +kernel)
theorem ib_X5 : Cond.instantiable RX5 5 ∈ gtbl := gtbl_in (i := 355) (by decide +kernel) (by decide +kernel)
theorem mn_X6_60 : Cond.methodLinkNest RX6 60 yX5_init "RingPuzzle" ∈ lw_tbl := List.mem_of_getElem? (i := 356) (by decide +kernel)
theorem im_X5_init : Cond.instanceMethod yX5_init ∈ gtbl := gtbl_in (i := 357) (by decide +kernel) (by decide +kernel)
theorem co_X5_init : Cond.code yX5_init cX5_init 1 none ∈ gtbl := gtbl_in (i := 358) (by decide +kernel) (by decide +kernel)
theorem ml_X5_3 : Cond.methodLink RX5 3 objectInit ∈ gtbl := gtbl_in (i := 359) (by decide +kernel) (by decide +kernel)
theorem fl_X5_9 : Cond.fieldLink RX5 9 "RingPuzzle$Text" "letters" "[B" ∈ gtbl := gtbl_in (i := 360) (by decide +kernel) (by decide +kernel)
theorem fl_X6_223 : Cond.fieldLink RX6 223 "RingPuzzle$Text" "letters" "[B" ∈ gtbl := gtbl_in (i := 361) (by decide +kernel) (by decide +kernel)
theorem fl_X5_15 : Cond.fieldLink RX5 15 "RingPuzzle$Text" "counts" "[I" ∈ gtbl := gtbl_in (i := 362) (by decide +kernel) (by decide +kernel)
theorem fl_X6_97 : Cond.fieldLink RX6 97 "RingPuzzle$Text" "counts" "[I" ∈ gtbl := gtbl_in (i := 363) (by decide +kernel) (by decide +kernel)
theorem fl_X5_19 : Cond.fieldLink RX5 19 "RingPuzzle$Text" "length" "I" ∈ gtbl := gtbl_in (i := 364) (by decide +kernel) (by decide +kernel)
theorem fl_X6_73 : Cond.fieldLink RX6 73 "RingPuzzle$Text" "length" "I" ∈ gtbl := gtbl_in (i := 365) (by decide +kernel) (by decide +kernel)
theorem fl_X5_23 : Cond.fieldLink RX5 23 "RingPuzzle$Text" "columns" "I" ∈ gtbl := gtbl_in (i := 366) (by decide +kernel) (by decide +kernel)
theorem fl_X6_85 : Cond.fieldLink RX6 85 "RingPuzzle$Text" "columns" "I" ∈ gtbl := gtbl_in (i := 367) (by decide +kernel) (by decide +kernel)
theorem fl_X5_26 : Cond.fieldLink RX5 26 "RingPuzzle$Text" "rows" "I" ∈ gtbl := gtbl_in (i := 368) (by decide +kernel) (by decide +kernel)
theorem fl_X6_88 : Cond.fieldLink RX6 88 "RingPuzzle$Text" "rows" "I" ∈ gtbl := gtbl_in (i := 369) (by decide +kernel) (by decide +kernel)
theorem ac_byte : Cond.arrayClass .byte ∈ gtbl := gtbl_in (i := 381) (by decide +kernel) (by decide +kernel)
theorem fl_X6_27 : Cond.fieldLink RX6 27 "RingPuzzle" "grid" "LRingPuzzle$Grid;" ∈ gtbl := gtbl_in (i := 382) (by decide +kernel) (by decide +kernel)
theorem fl_X6_33 : Cond.fieldLink RX6 33 "RingPuzzle" "board" "LRingPuzzle$Board;" ∈ gtbl := gtbl_in (i := 383) (by decide +kernel) (by decide +kernel)
theorem fl_X6_40 : Cond.fieldLink RX6 40 "RingPuzzle" "solver" "LRingPuzzle$Solver;" ∈ gtbl := gtbl_in (i := 384) (by decide +kernel) (by decide +kernel)
theorem fl_X6_47 : Cond.fieldLink RX6 47 "RingPuzzle" "search" "LRingPuzzle$Search;" ∈ gtbl := gtbl_in (i := 385) (by decide +kernel) (by decide +kernel)
theorem fl_X6_54 : Cond.fieldLink RX6 54 "RingPuzzle" "history" "LRingPuzzle$History;" ∈ gtbl := gtbl_in (i := 386) (by decide +kernel) (by decide +kernel)
theorem fl_X6_61 : Cond.fieldLink RX6 61 "RingPuzzle" "text" "LRingPuzzle$Text;" ∈ gtbl := gtbl_in (i := 387) (by decide +kernel) (by decide +kernel)
theorem fl_X6_65 : Cond.fieldLink RX6 65 "RingPuzzle" "made" "[I" ∈ gtbl := gtbl_in (i := 388) (by decide +kernel) (by decide +kernel)
theorem ml_L_13 : Cond.methodLink RL 13 yX6_type ∈ gtbl := gtbl_in (i := 404) (by decide +kernel) (by decide +kernel)
theorem im_X6_type : Cond.instanceMethod yX6_type ∈ gtbl := gtbl_in (i := 405) (by decide +kernel) (by decide +kernel)
theorem se_X6_type : Cond.selects RX6 yX6_type yX6_type ∈ gtbl := gtbl_in (i := 406) (by decide +kernel) (by decide +kernel)
theorem co_X6_type : Cond.code yX6_type cX6_type 2 (some .int) ∈ gtbl := gtbl_in (i := 407) (by decide +kernel) (by decide +kernel)
theorem ml_X6_69 : Cond.methodLink RX6 69 yX5_append ∈ gtbl := gtbl_in (i := 408) (by decide +kernel) (by decide +kernel)
theorem im_X5_append : Cond.instanceMethod yX5_append ∈ gtbl := gtbl_in (i := 409) (by decide +kernel) (by decide +kernel)
theorem se_X5_append : Cond.selects RX5 yX5_append yX5_append ∈ gtbl := gtbl_in (i := 410) (by decide +kernel) (by decide +kernel)
theorem co_X5_append : Cond.code yX5_append cX5_append 2 (some .int) ∈ gtbl := gtbl_in (i := 411) (by decide +kernel) (by decide +kernel)
theorem ml_L_18 : Cond.methodLink RL 18 yX6_clearText ∈ gtbl := gtbl_in (i := 412) (by decide +kernel) (by decide +kernel)
theorem im_X6_clearText : Cond.instanceMethod yX6_clearText ∈ gtbl := gtbl_in (i := 413) (by decide +kernel) (by decide +kernel)
theorem se_X6_clearText : Cond.selects RX6 yX6_clearText yX6_clearText ∈ gtbl := gtbl_in (i := 414) (by decide +kernel) (by decide +kernel)
theorem co_X6_clearText : Cond.code yX6_clearText cX6_clearText 2 (some .int) ∈ gtbl := gtbl_in (i := 415) (by decide +kernel) (by decide +kernel)
theorem ml_L_23 : Cond.methodLink RL 23 yX6_fault ∈ gtbl := gtbl_in (i := 416) (by decide +kernel) (by decide +kernel)
theorem im_X6_fault : Cond.instanceMethod yX6_fault ∈ gtbl := gtbl_in (i := 417) (by decide +kernel) (by decide +kernel)
theorem se_X6_fault : Cond.selects RX6 yX6_fault yX6_fault ∈ gtbl := gtbl_in (i := 418) (by decide +kernel) (by decide +kernel)
theorem co_X6_fault : Cond.code yX6_fault cX6_fault 1 (some .int) ∈ gtbl := gtbl_in (i := 419) (by decide +kernel) (by decide +kernel)
theorem ml_X6_77 : Cond.methodLink RX6 77 yX5_read ∈ gtbl := gtbl_in (i := 420) (by decide +kernel) (by decide +kernel)
theorem im_X5_read : Cond.instanceMethod yX5_read ∈ gtbl := gtbl_in (i := 421) (by decide +kernel) (by decide +kernel)
theorem se_X5_read : Cond.selects RX5 yX5_read yX5_read ∈ gtbl := gtbl_in (i := 422) (by decide +kernel) (by decide +kernel)
theorem co_X5_read : Cond.code yX5_read cX5_read 5 (some .int) ∈ gtbl := gtbl_in (i := 423) (by decide +kernel) (by decide +kernel)
theorem ml_X5_29 : Cond.methodLink RX5 29 yX5_endsRow ∈ gtbl := gtbl_in (i := 424) (by decide +kernel) (by decide +kernel)
theorem im_X5_endsRow : Cond.instanceMethod yX5_endsRow ∈ gtbl := gtbl_in (i := 426) (by decide +kernel) (by decide +kernel)
theorem co_X5_endsRow : Cond.code yX5_endsRow cX5_endsRow 2 (some .boolean) ∈ gtbl := gtbl_in (i := 427) (by decide +kernel) (by decide +kernel)
theorem ml_X5_33 : Cond.methodLink RX5 33 yX5_isCell ∈ gtbl := gtbl_in (i := 428) (by decide +kernel) (by decide +kernel)
theorem sm_X5_isCell : Cond.static yX5_isCell ∈ gtbl := gtbl_in (i := 429) (by decide +kernel) (by decide +kernel)
theorem co_X5_isCell : Cond.code yX5_isCell cX5_isCell 1 (some .boolean) ∈ gtbl := gtbl_in (i := 430) (by decide +kernel) (by decide +kernel)
theorem ml_L_27 : Cond.methodLink RL 27 yX6_setPuzzle ∈ gtbl := gtbl_in (i := 431) (by decide +kernel) (by decide +kernel)
theorem im_X6_setPuzzle : Cond.instanceMethod yX6_setPuzzle ∈ gtbl := gtbl_in (i := 432) (by decide +kernel) (by decide +kernel)
theorem se_X6_setPuzzle : Cond.selects RX6 yX6_setPuzzle yX6_setPuzzle ∈ gtbl := gtbl_in (i := 433) (by decide +kernel) (by decide +kernel)
theorem co_X6_setPuzzle : Cond.code yX6_setPuzzle cX6_setPuzzle 2 (some .int) ∈ gtbl := gtbl_in (i := 434) (by decide +kernel) (by decide +kernel)
theorem ml_X6_81 : Cond.methodLink RX6 81 yX2_keep ∈ gtbl := gtbl_in (i := 435) (by decide +kernel) (by decide +kernel)
theorem im_X2_keep : Cond.instanceMethod yX2_keep ∈ gtbl := gtbl_in (i := 436) (by decide +kernel) (by decide +kernel)
theorem se_X2_keep : Cond.selects RX2 yX2_keep yX2_keep ∈ gtbl := gtbl_in (i := 437) (by decide +kernel) (by decide +kernel)
theorem co_X2_keep : Cond.code yX2_keep cX2_keep 6 none ∈ gtbl := gtbl_in (i := 438) (by decide +kernel) (by decide +kernel)
theorem ml_X2_35 : Cond.methodLink RX2 35 yJ9_floorMod_7cf53 ∈ gtbl := gtbl_in (i := 439) (by decide +kernel) (by decide +kernel)
theorem sm_J9_floorMod_7cf53 : Cond.static yJ9_floorMod_7cf53 ∈ gtbl := gtbl_in (i := 440) (by decide +kernel) (by decide +kernel)
theorem co_J9_floorMod_7cf53 : Cond.code yJ9_floorMod_7cf53 cJ9_floorMod_7cf53 3 (some .int) ∈ gtbl := gtbl_in (i := 441) (by decide +kernel) (by decide +kernel)
theorem ml_X2_60 : Cond.methodLink RX2 60 yJ9_min_7cf53 ∈ gtbl := gtbl_in (i := 442) (by decide +kernel) (by decide +kernel)
theorem ml_X6_98 : Cond.methodLink RX6 98 yX6_forgetMade ∈ gtbl := gtbl_in (i := 443) (by decide +kernel) (by decide +kernel)
theorem im_X6_forgetMade : Cond.instanceMethod yX6_forgetMade ∈ gtbl := gtbl_in (i := 445) (by decide +kernel) (by decide +kernel)
theorem co_X6_forgetMade : Cond.code yX6_forgetMade cX6_forgetMade 2 none ∈ gtbl := gtbl_in (i := 446) (by decide +kernel) (by decide +kernel)
theorem ml_L_31 : Cond.methodLink RL 31 yX6_setCount ∈ gtbl := gtbl_in (i := 447) (by decide +kernel) (by decide +kernel)
theorem im_X6_setCount : Cond.instanceMethod yX6_setCount ∈ gtbl := gtbl_in (i := 448) (by decide +kernel) (by decide +kernel)
theorem se_X6_setCount : Cond.selects RX6 yX6_setCount yX6_setCount ∈ gtbl := gtbl_in (i := 449) (by decide +kernel) (by decide +kernel)
theorem co_X6_setCount : Cond.code yX6_setCount cX6_setCount 4 (some .int) ∈ gtbl := gtbl_in (i := 450) (by decide +kernel) (by decide +kernel)
theorem ml_X6_104 : Cond.methodLink RX6 104 yX1_hasCell ∈ gtbl := gtbl_in (i := 451) (by decide +kernel) (by decide +kernel)
theorem ml_L_36 : Cond.methodLink RL 36 yX6_mark ∈ gtbl := gtbl_in (i := 452) (by decide +kernel) (by decide +kernel)
theorem im_X6_mark : Cond.instanceMethod yX6_mark ∈ gtbl := gtbl_in (i := 453) (by decide +kernel) (by decide +kernel)
theorem se_X6_mark : Cond.selects RX6 yX6_mark yX6_mark ∈ gtbl := gtbl_in (i := 454) (by decide +kernel) (by decide +kernel)
theorem co_X6_mark : Cond.code yX6_mark cX6_mark 10 (some .int) ∈ gtbl := gtbl_in (i := 455) (by decide +kernel) (by decide +kernel)
theorem ml_X6_115 : Cond.methodLink RX6 115 yX1_hasEdge ∈ gtbl := gtbl_in (i := 456) (by decide +kernel) (by decide +kernel)
theorem ml_X6_118 : Cond.methodLink RX6 118 yX0_markOf ∈ gtbl := gtbl_in (i := 457) (by decide +kernel) (by decide +kernel)
theorem im_X0_markOf : Cond.instanceMethod yX0_markOf ∈ gtbl := gtbl_in (i := 458) (by decide +kernel) (by decide +kernel)
theorem se_X0_markOf : Cond.selects RX0 yX0_markOf yX0_markOf ∈ gtbl := gtbl_in (i := 459) (by decide +kernel) (by decide +kernel)
theorem co_X0_markOf : Cond.code yX0_markOf cX0_markOf 2 (some .int) ∈ gtbl := gtbl_in (i := 460) (by decide +kernel) (by decide +kernel)
theorem kl_X6_121 : Cond.constantLong RX6 121 (-1) ∈ gtbl := gtbl_in (i := 461) (by decide +kernel) (by decide +kernel)
theorem ml_L_40 : Cond.methodLink RL 40 yX6_wipe ∈ gtbl := gtbl_in (i := 462) (by decide +kernel) (by decide +kernel)
theorem im_X6_wipe : Cond.instanceMethod yX6_wipe ∈ gtbl := gtbl_in (i := 463) (by decide +kernel) (by decide +kernel)
theorem se_X6_wipe : Cond.selects RX6 yX6_wipe yX6_wipe ∈ gtbl := gtbl_in (i := 464) (by decide +kernel) (by decide +kernel)
theorem co_X6_wipe : Cond.code yX6_wipe cX6_wipe 2 (some .int) ∈ gtbl := gtbl_in (i := 465) (by decide +kernel) (by decide +kernel)
theorem ml_X6_123 : Cond.methodLink RX6 123 yJ13_bitCount_95d88 ∈ gtbl := gtbl_in (i := 466) (by decide +kernel) (by decide +kernel)
theorem ml_L_44 : Cond.methodLink RL 44 yX6_deduce ∈ gtbl := gtbl_in (i := 467) (by decide +kernel) (by decide +kernel)
theorem im_X6_deduce : Cond.instanceMethod yX6_deduce ∈ gtbl := gtbl_in (i := 468) (by decide +kernel) (by decide +kernel)
theorem se_X6_deduce : Cond.selects RX6 yX6_deduce yX6_deduce ∈ gtbl := gtbl_in (i := 469) (by decide +kernel) (by decide +kernel)
theorem co_X6_deduce : Cond.code yX6_deduce cX6_deduce 1 (some .int) ∈ gtbl := gtbl_in (i := 470) (by decide +kernel) (by decide +kernel)
theorem ml_X6_129 : Cond.methodLink RX6 129 yX0_fits ∈ gtbl := gtbl_in (i := 471) (by decide +kernel) (by decide +kernel)
theorem im_X0_fits : Cond.instanceMethod yX0_fits ∈ gtbl := gtbl_in (i := 472) (by decide +kernel) (by decide +kernel)
theorem se_X0_fits : Cond.selects RX0 yX0_fits yX0_fits ∈ gtbl := gtbl_in (i := 473) (by decide +kernel) (by decide +kernel)
theorem co_X0_fits : Cond.code yX0_fits cX0_fits 1 (some .boolean) ∈ gtbl := gtbl_in (i := 474) (by decide +kernel) (by decide +kernel)
theorem ml_X6_133 : Cond.methodLink RX6 133 yX4_findNext ∈ gtbl := gtbl_in (i := 475) (by decide +kernel) (by decide +kernel)
theorem im_X4_findNext : Cond.instanceMethod yX4_findNext ∈ gtbl := gtbl_in (i := 476) (by decide +kernel) (by decide +kernel)
theorem se_X4_findNext : Cond.selects RX4 yX4_findNext yX4_findNext ∈ gtbl := gtbl_in (i := 477) (by decide +kernel) (by decide +kernel)
theorem co_X4_findNext : Cond.code yX4_findNext cX4_findNext 6 (some .boolean) ∈ gtbl := gtbl_in (i := 478) (by decide +kernel) (by decide +kernel)
theorem ml_X4_27 : Cond.methodLink RX4 27 yX0_findAtPlace ∈ gtbl := gtbl_in (i := 479) (by decide +kernel) (by decide +kernel)
theorem im_X0_findAtPlace : Cond.instanceMethod yX0_findAtPlace ∈ gtbl := gtbl_in (i := 480) (by decide +kernel) (by decide +kernel)
theorem se_X0_findAtPlace : Cond.selects RX0 yX0_findAtPlace yX0_findAtPlace ∈ gtbl := gtbl_in (i := 481) (by decide +kernel) (by decide +kernel)
theorem co_X0_findAtPlace : Cond.code yX0_findAtPlace cX0_findAtPlace 7 (some .boolean) ∈ gtbl := gtbl_in (i := 482) (by decide +kernel) (by decide +kernel)
theorem ml_X0_43 : Cond.methodLink RX0 43 yX0_fits ∈ gtbl := gtbl_in (i := 483) (by decide +kernel) (by decide +kernel)
theorem mn_X0_127 : Cond.methodLinkNest RX0 127 yX6_leastOf "RingPuzzle" ∈ lw_tbl := List.mem_of_getElem? (i := 484) (by decide +kernel)
theorem sm_X6_leastOf : Cond.static yX6_leastOf ∈ gtbl := gtbl_in (i := 485) (by decide +kernel) (by decide +kernel)
theorem co_X6_leastOf : Cond.code yX6_leastOf cX6_leastOf 2 (some .int) ∈ gtbl := gtbl_in (i := 486) (by decide +kernel) (by decide +kernel)
theorem ml_X0_130 : Cond.methodLink RX0 130 yX0_found ∈ gtbl := gtbl_in (i := 487) (by decide +kernel) (by decide +kernel)
theorem im_X0_found : Cond.instanceMethod yX0_found ∈ gtbl := gtbl_in (i := 488) (by decide +kernel) (by decide +kernel)
theorem se_X0_found : Cond.selects RX0 yX0_found yX0_found ∈ gtbl := gtbl_in (i := 489) (by decide +kernel) (by decide +kernel)
theorem co_X0_found : Cond.code yX0_found cX0_found 4 none ∈ gtbl := gtbl_in (i := 490) (by decide +kernel) (by decide +kernel)
theorem ml_X4_31 : Cond.methodLink RX4 31 yX0_findClosing ∈ gtbl := gtbl_in (i := 491) (by decide +kernel) (by decide +kernel)
theorem im_X0_findClosing : Cond.instanceMethod yX0_findClosing ∈ gtbl := gtbl_in (i := 492) (by decide +kernel) (by decide +kernel)
theorem se_X0_findClosing : Cond.selects RX0 yX0_findClosing yX0_findClosing ∈ gtbl := gtbl_in (i := 493) (by decide +kernel) (by decide +kernel)
theorem co_X0_findClosing : Cond.code yX0_findClosing cX0_findClosing 11 (some .boolean) ∈ gtbl := gtbl_in (i := 494) (by decide +kernel) (by decide +kernel)
theorem ml_X0_137 : Cond.methodLink RX0 137 yX0_drawnAtEnd ∈ gtbl := gtbl_in (i := 495) (by decide +kernel) (by decide +kernel)
theorem im_X0_drawnAtEnd : Cond.instanceMethod yX0_drawnAtEnd ∈ gtbl := gtbl_in (i := 497) (by decide +kernel) (by decide +kernel)
theorem co_X0_drawnAtEnd : Cond.code yX0_drawnAtEnd cX0_drawnAtEnd 4 (some .long) ∈ gtbl := gtbl_in (i := 498) (by decide +kernel) (by decide +kernel)
theorem ml_X0_141 : Cond.methodLink RX0 141 yX0_meetsCounts ∈ gtbl := gtbl_in (i := 499) (by decide +kernel) (by decide +kernel)
theorem im_X0_meetsCounts : Cond.instanceMethod yX0_meetsCounts ∈ gtbl := gtbl_in (i := 501) (by decide +kernel) (by decide +kernel)
theorem co_X0_meetsCounts : Cond.code yX0_meetsCounts cX0_meetsCounts 5 (some .boolean) ∈ gtbl := gtbl_in (i := 502) (by decide +kernel) (by decide +kernel)
theorem ml_X4_35 : Cond.methodLink RX4 35 yX0_fits ∈ gtbl := gtbl_in (i := 503) (by decide +kernel) (by decide +kernel)
theorem ml_X4_48 : Cond.methodLink RX4 48 yX0_markOf ∈ gtbl := gtbl_in (i := 504) (by decide +kernel) (by decide +kernel)
theorem ml_X4_52 : Cond.methodLink RX4 52 yX0_copyFrom ∈ gtbl := gtbl_in (i := 505) (by decide +kernel) (by decide +kernel)
theorem im_X0_copyFrom : Cond.instanceMethod yX0_copyFrom ∈ gtbl := gtbl_in (i := 506) (by decide +kernel) (by decide +kernel)
theorem se_X0_copyFrom : Cond.selects RX0 yX0_copyFrom yX0_copyFrom ∈ gtbl := gtbl_in (i := 507) (by decide +kernel) (by decide +kernel)
theorem co_X0_copyFrom : Cond.code yX0_copyFrom cX0_copyFrom 3 none ∈ gtbl := gtbl_in (i := 508) (by decide +kernel) (by decide +kernel)
theorem ml_X4_56 : Cond.methodLink RX4 56 yX0_settleEdge ∈ gtbl := gtbl_in (i := 509) (by decide +kernel) (by decide +kernel)
theorem im_X0_settleEdge : Cond.instanceMethod yX0_settleEdge ∈ gtbl := gtbl_in (i := 510) (by decide +kernel) (by decide +kernel)
theorem se_X0_settleEdge : Cond.selects RX0 yX0_settleEdge yX0_settleEdge ∈ gtbl := gtbl_in (i := 511) (by decide +kernel) (by decide +kernel)
theorem co_X0_settleEdge : Cond.code yX0_settleEdge cX0_settleEdge 5 none ∈ gtbl := gtbl_in (i := 512) (by decide +kernel) (by decide +kernel)
theorem ml_X0_77 : Cond.methodLink RX0 77 yX1_hasEdge ∈ gtbl := gtbl_in (i := 513) (by decide +kernel) (by decide +kernel)
theorem ml_X4_60 : Cond.methodLink RX4 60 yX0_settle ∈ gtbl := gtbl_in (i := 514) (by decide +kernel) (by decide +kernel)
theorem im_X0_settle : Cond.instanceMethod yX0_settle ∈ gtbl := gtbl_in (i := 515) (by decide +kernel) (by decide +kernel)
theorem se_X0_settle : Cond.selects RX0 yX0_settle yX0_settle ∈ gtbl := gtbl_in (i := 516) (by decide +kernel) (by decide +kernel)
theorem co_X0_settle : Cond.code yX0_settle cX0_settle 2 none ∈ gtbl := gtbl_in (i := 517) (by decide +kernel) (by decide +kernel)
theorem ml_X0_152 : Cond.methodLink RX0 152 yX0_findAtPlace ∈ gtbl := gtbl_in (i := 518) (by decide +kernel) (by decide +kernel)
theorem ml_X0_155 : Cond.methodLink RX0 155 yX0_findClosing ∈ gtbl := gtbl_in (i := 519) (by decide +kernel) (by decide +kernel)
theorem mn_X0_144 : Cond.methodLinkNest RX0 144 yX6_becomes "RingPuzzle" ∈ lw_tbl := List.mem_of_getElem? (i := 520) (by decide +kernel)
theorem sm_X6_becomes : Cond.static yX6_becomes ∈ gtbl := gtbl_in (i := 521) (by decide +kernel) (by decide +kernel)
theorem co_X6_becomes : Cond.code yX6_becomes cX6_becomes 1 (some .int) ∈ gtbl := gtbl_in (i := 522) (by decide +kernel) (by decide +kernel)
theorem fl_X6_237 : Cond.fieldLink RX6 237 "RingPuzzle" "BECOMES" "[I" ∈ gtbl := gtbl_in (i := 523) (by decide +kernel) (by decide +kernel)
theorem ls_BECOMES : Cond.laysStatic "RingPuzzle" "BECOMES" "[I" ∈ lw_tbl := List.mem_of_getElem? (i := 524) (by decide +kernel)
theorem ml_X0_148 : Cond.methodLink RX0 148 yX0_settleEdge ∈ gtbl := gtbl_in (i := 525) (by decide +kernel) (by decide +kernel)
theorem ml_X4_63 : Cond.methodLink RX4 63 yX0_found ∈ gtbl := gtbl_in (i := 526) (by decide +kernel) (by decide +kernel)
theorem ml_X6_137 : Cond.methodLink RX6 137 yX6_makeFound ∈ gtbl := gtbl_in (i := 527) (by decide +kernel) (by decide +kernel)
theorem im_X6_makeFound : Cond.instanceMethod yX6_makeFound ∈ gtbl := gtbl_in (i := 529) (by decide +kernel) (by decide +kernel)
theorem co_X6_makeFound : Cond.code yX6_makeFound cX6_makeFound 2 none ∈ gtbl := gtbl_in (i := 530) (by decide +kernel) (by decide +kernel)
theorem ml_X6_236 : Cond.methodLink RX6 236 yX0_makeFound ∈ gtbl := gtbl_in (i := 531) (by decide +kernel) (by decide +kernel)
theorem im_X0_makeFound : Cond.instanceMethod yX0_makeFound ∈ gtbl := gtbl_in (i := 532) (by decide +kernel) (by decide +kernel)
theorem se_X0_makeFound : Cond.selects RX0 yX0_makeFound yX0_makeFound ∈ gtbl := gtbl_in (i := 533) (by decide +kernel) (by decide +kernel)
theorem co_X0_makeFound : Cond.code yX0_makeFound cX0_makeFound 1 none ∈ gtbl := gtbl_in (i := 534) (by decide +kernel) (by decide +kernel)
theorem ml_L_48 : Cond.methodLink RL 48 yX6_deduceAll ∈ gtbl := gtbl_in (i := 535) (by decide +kernel) (by decide +kernel)
theorem im_X6_deduceAll : Cond.instanceMethod yX6_deduceAll ∈ gtbl := gtbl_in (i := 536) (by decide +kernel) (by decide +kernel)
theorem se_X6_deduceAll : Cond.selects RX6 yX6_deduceAll yX6_deduceAll ∈ gtbl := gtbl_in (i := 537) (by decide +kernel) (by decide +kernel)
theorem co_X6_deduceAll : Cond.code yX6_deduceAll cX6_deduceAll 3 (some .int) ∈ gtbl := gtbl_in (i := 538) (by decide +kernel) (by decide +kernel)
theorem ml_L_52 : Cond.methodLink RL 52 yX6_undo ∈ gtbl := gtbl_in (i := 539) (by decide +kernel) (by decide +kernel)
theorem im_X6_undo : Cond.instanceMethod yX6_undo ∈ gtbl := gtbl_in (i := 540) (by decide +kernel) (by decide +kernel)
theorem se_X6_undo : Cond.selects RX6 yX6_undo yX6_undo ∈ gtbl := gtbl_in (i := 541) (by decide +kernel) (by decide +kernel)
theorem co_X6_undo : Cond.code yX6_undo cX6_undo 1 (some .int) ∈ gtbl := gtbl_in (i := 542) (by decide +kernel) (by decide +kernel)
theorem ml_X6_146 : Cond.methodLink RX6 146 yX2_restore ∈ gtbl := gtbl_in (i := 543) (by decide +kernel) (by decide +kernel)
theorem im_X2_restore : Cond.instanceMethod yX2_restore ∈ gtbl := gtbl_in (i := 544) (by decide +kernel) (by decide +kernel)
theorem se_X2_restore : Cond.selects RX2 yX2_restore yX2_restore ∈ gtbl := gtbl_in (i := 545) (by decide +kernel) (by decide +kernel)
theorem co_X2_restore : Cond.code yX2_restore cX2_restore 6 none ∈ gtbl := gtbl_in (i := 546) (by decide +kernel) (by decide +kernel)
theorem ml_X2_63 : Cond.methodLink RX2 63 yX1_lay ∈ gtbl := gtbl_in (i := 547) (by decide +kernel) (by decide +kernel)
theorem ml_X2_67 : Cond.methodLink RX2 67 yX0_begin ∈ gtbl := gtbl_in (i := 548) (by decide +kernel) (by decide +kernel)
theorem ml_X2_71 : Cond.methodLink RX2 71 yJ9_max_7cf53 ∈ gtbl := gtbl_in (i := 549) (by decide +kernel) (by decide +kernel)
theorem ml_L_56 : Cond.methodLink RL 56 yX6_countOf ∈ gtbl := gtbl_in (i := 550) (by decide +kernel) (by decide +kernel)
theorem im_X6_countOf : Cond.instanceMethod yX6_countOf ∈ gtbl := gtbl_in (i := 551) (by decide +kernel) (by decide +kernel)
theorem se_X6_countOf : Cond.selects RX6 yX6_countOf yX6_countOf ∈ gtbl := gtbl_in (i := 552) (by decide +kernel) (by decide +kernel)
theorem co_X6_countOf : Cond.code yX6_countOf cX6_countOf 2 (some .int) ∈ gtbl := gtbl_in (i := 553) (by decide +kernel) (by decide +kernel)
theorem ml_L_60 : Cond.methodLink RL 60 yX6_edge ∈ gtbl := gtbl_in (i := 554) (by decide +kernel) (by decide +kernel)
theorem im_X6_edge : Cond.instanceMethod yX6_edge ∈ gtbl := gtbl_in (i := 555) (by decide +kernel) (by decide +kernel)
theorem se_X6_edge : Cond.selects RX6 yX6_edge yX6_edge ∈ gtbl := gtbl_in (i := 556) (by decide +kernel) (by decide +kernel)
theorem co_X6_edge : Cond.code yX6_edge cX6_edge 2 (some .int) ∈ gtbl := gtbl_in (i := 557) (by decide +kernel) (by decide +kernel)
theorem ml_L_64 : Cond.methodLink RL 64 yX6_edgeAt ∈ gtbl := gtbl_in (i := 558) (by decide +kernel) (by decide +kernel)
theorem im_X6_edgeAt : Cond.instanceMethod yX6_edgeAt ∈ gtbl := gtbl_in (i := 559) (by decide +kernel) (by decide +kernel)
theorem se_X6_edgeAt : Cond.selects RX6 yX6_edgeAt yX6_edgeAt ∈ gtbl := gtbl_in (i := 560) (by decide +kernel) (by decide +kernel)
theorem co_X6_edgeAt : Cond.code yX6_edgeAt cX6_edgeAt 8 (some .int) ∈ gtbl := gtbl_in (i := 561) (by decide +kernel) (by decide +kernel)
theorem ml_X6_149 : Cond.methodLink RX6 149 yX1_hasCorner ∈ gtbl := gtbl_in (i := 562) (by decide +kernel) (by decide +kernel)
theorem ml_X6_159 : Cond.methodLink RX6 159 yX6_leastOf ∈ gtbl := gtbl_in (i := 563) (by decide +kernel) (by decide +kernel)
theorem ml_L_69 : Cond.methodLink RL 69 yX6_misfit ∈ gtbl := gtbl_in (i := 564) (by decide +kernel) (by decide +kernel)
theorem im_X6_misfit : Cond.instanceMethod yX6_misfit ∈ gtbl := gtbl_in (i := 565) (by decide +kernel) (by decide +kernel)
theorem se_X6_misfit : Cond.selects RX6 yX6_misfit yX6_misfit ∈ gtbl := gtbl_in (i := 566) (by decide +kernel) (by decide +kernel)
theorem co_X6_misfit : Cond.code yX6_misfit cX6_misfit 2 (some .int) ∈ gtbl := gtbl_in (i := 567) (by decide +kernel) (by decide +kernel)
theorem ml_X6_171 : Cond.methodLink RX6 171 yX0_finished ∈ gtbl := gtbl_in (i := 568) (by decide +kernel) (by decide +kernel)
theorem im_X0_finished : Cond.instanceMethod yX0_finished ∈ gtbl := gtbl_in (i := 569) (by decide +kernel) (by decide +kernel)
theorem se_X0_finished : Cond.selects RX0 yX0_finished yX0_finished ∈ gtbl := gtbl_in (i := 570) (by decide +kernel) (by decide +kernel)
theorem co_X0_finished : Cond.code yX0_finished cX0_finished 1 (some .boolean) ∈ gtbl := gtbl_in (i := 571) (by decide +kernel) (by decide +kernel)
theorem ml_L_73 : Cond.methodLink RL 73 yX6_hint ∈ gtbl := gtbl_in (i := 572) (by decide +kernel) (by decide +kernel)
theorem im_X6_hint : Cond.instanceMethod yX6_hint ∈ gtbl := gtbl_in (i := 573) (by decide +kernel) (by decide +kernel)
theorem se_X6_hint : Cond.selects RX6 yX6_hint yX6_hint ∈ gtbl := gtbl_in (i := 574) (by decide +kernel) (by decide +kernel)
theorem co_X6_hint : Cond.code yX6_hint cX6_hint 2 (some .int) ∈ gtbl := gtbl_in (i := 575) (by decide +kernel) (by decide +kernel)
theorem ml_X6_174 : Cond.methodLink RX6 174 yX6_foundPart ∈ gtbl := gtbl_in (i := 576) (by decide +kernel) (by decide +kernel)
theorem im_X6_foundPart : Cond.instanceMethod yX6_foundPart ∈ gtbl := gtbl_in (i := 578) (by decide +kernel) (by decide +kernel)
theorem co_X6_foundPart : Cond.code yX6_foundPart cX6_foundPart 2 (some .int) ∈ gtbl := gtbl_in (i := 579) (by decide +kernel) (by decide +kernel)
theorem ml_X6_230 : Cond.methodLink RX6 230 yX6_becomes ∈ gtbl := gtbl_in (i := 580) (by decide +kernel) (by decide +kernel)
theorem ml_L_77 : Cond.methodLink RL 77 yX6_way ∈ gtbl := gtbl_in (i := 581) (by decide +kernel) (by decide +kernel)
theorem im_X6_way : Cond.instanceMethod yX6_way ∈ gtbl := gtbl_in (i := 582) (by decide +kernel) (by decide +kernel)
theorem se_X6_way : Cond.selects RX6 yX6_way yX6_way ∈ gtbl := gtbl_in (i := 583) (by decide +kernel) (by decide +kernel)
theorem co_X6_way : Cond.code yX6_way cX6_way 5 (some .int) ∈ gtbl := gtbl_in (i := 584) (by decide +kernel) (by decide +kernel)
theorem ml_X6_177 : Cond.methodLink RX6 177 yX0_wayOf ∈ gtbl := gtbl_in (i := 585) (by decide +kernel) (by decide +kernel)
theorem ml_X6_181 : Cond.methodLink RX6 181 yX0_isRing ∈ gtbl := gtbl_in (i := 586) (by decide +kernel) (by decide +kernel)
theorem ml_L_81 : Cond.methodLink RL 81 yX6_solutions ∈ gtbl := gtbl_in (i := 587) (by decide +kernel) (by decide +kernel)
theorem im_X6_solutions : Cond.instanceMethod yX6_solutions ∈ gtbl := gtbl_in (i := 588) (by decide +kernel) (by decide +kernel)
theorem se_X6_solutions : Cond.selects RX6 yX6_solutions yX6_solutions ∈ gtbl := gtbl_in (i := 589) (by decide +kernel) (by decide +kernel)
theorem co_X6_solutions : Cond.code yX6_solutions cX6_solutions 2 (some .int) ∈ gtbl := gtbl_in (i := 590) (by decide +kernel) (by decide +kernel)
theorem ml_X6_185 : Cond.methodLink RX6 185 yX3_run ∈ gtbl := gtbl_in (i := 591) (by decide +kernel) (by decide +kernel)
theorem im_X3_run : Cond.instanceMethod yX3_run ∈ gtbl := gtbl_in (i := 592) (by decide +kernel) (by decide +kernel)
theorem se_X3_run : Cond.selects RX3 yX3_run yX3_run ∈ gtbl := gtbl_in (i := 593) (by decide +kernel) (by decide +kernel)
theorem co_X3_run : Cond.code yX3_run cX3_run 4 none ∈ gtbl := gtbl_in (i := 594) (by decide +kernel) (by decide +kernel)
theorem ml_X3_47 : Cond.methodLink RX3 47 yX3_push ∈ gtbl := gtbl_in (i := 595) (by decide +kernel) (by decide +kernel)
theorem im_X3_push : Cond.instanceMethod yX3_push ∈ gtbl := gtbl_in (i := 597) (by decide +kernel) (by decide +kernel)
theorem co_X3_push : Cond.code yX3_push cX3_push 5 none ∈ gtbl := gtbl_in (i := 598) (by decide +kernel) (by decide +kernel)
theorem ml_X3_51 : Cond.methodLink RX3 51 yX0_begin ∈ gtbl := gtbl_in (i := 599) (by decide +kernel) (by decide +kernel)
theorem ml_X3_54 : Cond.methodLink RX3 54 yX0_settle ∈ gtbl := gtbl_in (i := 600) (by decide +kernel) (by decide +kernel)
theorem ml_X3_57 : Cond.methodLink RX3 57 yX3_goOn ∈ gtbl := gtbl_in (i := 601) (by decide +kernel) (by decide +kernel)
theorem im_X3_goOn : Cond.instanceMethod yX3_goOn ∈ gtbl := gtbl_in (i := 603) (by decide +kernel) (by decide +kernel)
theorem co_X3_goOn : Cond.code yX3_goOn cX3_goOn 3 none ∈ gtbl := gtbl_in (i := 604) (by decide +kernel) (by decide +kernel)
theorem ml_X3_64 : Cond.methodLink RX3 64 yX0_fits ∈ gtbl := gtbl_in (i := 605) (by decide +kernel) (by decide +kernel)
theorem ml_X3_68 : Cond.methodLink RX3 68 yX0_finished ∈ gtbl := gtbl_in (i := 606) (by decide +kernel) (by decide +kernel)
theorem kl_X3_71 : Cond.constantLong RX3 71 (-1) ∈ gtbl := gtbl_in (i := 607) (by decide +kernel) (by decide +kernel)
theorem ml_L_85 : Cond.methodLink RL 85 yX6_nodes ∈ gtbl := gtbl_in (i := 608) (by decide +kernel) (by decide +kernel)
theorem im_X6_nodes : Cond.instanceMethod yX6_nodes ∈ gtbl := gtbl_in (i := 609) (by decide +kernel) (by decide +kernel)
theorem se_X6_nodes : Cond.selects RX6 yX6_nodes yX6_nodes ∈ gtbl := gtbl_in (i := 610) (by decide +kernel) (by decide +kernel)
theorem co_X6_nodes : Cond.code yX6_nodes cX6_nodes 2 (some .int) ∈ gtbl := gtbl_in (i := 611) (by decide +kernel) (by decide +kernel)
theorem ml_X6_192 : Cond.methodLink RX6 192 yX3_nodesTold ∈ gtbl := gtbl_in (i := 612) (by decide +kernel) (by decide +kernel)
theorem im_X3_nodesTold : Cond.instanceMethod yX3_nodesTold ∈ gtbl := gtbl_in (i := 613) (by decide +kernel) (by decide +kernel)
theorem se_X3_nodesTold : Cond.selects RX3 yX3_nodesTold yX3_nodesTold ∈ gtbl := gtbl_in (i := 614) (by decide +kernel) (by decide +kernel)
theorem co_X3_nodesTold : Cond.code yX3_nodesTold cX3_nodesTold 1 (some .int) ∈ gtbl := gtbl_in (i := 615) (by decide +kernel) (by decide +kernel)
theorem ml_L_89 : Cond.methodLink RL 89 yX6_solved ∈ gtbl := gtbl_in (i := 616) (by decide +kernel) (by decide +kernel)
theorem im_X6_solved : Cond.instanceMethod yX6_solved ∈ gtbl := gtbl_in (i := 617) (by decide +kernel) (by decide +kernel)
theorem se_X6_solved : Cond.selects RX6 yX6_solved yX6_solved ∈ gtbl := gtbl_in (i := 618) (by decide +kernel) (by decide +kernel)
theorem co_X6_solved : Cond.code yX6_solved cX6_solved 2 (some .int) ∈ gtbl := gtbl_in (i := 619) (by decide +kernel) (by decide +kernel)
theorem ml_L_93 : Cond.methodLink RL 93 yX6_grade ∈ gtbl := gtbl_in (i := 620) (by decide +kernel) (by decide +kernel)
theorem im_X6_grade : Cond.instanceMethod yX6_grade ∈ gtbl := gtbl_in (i := 621) (by decide +kernel) (by decide +kernel)
theorem se_X6_grade : Cond.selects RX6 yX6_grade yX6_grade ∈ gtbl := gtbl_in (i := 622) (by decide +kernel) (by decide +kernel)
theorem co_X6_grade : Cond.code yX6_grade cX6_grade 1 (some .int) ∈ gtbl := gtbl_in (i := 623) (by decide +kernel) (by decide +kernel)
theorem ml_X6_198 : Cond.methodLink RX6 198 yX4_greatestGrade ∈ gtbl := gtbl_in (i := 624) (by decide +kernel) (by decide +kernel)
theorem im_X4_greatestGrade : Cond.instanceMethod yX4_greatestGrade ∈ gtbl := gtbl_in (i := 625) (by decide +kernel) (by decide +kernel)
theorem se_X4_greatestGrade : Cond.selects RX4 yX4_greatestGrade yX4_greatestGrade ∈ gtbl := gtbl_in (i := 626) (by decide +kernel) (by decide +kernel)
theorem co_X4_greatestGrade : Cond.code yX4_greatestGrade cX4_greatestGrade 3 (some .int) ∈ gtbl := gtbl_in (i := 627) (by decide +kernel) (by decide +kernel)
theorem ml_X4_67 : Cond.methodLink RX4 67 yX1_allEdges ∈ gtbl := gtbl_in (i := 628) (by decide +kernel) (by decide +kernel)
theorem ml_X4_71 : Cond.methodLink RX4 71 yX0_begin ∈ gtbl := gtbl_in (i := 629) (by decide +kernel) (by decide +kernel)
theorem ml_X4_75 : Cond.methodLink RX4 75 yX4_findNext ∈ gtbl := gtbl_in (i := 630) (by decide +kernel) (by decide +kernel)
theorem mn_X4_82 : Cond.methodLinkNest RX4 82 yX6_gradeOf "RingPuzzle" ∈ lw_tbl := List.mem_of_getElem? (i := 631) (by decide +kernel)
theorem sm_X6_gradeOf : Cond.static yX6_gradeOf ∈ gtbl := gtbl_in (i := 632) (by decide +kernel) (by decide +kernel)
theorem co_X6_gradeOf : Cond.code yX6_gradeOf cX6_gradeOf 1 (some .int) ∈ gtbl := gtbl_in (i := 633) (by decide +kernel) (by decide +kernel)
theorem fl_X6_240 : Cond.fieldLink RX6 240 "RingPuzzle" "GRADES" "[I" ∈ gtbl := gtbl_in (i := 634) (by decide +kernel) (by decide +kernel)
theorem ls_GRADES : Cond.laysStatic "RingPuzzle" "GRADES" "[I" ∈ lw_tbl := List.mem_of_getElem? (i := 635) (by decide +kernel)
theorem ml_X4_85 : Cond.methodLink RX4 85 yJ9_max_7cf53 ∈ gtbl := gtbl_in (i := 636) (by decide +kernel) (by decide +kernel)
theorem ml_X4_91 : Cond.methodLink RX4 91 yX0_makeFound ∈ gtbl := gtbl_in (i := 637) (by decide +kernel) (by decide +kernel)
theorem ml_X4_94 : Cond.methodLink RX4 94 yX0_finished ∈ gtbl := gtbl_in (i := 638) (by decide +kernel) (by decide +kernel)
theorem ml_L_97 : Cond.methodLink RL 97 yX6_count ∈ gtbl := gtbl_in (i := 639) (by decide +kernel) (by decide +kernel)
theorem im_X6_count : Cond.instanceMethod yX6_count ∈ gtbl := gtbl_in (i := 640) (by decide +kernel) (by decide +kernel)
theorem se_X6_count : Cond.selects RX6 yX6_count yX6_count ∈ gtbl := gtbl_in (i := 641) (by decide +kernel) (by decide +kernel)
theorem co_X6_count : Cond.code yX6_count cX6_count 2 (some .int) ∈ gtbl := gtbl_in (i := 642) (by decide +kernel) (by decide +kernel)
theorem ml_X6_207 : Cond.methodLink RX6 207 yX1_countedCells ∈ gtbl := gtbl_in (i := 643) (by decide +kernel) (by decide +kernel)
theorem im_X1_countedCells : Cond.instanceMethod yX1_countedCells ∈ gtbl := gtbl_in (i := 644) (by decide +kernel) (by decide +kernel)
theorem se_X1_countedCells : Cond.selects RX1 yX1_countedCells yX1_countedCells ∈ gtbl := gtbl_in (i := 645) (by decide +kernel) (by decide +kernel)
theorem co_X1_countedCells : Cond.code yX1_countedCells cX1_countedCells 3 (some .int) ∈ gtbl := gtbl_in (i := 646) (by decide +kernel) (by decide +kernel)
theorem ml_L_101 : Cond.methodLink RL 101 yX6_digest ∈ gtbl := gtbl_in (i := 647) (by decide +kernel) (by decide +kernel)
theorem im_X6_digest : Cond.instanceMethod yX6_digest ∈ gtbl := gtbl_in (i := 648) (by decide +kernel) (by decide +kernel)
theorem se_X6_digest : Cond.selects RX6 yX6_digest yX6_digest ∈ gtbl := gtbl_in (i := 649) (by decide +kernel) (by decide +kernel)
theorem co_X6_digest : Cond.code yX6_digest cX6_digest 4 (some .long) ∈ gtbl := gtbl_in (i := 650) (by decide +kernel) (by decide +kernel)
theorem kl_X6_210 : Cond.constantLong RX6 210 (157) ∈ gtbl := gtbl_in (i := 651) (by decide +kernel) (by decide +kernel)
theorem kl_X6_212 : Cond.constantLong RX6 212 (31) ∈ gtbl := gtbl_in (i := 652) (by decide +kernel) (by decide +kernel)
theorem ml_X6_214 : Cond.methodLink RX6 214 yX6_count ∈ gtbl := gtbl_in (i := 653) (by decide +kernel) (by decide +kernel)
theorem ml_X6_217 : Cond.methodLink RX6 217 yX6_misfit ∈ gtbl := gtbl_in (i := 654) (by decide +kernel) (by decide +kernel)
theorem ml_X6_220 : Cond.methodLink RX6 220 yX6_addHints ∈ gtbl := gtbl_in (i := 655) (by decide +kernel) (by decide +kernel)
theorem im_X6_addHints : Cond.instanceMethod yX6_addHints ∈ gtbl := gtbl_in (i := 657) (by decide +kernel) (by decide +kernel)
theorem co_X6_addHints : Cond.code yX6_addHints cX6_addHints 9 (some .long) ∈ gtbl := gtbl_in (i := 658) (by decide +kernel) (by decide +kernel)
theorem cl_L_10 : Cond.classLink RL 10 RX7 ∈ gtbl := gtbl_in (i := 659) (by decide +kernel) (by decide +kernel)
theorem ib_X7 : Cond.instantiable RX7 30 ∈ gtbl := gtbl_in (i := 660) (by decide +kernel) (by decide +kernel)
theorem ml_L_12 : Cond.methodLink RL 12 yX7_init ∈ gtbl := gtbl_in (i := 661) (by decide +kernel) (by decide +kernel)
theorem im_X7_init : Cond.instanceMethod yX7_init ∈ gtbl := gtbl_in (i := 662) (by decide +kernel) (by decide +kernel)
theorem co_X7_init : Cond.code yX7_init cX7_init 2 none ∈ gtbl := gtbl_in (i := 663) (by decide +kernel) (by decide +kernel)
theorem ml_X7_1 : Cond.methodLink RX7 1 objectInit ∈ gtbl := gtbl_in (i := 664) (by decide +kernel) (by decide +kernel)
theorem fl_X7_7 : Cond.fieldLink RX7 7 "RingPuzzleModel" "m" "[I" ∈ gtbl := gtbl_in (i := 665) (by decide +kernel) (by decide +kernel)
theorem fl_X7_13 : Cond.fieldLink RX7 13 "RingPuzzleModel" "past" "[I" ∈ gtbl := gtbl_in (i := 666) (by decide +kernel) (by decide +kernel)
theorem fl_X7_44 : Cond.fieldLink RX7 44 "RingPuzzleModel" "undos" "I" ∈ gtbl := gtbl_in (i := 667) (by decide +kernel) (by decide +kernel)
theorem fl_X7_16 : Cond.fieldLink RX7 16 "RingPuzzleModel" "text" "[I" ∈ gtbl := gtbl_in (i := 668) (by decide +kernel) (by decide +kernel)
theorem fl_X7_166 : Cond.fieldLink RX7 166 "RingPuzzleModel" "textLength" "I" ∈ gtbl := gtbl_in (i := 669) (by decide +kernel) (by decide +kernel)
theorem fl_X7_19 : Cond.fieldLink RX7 19 "RingPuzzleModel" "up" "[I" ∈ gtbl := gtbl_in (i := 670) (by decide +kernel) (by decide +kernel)
theorem fl_X7_22 : Cond.fieldLink RX7 22 "RingPuzzleModel" "long0" "[I" ∈ gtbl := gtbl_in (i := 671) (by decide +kernel) (by decide +kernel)
theorem fl_X7_25 : Cond.fieldLink RX7 25 "RingPuzzleModel" "isLoose" "[Z" ∈ gtbl := gtbl_in (i := 672) (by decide +kernel) (by decide +kernel)
theorem fl_X7_66 : Cond.fieldLink RX7 66 "RingPuzzleModel" "drawn" "I" ∈ gtbl := gtbl_in (i := 673) (by decide +kernel) (by decide +kernel)
theorem fl_X7_88 : Cond.fieldLink RX7 88 "RingPuzzleModel" "wrongCell" "I" ∈ gtbl := gtbl_in (i := 674) (by decide +kernel) (by decide +kernel)
theorem fl_X7_91 : Cond.fieldLink RX7 91 "RingPuzzleModel" "wrongCorner" "I" ∈ gtbl := gtbl_in (i := 675) (by decide +kernel) (by decide +kernel)
theorem fl_X7_101 : Cond.fieldLink RX7 101 "RingPuzzleModel" "wrongRing" "I" ∈ gtbl := gtbl_in (i := 676) (by decide +kernel) (by decide +kernel)
theorem fl_X7_97 : Cond.fieldLink RX7 97 "RingPuzzleModel" "hasRing" "Z" ∈ gtbl := gtbl_in (i := 677) (by decide +kernel) (by decide +kernel)
theorem fl_X7_115 : Cond.fieldLink RX7 115 "RingPuzzleModel" "rule" "I" ∈ gtbl := gtbl_in (i := 678) (by decide +kernel) (by decide +kernel)
theorem fl_X7_118 : Cond.fieldLink RX7 118 "RingPuzzleModel" "edge" "I" ∈ gtbl := gtbl_in (i := 679) (by decide +kernel) (by decide +kernel)
theorem fl_X7_121 : Cond.fieldLink RX7 121 "RingPuzzleModel" "becomes" "I" ∈ gtbl := gtbl_in (i := 680) (by decide +kernel) (by decide +kernel)
theorem fl_X7_124 : Cond.fieldLink RX7 124 "RingPuzzleModel" "place" "I" ∈ gtbl := gtbl_in (i := 681) (by decide +kernel) (by decide +kernel)
theorem fl_X7_29 : Cond.fieldLink RX7 29 "RingPuzzleModel" "before" "[I" ∈ gtbl := gtbl_in (i := 682) (by decide +kernel) (by decide +kernel)
theorem fl_X7_32 : Cond.fieldLink RX7 32 "RingPuzzleModel" "read" "[I" ∈ gtbl := gtbl_in (i := 683) (by decide +kernel) (by decide +kernel)
theorem fl_X7_178 : Cond.fieldLink RX7 178 "RingPuzzleModel" "readWidth" "I" ∈ gtbl := gtbl_in (i := 684) (by decide +kernel) (by decide +kernel)
theorem fl_X7_175 : Cond.fieldLink RX7 175 "RingPuzzleModel" "readHeight" "I" ∈ gtbl := gtbl_in (i := 685) (by decide +kernel) (by decide +kernel)
theorem fl_X7_169 : Cond.fieldLink RX7 169 "RingPuzzleModel" "at" "I" ∈ gtbl := gtbl_in (i := 686) (by decide +kernel) (by decide +kernel)
theorem fl_X7_181 : Cond.fieldLink RX7 181 "RingPuzzleModel" "fault" "I" ∈ gtbl := gtbl_in (i := 687) (by decide +kernel) (by decide +kernel)
theorem fl_X7_35 : Cond.fieldLink RX7 35 "RingPuzzleModel" "kept" "[I" ∈ gtbl := gtbl_in (i := 688) (by decide +kernel) (by decide +kernel)
theorem fl_X7_38 : Cond.fieldLink RX7 38 "RingPuzzleModel" "present" "[I" ∈ gtbl := gtbl_in (i := 689) (by decide +kernel) (by decide +kernel)
theorem fl_X7_41 : Cond.fieldLink RX7 41 "RingPuzzleModel" "first" "[I" ∈ gtbl := gtbl_in (i := 690) (by decide +kernel) (by decide +kernel)
theorem fl_X7_202 : Cond.fieldLink RX7 202 "RingPuzzleModel" "looked" "I" ∈ gtbl := gtbl_in (i := 691) (by decide +kernel) (by decide +kernel)
theorem fl_X7_199 : Cond.fieldLink RX7 199 "RingPuzzleModel" "found" "I" ∈ gtbl := gtbl_in (i := 692) (by decide +kernel) (by decide +kernel)
theorem fl_X7_205 : Cond.fieldLink RX7 205 "RingPuzzleModel" "isCut" "Z" ∈ gtbl := gtbl_in (i := 693) (by decide +kernel) (by decide +kernel)
theorem fl_X7_229 : Cond.fieldLink RX7 229 "RingPuzzleModel" "hash" "J" ∈ gtbl := gtbl_in (i := 694) (by decide +kernel) (by decide +kernel)
theorem ac_boolean : Cond.arrayClass .boolean ∈ gtbl := gtbl_in (i := 756) (by decide +kernel) (by decide +kernel)
theorem ml_L_55 : Cond.methodLink RL 55 yX7_undo ∈ gtbl := gtbl_in (i := 757) (by decide +kernel) (by decide +kernel)
theorem im_X7_undo : Cond.instanceMethod yX7_undo ∈ gtbl := gtbl_in (i := 758) (by decide +kernel) (by decide +kernel)
theorem se_X7_undo : Cond.selects RX7 yX7_undo yX7_undo ∈ gtbl := gtbl_in (i := 759) (by decide +kernel) (by decide +kernel)
theorem co_X7_undo : Cond.code yX7_undo cX7_undo 2 (some .int) ∈ gtbl := gtbl_in (i := 760) (by decide +kernel) (by decide +kernel)
theorem ml_L_17 : Cond.methodLink RL 17 yX7_type ∈ gtbl := gtbl_in (i := 761) (by decide +kernel) (by decide +kernel)
theorem im_X7_type : Cond.instanceMethod yX7_type ∈ gtbl := gtbl_in (i := 762) (by decide +kernel) (by decide +kernel)
theorem se_X7_type : Cond.selects RX7 yX7_type yX7_type ∈ gtbl := gtbl_in (i := 763) (by decide +kernel) (by decide +kernel)
theorem co_X7_type : Cond.code yX7_type cX7_type 2 (some .int) ∈ gtbl := gtbl_in (i := 764) (by decide +kernel) (by decide +kernel)
theorem ml_X7_162 : Cond.methodLink RX7 162 yX7_in ∈ gtbl := gtbl_in (i := 765) (by decide +kernel) (by decide +kernel)
theorem sm_X7_in : Cond.static yX7_in ∈ gtbl := gtbl_in (i := 766) (by decide +kernel) (by decide +kernel)
theorem co_X7_in : Cond.code yX7_in cX7_in 3 (some .boolean) ∈ gtbl := gtbl_in (i := 767) (by decide +kernel) (by decide +kernel)
theorem ml_L_22 : Cond.methodLink RL 22 yX7_clearText ∈ gtbl := gtbl_in (i := 768) (by decide +kernel) (by decide +kernel)
theorem im_X7_clearText : Cond.instanceMethod yX7_clearText ∈ gtbl := gtbl_in (i := 769) (by decide +kernel) (by decide +kernel)
theorem se_X7_clearText : Cond.selects RX7 yX7_clearText yX7_clearText ∈ gtbl := gtbl_in (i := 770) (by decide +kernel) (by decide +kernel)
theorem co_X7_clearText : Cond.code yX7_clearText cX7_clearText 2 (some .int) ∈ gtbl := gtbl_in (i := 771) (by decide +kernel) (by decide +kernel)
theorem ml_L_26 : Cond.methodLink RL 26 yX7_fault ∈ gtbl := gtbl_in (i := 772) (by decide +kernel) (by decide +kernel)
theorem im_X7_fault : Cond.instanceMethod yX7_fault ∈ gtbl := gtbl_in (i := 773) (by decide +kernel) (by decide +kernel)
theorem se_X7_fault : Cond.selects RX7 yX7_fault yX7_fault ∈ gtbl := gtbl_in (i := 774) (by decide +kernel) (by decide +kernel)
theorem co_X7_fault : Cond.code yX7_fault cX7_fault 1 (some .int) ∈ gtbl := gtbl_in (i := 775) (by decide +kernel) (by decide +kernel)
theorem ml_X7_187 : Cond.methodLink RX7 187 yX7_reads ∈ gtbl := gtbl_in (i := 776) (by decide +kernel) (by decide +kernel)
theorem im_X7_reads : Cond.instanceMethod yX7_reads ∈ gtbl := gtbl_in (i := 778) (by decide +kernel) (by decide +kernel)
theorem co_X7_reads : Cond.code yX7_reads cX7_reads 3 none ∈ gtbl := gtbl_in (i := 779) (by decide +kernel) (by decide +kernel)
theorem ml_X7_184 : Cond.methodLink RX7 184 yX7_readsRow ∈ gtbl := gtbl_in (i := 780) (by decide +kernel) (by decide +kernel)
theorem im_X7_readsRow : Cond.instanceMethod yX7_readsRow ∈ gtbl := gtbl_in (i := 782) (by decide +kernel) (by decide +kernel)
theorem co_X7_readsRow : Cond.code yX7_readsRow cX7_readsRow 4 (some .boolean) ∈ gtbl := gtbl_in (i := 783) (by decide +kernel) (by decide +kernel)
theorem ml_X7_172 : Cond.methodLink RX7 172 yX7_next ∈ gtbl := gtbl_in (i := 784) (by decide +kernel) (by decide +kernel)
theorem im_X7_next : Cond.instanceMethod yX7_next ∈ gtbl := gtbl_in (i := 786) (by decide +kernel) (by decide +kernel)
theorem co_X7_next : Cond.code yX7_next cX7_next 1 (some .int) ∈ gtbl := gtbl_in (i := 787) (by decide +kernel) (by decide +kernel)
theorem ml_L_30 : Cond.methodLink RL 30 yX7_setPuzzle ∈ gtbl := gtbl_in (i := 788) (by decide +kernel) (by decide +kernel)
theorem im_X7_setPuzzle : Cond.instanceMethod yX7_setPuzzle ∈ gtbl := gtbl_in (i := 789) (by decide +kernel) (by decide +kernel)
theorem se_X7_setPuzzle : Cond.selects RX7 yX7_setPuzzle yX7_setPuzzle ∈ gtbl := gtbl_in (i := 790) (by decide +kernel) (by decide +kernel)
theorem co_X7_setPuzzle : Cond.code yX7_setPuzzle cX7_setPuzzle 2 (some .int) ∈ gtbl := gtbl_in (i := 791) (by decide +kernel) (by decide +kernel)
theorem ml_X7_190 : Cond.methodLink RX7 190 yX7_keeps ∈ gtbl := gtbl_in (i := 792) (by decide +kernel) (by decide +kernel)
theorem im_X7_keeps : Cond.instanceMethod yX7_keeps ∈ gtbl := gtbl_in (i := 794) (by decide +kernel) (by decide +kernel)
theorem co_X7_keeps : Cond.code yX7_keeps cX7_keeps 2 none ∈ gtbl := gtbl_in (i := 795) (by decide +kernel) (by decide +kernel)
theorem ml_X7_82 : Cond.methodLink RX7 82 yX7_cells ∈ gtbl := gtbl_in (i := 796) (by decide +kernel) (by decide +kernel)
theorem im_X7_cells : Cond.instanceMethod yX7_cells ∈ gtbl := gtbl_in (i := 798) (by decide +kernel) (by decide +kernel)
theorem co_X7_cells : Cond.code yX7_cells cX7_cells 1 (some .int) ∈ gtbl := gtbl_in (i := 799) (by decide +kernel) (by decide +kernel)
theorem ml_X7_69 : Cond.methodLink RX7 69 yX7_edges ∈ gtbl := gtbl_in (i := 800) (by decide +kernel) (by decide +kernel)
theorem im_X7_edges : Cond.instanceMethod yX7_edges ∈ gtbl := gtbl_in (i := 802) (by decide +kernel) (by decide +kernel)
theorem co_X7_edges : Cond.code yX7_edges cX7_edges 1 (some .int) ∈ gtbl := gtbl_in (i := 803) (by decide +kernel) (by decide +kernel)
theorem ml_X7_48 : Cond.methodLink RX7 48 yX7_vertical ∈ gtbl := gtbl_in (i := 804) (by decide +kernel) (by decide +kernel)
theorem im_X7_vertical : Cond.instanceMethod yX7_vertical ∈ gtbl := gtbl_in (i := 806) (by decide +kernel) (by decide +kernel)
theorem co_X7_vertical : Cond.code yX7_vertical cX7_vertical 1 (some .int) ∈ gtbl := gtbl_in (i := 807) (by decide +kernel) (by decide +kernel)
theorem ml_L_35 : Cond.methodLink RL 35 yX7_setCount ∈ gtbl := gtbl_in (i := 808) (by decide +kernel) (by decide +kernel)
theorem im_X7_setCount : Cond.instanceMethod yX7_setCount ∈ gtbl := gtbl_in (i := 809) (by decide +kernel) (by decide +kernel)
theorem se_X7_setCount : Cond.selects RX7 yX7_setCount yX7_setCount ∈ gtbl := gtbl_in (i := 810) (by decide +kernel) (by decide +kernel)
theorem co_X7_setCount : Cond.code yX7_setCount cX7_setCount 4 (some .int) ∈ gtbl := gtbl_in (i := 811) (by decide +kernel) (by decide +kernel)
theorem ml_L_39 : Cond.methodLink RL 39 yX7_mark ∈ gtbl := gtbl_in (i := 812) (by decide +kernel) (by decide +kernel)
theorem im_X7_mark : Cond.instanceMethod yX7_mark ∈ gtbl := gtbl_in (i := 813) (by decide +kernel) (by decide +kernel)
theorem se_X7_mark : Cond.selects RX7 yX7_mark yX7_mark ∈ gtbl := gtbl_in (i := 814) (by decide +kernel) (by decide +kernel)
theorem co_X7_mark : Cond.code yX7_mark cX7_mark 4 (some .int) ∈ gtbl := gtbl_in (i := 815) (by decide +kernel) (by decide +kernel)
theorem ml_X7_56 : Cond.methodLink RX7 56 yX7_markOf ∈ gtbl := gtbl_in (i := 816) (by decide +kernel) (by decide +kernel)
theorem im_X7_markOf : Cond.instanceMethod yX7_markOf ∈ gtbl := gtbl_in (i := 818) (by decide +kernel) (by decide +kernel)
theorem co_X7_markOf : Cond.code yX7_markOf cX7_markOf 2 (some .int) ∈ gtbl := gtbl_in (i := 819) (by decide +kernel) (by decide +kernel)
theorem ml_L_43 : Cond.methodLink RL 43 yX7_wipe ∈ gtbl := gtbl_in (i := 820) (by decide +kernel) (by decide +kernel)
theorem im_X7_wipe : Cond.instanceMethod yX7_wipe ∈ gtbl := gtbl_in (i := 821) (by decide +kernel) (by decide +kernel)
theorem se_X7_wipe : Cond.selects RX7 yX7_wipe yX7_wipe ∈ gtbl := gtbl_in (i := 822) (by decide +kernel) (by decide +kernel)
theorem co_X7_wipe : Cond.code yX7_wipe cX7_wipe 3 (some .int) ∈ gtbl := gtbl_in (i := 823) (by decide +kernel) (by decide +kernel)
theorem ml_X7_193 : Cond.methodLink RX7 193 yX7_marked ∈ gtbl := gtbl_in (i := 824) (by decide +kernel) (by decide +kernel)
theorem im_X7_marked : Cond.instanceMethod yX7_marked ∈ gtbl := gtbl_in (i := 826) (by decide +kernel) (by decide +kernel)
theorem co_X7_marked : Cond.code yX7_marked cX7_marked 4 (some .int) ∈ gtbl := gtbl_in (i := 827) (by decide +kernel) (by decide +kernel)
theorem ml_L_47 : Cond.methodLink RL 47 yX7_deduce ∈ gtbl := gtbl_in (i := 828) (by decide +kernel) (by decide +kernel)
theorem im_X7_deduce : Cond.instanceMethod yX7_deduce ∈ gtbl := gtbl_in (i := 829) (by decide +kernel) (by decide +kernel)
theorem se_X7_deduce : Cond.selects RX7 yX7_deduce yX7_deduce ∈ gtbl := gtbl_in (i := 830) (by decide +kernel) (by decide +kernel)
theorem co_X7_deduce : Cond.code yX7_deduce cX7_deduce 1 (some .int) ∈ gtbl := gtbl_in (i := 831) (by decide +kernel) (by decide +kernel)
theorem ml_X7_137 : Cond.methodLink RX7 137 yX7_fits ∈ gtbl := gtbl_in (i := 832) (by decide +kernel) (by decide +kernel)
theorem im_X7_fits : Cond.instanceMethod yX7_fits ∈ gtbl := gtbl_in (i := 834) (by decide +kernel) (by decide +kernel)
theorem co_X7_fits : Cond.code yX7_fits cX7_fits 1 (some .boolean) ∈ gtbl := gtbl_in (i := 835) (by decide +kernel) (by decide +kernel)
theorem ml_X7_112 : Cond.methodLink RX7 112 yX7_looks ∈ gtbl := gtbl_in (i := 836) (by decide +kernel) (by decide +kernel)
theorem im_X7_looks : Cond.instanceMethod yX7_looks ∈ gtbl := gtbl_in (i := 838) (by decide +kernel) (by decide +kernel)
theorem co_X7_looks : Cond.code yX7_looks cX7_looks 4 none ∈ gtbl := gtbl_in (i := 839) (by decide +kernel) (by decide +kernel)
theorem ml_X7_85 : Cond.methodLink RX7 85 yX7_aroundWith ∈ gtbl := gtbl_in (i := 840) (by decide +kernel) (by decide +kernel)
theorem im_X7_aroundWith : Cond.instanceMethod yX7_aroundWith ∈ gtbl := gtbl_in (i := 842) (by decide +kernel) (by decide +kernel)
theorem co_X7_aroundWith : Cond.code yX7_aroundWith cX7_aroundWith 5 (some .int) ∈ gtbl := gtbl_in (i := 843) (by decide +kernel) (by decide +kernel)
theorem ml_X7_52 : Cond.methodLink RX7 52 yX7_aroundCell ∈ gtbl := gtbl_in (i := 844) (by decide +kernel) (by decide +kernel)
theorem im_X7_aroundCell : Cond.instanceMethod yX7_aroundCell ∈ gtbl := gtbl_in (i := 846) (by decide +kernel) (by decide +kernel)
theorem co_X7_aroundCell : Cond.code yX7_aroundCell cX7_aroundCell 5 (some .int) ∈ gtbl := gtbl_in (i := 847) (by decide +kernel) (by decide +kernel)
theorem ml_X7_63 : Cond.methodLink RX7 63 yX7_corners ∈ gtbl := gtbl_in (i := 848) (by decide +kernel) (by decide +kernel)
theorem im_X7_corners : Cond.instanceMethod yX7_corners ∈ gtbl := gtbl_in (i := 850) (by decide +kernel) (by decide +kernel)
theorem co_X7_corners : Cond.code yX7_corners cX7_corners 1 (some .int) ∈ gtbl := gtbl_in (i := 851) (by decide +kernel) (by decide +kernel)
theorem ml_X7_79 : Cond.methodLink RX7 79 yX7_atWith ∈ gtbl := gtbl_in (i := 852) (by decide +kernel) (by decide +kernel)
theorem im_X7_atWith : Cond.instanceMethod yX7_atWith ∈ gtbl := gtbl_in (i := 854) (by decide +kernel) (by decide +kernel)
theorem co_X7_atWith : Cond.code yX7_atWith cX7_atWith 6 (some .int) ∈ gtbl := gtbl_in (i := 855) (by decide +kernel) (by decide +kernel)
theorem ml_X7_60 : Cond.methodLink RX7 60 yX7_toward ∈ gtbl := gtbl_in (i := 856) (by decide +kernel) (by decide +kernel)
theorem im_X7_toward : Cond.instanceMethod yX7_toward ∈ gtbl := gtbl_in (i := 858) (by decide +kernel) (by decide +kernel)
theorem co_X7_toward : Cond.code yX7_toward cX7_toward 5 (some .int) ∈ gtbl := gtbl_in (i := 859) (by decide +kernel) (by decide +kernel)
theorem ml_X7_94 : Cond.methodLink RX7 94 yX7_joins ∈ gtbl := gtbl_in (i := 860) (by decide +kernel) (by decide +kernel)
theorem im_X7_joins : Cond.instanceMethod yX7_joins ∈ gtbl := gtbl_in (i := 862) (by decide +kernel) (by decide +kernel)
theorem co_X7_joins : Cond.code yX7_joins cX7_joins 6 none ∈ gtbl := gtbl_in (i := 863) (by decide +kernel) (by decide +kernel)
theorem ml_X7_72 : Cond.methodLink RX7 72 yX7_end ∈ gtbl := gtbl_in (i := 864) (by decide +kernel) (by decide +kernel)
theorem im_X7_end : Cond.instanceMethod yX7_end ∈ gtbl := gtbl_in (i := 866) (by decide +kernel) (by decide +kernel)
theorem co_X7_end : Cond.code yX7_end cX7_end 4 (some .int) ∈ gtbl := gtbl_in (i := 867) (by decide +kernel) (by decide +kernel)
theorem ml_X7_76 : Cond.methodLink RX7 76 yX7_top ∈ gtbl := gtbl_in (i := 868) (by decide +kernel) (by decide +kernel)
theorem im_X7_top : Cond.instanceMethod yX7_top ∈ gtbl := gtbl_in (i := 870) (by decide +kernel) (by decide +kernel)
theorem co_X7_top : Cond.code yX7_top cX7_top 3 (some .int) ∈ gtbl := gtbl_in (i := 871) (by decide +kernel) (by decide +kernel)
theorem ml_X7_104 : Cond.methodLink RX7 104 yX7_areMet ∈ gtbl := gtbl_in (i := 872) (by decide +kernel) (by decide +kernel)
theorem im_X7_areMet : Cond.instanceMethod yX7_areMet ∈ gtbl := gtbl_in (i := 874) (by decide +kernel) (by decide +kernel)
theorem co_X7_areMet : Cond.code yX7_areMet cX7_areMet 3 (some .boolean) ∈ gtbl := gtbl_in (i := 875) (by decide +kernel) (by decide +kernel)
theorem ml_X7_108 : Cond.methodLink RX7 108 yX7_isRing ∈ gtbl := gtbl_in (i := 876) (by decide +kernel) (by decide +kernel)
theorem im_X7_isRing : Cond.instanceMethod yX7_isRing ∈ gtbl := gtbl_in (i := 878) (by decide +kernel) (by decide +kernel)
theorem co_X7_isRing : Cond.code yX7_isRing cX7_isRing 2 (some .boolean) ∈ gtbl := gtbl_in (i := 879) (by decide +kernel) (by decide +kernel)
theorem ml_X7_196 : Cond.methodLink RX7 196 yX7_findsNext ∈ gtbl := gtbl_in (i := 880) (by decide +kernel) (by decide +kernel)
theorem im_X7_findsNext : Cond.instanceMethod yX7_findsNext ∈ gtbl := gtbl_in (i := 882) (by decide +kernel) (by decide +kernel)
theorem co_X7_findsNext : Cond.code yX7_findsNext cX7_findsNext 2 (some .boolean) ∈ gtbl := gtbl_in (i := 883) (by decide +kernel) (by decide +kernel)
theorem ml_X7_149 : Cond.methodLink RX7 149 yX7_findsPlain ∈ gtbl := gtbl_in (i := 884) (by decide +kernel) (by decide +kernel)
theorem im_X7_findsPlain : Cond.instanceMethod yX7_findsPlain ∈ gtbl := gtbl_in (i := 886) (by decide +kernel) (by decide +kernel)
theorem co_X7_findsPlain : Cond.code yX7_findsPlain cX7_findsPlain 5 (some .boolean) ∈ gtbl := gtbl_in (i := 887) (by decide +kernel) (by decide +kernel)
theorem ml_X7_140 : Cond.methodLink RX7 140 yX7_byCells ∈ gtbl := gtbl_in (i := 888) (by decide +kernel) (by decide +kernel)
theorem im_X7_byCells : Cond.instanceMethod yX7_byCells ∈ gtbl := gtbl_in (i := 890) (by decide +kernel) (by decide +kernel)
theorem co_X7_byCells : Cond.code yX7_byCells cX7_byCells 4 (some .boolean) ∈ gtbl := gtbl_in (i := 891) (by decide +kernel) (by decide +kernel)
theorem ml_X7_127 : Cond.methodLink RX7 127 yX7_openAround ∈ gtbl := gtbl_in (i := 892) (by decide +kernel) (by decide +kernel)
theorem im_X7_openAround : Cond.instanceMethod yX7_openAround ∈ gtbl := gtbl_in (i := 894) (by decide +kernel) (by decide +kernel)
theorem co_X7_openAround : Cond.code yX7_openAround cX7_openAround 3 (some .int) ∈ gtbl := gtbl_in (i := 895) (by decide +kernel) (by decide +kernel)
theorem ml_X7_130 : Cond.methodLink RX7 130 yX7_finds ∈ gtbl := gtbl_in (i := 896) (by decide +kernel) (by decide +kernel)
theorem im_X7_finds : Cond.instanceMethod yX7_finds ∈ gtbl := gtbl_in (i := 898) (by decide +kernel) (by decide +kernel)
theorem co_X7_finds : Cond.code yX7_finds cX7_finds 5 (some .boolean) ∈ gtbl := gtbl_in (i := 899) (by decide +kernel) (by decide +kernel)
theorem ml_X7_143 : Cond.methodLink RX7 143 yX7_byCorners ∈ gtbl := gtbl_in (i := 900) (by decide +kernel) (by decide +kernel)
theorem im_X7_byCorners : Cond.instanceMethod yX7_byCorners ∈ gtbl := gtbl_in (i := 902) (by decide +kernel) (by decide +kernel)
theorem co_X7_byCorners : Cond.code yX7_byCorners cX7_byCorners 6 (some .boolean) ∈ gtbl := gtbl_in (i := 903) (by decide +kernel) (by decide +kernel)
theorem ml_X7_134 : Cond.methodLink RX7 134 yX7_openAt ∈ gtbl := gtbl_in (i := 904) (by decide +kernel) (by decide +kernel)
theorem im_X7_openAt : Cond.instanceMethod yX7_openAt ∈ gtbl := gtbl_in (i := 906) (by decide +kernel) (by decide +kernel)
theorem co_X7_openAt : Cond.code yX7_openAt cX7_openAt 3 (some .int) ∈ gtbl := gtbl_in (i := 907) (by decide +kernel) (by decide +kernel)
theorem ml_X7_146 : Cond.methodLink RX7 146 yX7_byRings ∈ gtbl := gtbl_in (i := 908) (by decide +kernel) (by decide +kernel)
theorem im_X7_byRings : Cond.instanceMethod yX7_byRings ∈ gtbl := gtbl_in (i := 910) (by decide +kernel) (by decide +kernel)
theorem co_X7_byRings : Cond.code yX7_byRings cX7_byRings 3 (some .boolean) ∈ gtbl := gtbl_in (i := 911) (by decide +kernel) (by decide +kernel)
theorem ml_X7_159 : Cond.methodLink RX7 159 yX7_byTrials ∈ gtbl := gtbl_in (i := 912) (by decide +kernel) (by decide +kernel)
theorem im_X7_byTrials : Cond.instanceMethod yX7_byTrials ∈ gtbl := gtbl_in (i := 914) (by decide +kernel) (by decide +kernel)
theorem co_X7_byTrials : Cond.code yX7_byTrials cX7_byTrials 3 (some .boolean) ∈ gtbl := gtbl_in (i := 915) (by decide +kernel) (by decide +kernel)
theorem ml_X7_155 : Cond.methodLink RX7 155 yX7_fails ∈ gtbl := gtbl_in (i := 916) (by decide +kernel) (by decide +kernel)
theorem im_X7_fails : Cond.instanceMethod yX7_fails ∈ gtbl := gtbl_in (i := 918) (by decide +kernel) (by decide +kernel)
theorem co_X7_fails : Cond.code yX7_fails cX7_fails 5 (some .boolean) ∈ gtbl := gtbl_in (i := 919) (by decide +kernel) (by decide +kernel)
theorem ml_X7_152 : Cond.methodLink RX7 152 yX7_makes ∈ gtbl := gtbl_in (i := 920) (by decide +kernel) (by decide +kernel)
theorem im_X7_makes : Cond.instanceMethod yX7_makes ∈ gtbl := gtbl_in (i := 922) (by decide +kernel) (by decide +kernel)
theorem co_X7_makes : Cond.code yX7_makes cX7_makes 1 none ∈ gtbl := gtbl_in (i := 923) (by decide +kernel) (by decide +kernel)
theorem ml_L_51 : Cond.methodLink RL 51 yX7_deduceAll ∈ gtbl := gtbl_in (i := 924) (by decide +kernel) (by decide +kernel)
theorem im_X7_deduceAll : Cond.instanceMethod yX7_deduceAll ∈ gtbl := gtbl_in (i := 925) (by decide +kernel) (by decide +kernel)
theorem se_X7_deduceAll : Cond.selects RX7 yX7_deduceAll yX7_deduceAll ∈ gtbl := gtbl_in (i := 926) (by decide +kernel) (by decide +kernel)
theorem co_X7_deduceAll : Cond.code yX7_deduceAll cX7_deduceAll 3 (some .int) ∈ gtbl := gtbl_in (i := 927) (by decide +kernel) (by decide +kernel)
theorem ml_L_59 : Cond.methodLink RL 59 yX7_countOf ∈ gtbl := gtbl_in (i := 928) (by decide +kernel) (by decide +kernel)
theorem im_X7_countOf : Cond.instanceMethod yX7_countOf ∈ gtbl := gtbl_in (i := 929) (by decide +kernel) (by decide +kernel)
theorem se_X7_countOf : Cond.selects RX7 yX7_countOf yX7_countOf ∈ gtbl := gtbl_in (i := 930) (by decide +kernel) (by decide +kernel)
theorem co_X7_countOf : Cond.code yX7_countOf cX7_countOf 2 (some .int) ∈ gtbl := gtbl_in (i := 931) (by decide +kernel) (by decide +kernel)
theorem ml_L_63 : Cond.methodLink RL 63 yX7_edge ∈ gtbl := gtbl_in (i := 932) (by decide +kernel) (by decide +kernel)
theorem im_X7_edge : Cond.instanceMethod yX7_edge ∈ gtbl := gtbl_in (i := 933) (by decide +kernel) (by decide +kernel)
theorem se_X7_edge : Cond.selects RX7 yX7_edge yX7_edge ∈ gtbl := gtbl_in (i := 934) (by decide +kernel) (by decide +kernel)
theorem co_X7_edge : Cond.code yX7_edge cX7_edge 2 (some .int) ∈ gtbl := gtbl_in (i := 935) (by decide +kernel) (by decide +kernel)
theorem ml_L_68 : Cond.methodLink RL 68 yX7_edgeAt ∈ gtbl := gtbl_in (i := 936) (by decide +kernel) (by decide +kernel)
theorem im_X7_edgeAt : Cond.instanceMethod yX7_edgeAt ∈ gtbl := gtbl_in (i := 937) (by decide +kernel) (by decide +kernel)
theorem se_X7_edgeAt : Cond.selects RX7 yX7_edgeAt yX7_edgeAt ∈ gtbl := gtbl_in (i := 938) (by decide +kernel) (by decide +kernel)
theorem co_X7_edgeAt : Cond.code yX7_edgeAt cX7_edgeAt 6 (some .int) ∈ gtbl := gtbl_in (i := 939) (by decide +kernel) (by decide +kernel)
theorem ml_L_72 : Cond.methodLink RL 72 yX7_misfit ∈ gtbl := gtbl_in (i := 940) (by decide +kernel) (by decide +kernel)
theorem im_X7_misfit : Cond.instanceMethod yX7_misfit ∈ gtbl := gtbl_in (i := 941) (by decide +kernel) (by decide +kernel)
theorem se_X7_misfit : Cond.selects RX7 yX7_misfit yX7_misfit ∈ gtbl := gtbl_in (i := 942) (by decide +kernel) (by decide +kernel)
theorem co_X7_misfit : Cond.code yX7_misfit cX7_misfit 3 (some .int) ∈ gtbl := gtbl_in (i := 943) (by decide +kernel) (by decide +kernel)
theorem ml_L_76 : Cond.methodLink RL 76 yX7_hint ∈ gtbl := gtbl_in (i := 944) (by decide +kernel) (by decide +kernel)
theorem im_X7_hint : Cond.instanceMethod yX7_hint ∈ gtbl := gtbl_in (i := 945) (by decide +kernel) (by decide +kernel)
theorem se_X7_hint : Cond.selects RX7 yX7_hint yX7_hint ∈ gtbl := gtbl_in (i := 946) (by decide +kernel) (by decide +kernel)
theorem co_X7_hint : Cond.code yX7_hint cX7_hint 2 (some .int) ∈ gtbl := gtbl_in (i := 947) (by decide +kernel) (by decide +kernel)
theorem ml_L_80 : Cond.methodLink RL 80 yX7_way ∈ gtbl := gtbl_in (i := 948) (by decide +kernel) (by decide +kernel)
theorem im_X7_way : Cond.instanceMethod yX7_way ∈ gtbl := gtbl_in (i := 949) (by decide +kernel) (by decide +kernel)
theorem se_X7_way : Cond.selects RX7 yX7_way yX7_way ∈ gtbl := gtbl_in (i := 950) (by decide +kernel) (by decide +kernel)
theorem co_X7_way : Cond.code yX7_way cX7_way 5 (some .int) ∈ gtbl := gtbl_in (i := 951) (by decide +kernel) (by decide +kernel)
theorem ml_L_84 : Cond.methodLink RL 84 yX7_solutions ∈ gtbl := gtbl_in (i := 952) (by decide +kernel) (by decide +kernel)
theorem im_X7_solutions : Cond.instanceMethod yX7_solutions ∈ gtbl := gtbl_in (i := 953) (by decide +kernel) (by decide +kernel)
theorem se_X7_solutions : Cond.selects RX7 yX7_solutions yX7_solutions ∈ gtbl := gtbl_in (i := 954) (by decide +kernel) (by decide +kernel)
theorem co_X7_solutions : Cond.code yX7_solutions cX7_solutions 2 (some .int) ∈ gtbl := gtbl_in (i := 955) (by decide +kernel) (by decide +kernel)
theorem ml_X7_218 : Cond.methodLink RX7 218 yX7_searches ∈ gtbl := gtbl_in (i := 956) (by decide +kernel) (by decide +kernel)
theorem im_X7_searches : Cond.instanceMethod yX7_searches ∈ gtbl := gtbl_in (i := 958) (by decide +kernel) (by decide +kernel)
theorem co_X7_searches : Cond.code yX7_searches cX7_searches 4 none ∈ gtbl := gtbl_in (i := 959) (by decide +kernel) (by decide +kernel)
theorem ml_X7_208 : Cond.methodLink RX7 208 yX7_puts ∈ gtbl := gtbl_in (i := 960) (by decide +kernel) (by decide +kernel)
theorem im_X7_puts : Cond.instanceMethod yX7_puts ∈ gtbl := gtbl_in (i := 962) (by decide +kernel) (by decide +kernel)
theorem co_X7_puts : Cond.code yX7_puts cX7_puts 3 none ∈ gtbl := gtbl_in (i := 963) (by decide +kernel) (by decide +kernel)
theorem ml_X7_212 : Cond.methodLink RX7 212 yX7_takes ∈ gtbl := gtbl_in (i := 964) (by decide +kernel) (by decide +kernel)
theorem im_X7_takes : Cond.instanceMethod yX7_takes ∈ gtbl := gtbl_in (i := 966) (by decide +kernel) (by decide +kernel)
theorem co_X7_takes : Cond.code yX7_takes cX7_takes 3 none ∈ gtbl := gtbl_in (i := 967) (by decide +kernel) (by decide +kernel)
theorem ml_X7_215 : Cond.methodLink RX7 215 yX7_node ∈ gtbl := gtbl_in (i := 968) (by decide +kernel) (by decide +kernel)
theorem im_X7_node : Cond.instanceMethod yX7_node ∈ gtbl := gtbl_in (i := 970) (by decide +kernel) (by decide +kernel)
theorem co_X7_node : Cond.code yX7_node cX7_node 2 (some .int) ∈ gtbl := gtbl_in (i := 971) (by decide +kernel) (by decide +kernel)
theorem ml_L_88 : Cond.methodLink RL 88 yX7_nodes ∈ gtbl := gtbl_in (i := 972) (by decide +kernel) (by decide +kernel)
theorem im_X7_nodes : Cond.instanceMethod yX7_nodes ∈ gtbl := gtbl_in (i := 973) (by decide +kernel) (by decide +kernel)
theorem se_X7_nodes : Cond.selects RX7 yX7_nodes yX7_nodes ∈ gtbl := gtbl_in (i := 974) (by decide +kernel) (by decide +kernel)
theorem co_X7_nodes : Cond.code yX7_nodes cX7_nodes 2 (some .int) ∈ gtbl := gtbl_in (i := 975) (by decide +kernel) (by decide +kernel)
theorem ml_L_92 : Cond.methodLink RL 92 yX7_solved ∈ gtbl := gtbl_in (i := 976) (by decide +kernel) (by decide +kernel)
theorem im_X7_solved : Cond.instanceMethod yX7_solved ∈ gtbl := gtbl_in (i := 977) (by decide +kernel) (by decide +kernel)
theorem se_X7_solved : Cond.selects RX7 yX7_solved yX7_solved ∈ gtbl := gtbl_in (i := 978) (by decide +kernel) (by decide +kernel)
theorem co_X7_solved : Cond.code yX7_solved cX7_solved 2 (some .int) ∈ gtbl := gtbl_in (i := 979) (by decide +kernel) (by decide +kernel)
theorem ml_L_96 : Cond.methodLink RL 96 yX7_grade ∈ gtbl := gtbl_in (i := 980) (by decide +kernel) (by decide +kernel)
theorem im_X7_grade : Cond.instanceMethod yX7_grade ∈ gtbl := gtbl_in (i := 981) (by decide +kernel) (by decide +kernel)
theorem se_X7_grade : Cond.selects RX7 yX7_grade yX7_grade ∈ gtbl := gtbl_in (i := 982) (by decide +kernel) (by decide +kernel)
theorem co_X7_grade : Cond.code yX7_grade cX7_grade 4 (some .int) ∈ gtbl := gtbl_in (i := 983) (by decide +kernel) (by decide +kernel)
theorem ml_X7_221 : Cond.methodLink RX7 221 yX7_gradeOf ∈ gtbl := gtbl_in (i := 984) (by decide +kernel) (by decide +kernel)
theorem sm_X7_gradeOf : Cond.static yX7_gradeOf ∈ gtbl := gtbl_in (i := 985) (by decide +kernel) (by decide +kernel)
theorem co_X7_gradeOf : Cond.code yX7_gradeOf cX7_gradeOf 1 (some .int) ∈ gtbl := gtbl_in (i := 986) (by decide +kernel) (by decide +kernel)
theorem ml_L_100 : Cond.methodLink RL 100 yX7_count ∈ gtbl := gtbl_in (i := 987) (by decide +kernel) (by decide +kernel)
theorem im_X7_count : Cond.instanceMethod yX7_count ∈ gtbl := gtbl_in (i := 988) (by decide +kernel) (by decide +kernel)
theorem se_X7_count : Cond.selects RX7 yX7_count yX7_count ∈ gtbl := gtbl_in (i := 989) (by decide +kernel) (by decide +kernel)
theorem co_X7_count : Cond.code yX7_count cX7_count 2 (some .int) ∈ gtbl := gtbl_in (i := 990) (by decide +kernel) (by decide +kernel)
theorem ml_X7_224 : Cond.methodLink RX7 224 yX7_counts ∈ gtbl := gtbl_in (i := 991) (by decide +kernel) (by decide +kernel)
theorem im_X7_counts : Cond.instanceMethod yX7_counts ∈ gtbl := gtbl_in (i := 993) (by decide +kernel) (by decide +kernel)
theorem co_X7_counts : Cond.code yX7_counts cX7_counts 3 (some .int) ∈ gtbl := gtbl_in (i := 994) (by decide +kernel) (by decide +kernel)
theorem ml_L_105 : Cond.methodLink RL 105 yX7_digest ∈ gtbl := gtbl_in (i := 995) (by decide +kernel) (by decide +kernel)
theorem im_X7_digest : Cond.instanceMethod yX7_digest ∈ gtbl := gtbl_in (i := 996) (by decide +kernel) (by decide +kernel)
theorem se_X7_digest : Cond.selects RX7 yX7_digest yX7_digest ∈ gtbl := gtbl_in (i := 997) (by decide +kernel) (by decide +kernel)
theorem co_X7_digest : Cond.code yX7_digest cX7_digest 2 (some .long) ∈ gtbl := gtbl_in (i := 998) (by decide +kernel) (by decide +kernel)
theorem kl_X7_233 : Cond.constantLong RX7 233 (157) ∈ gtbl := gtbl_in (i := 999) (by decide +kernel) (by decide +kernel)
theorem ml_X7_235 : Cond.methodLink RX7 235 yX7_count ∈ gtbl := gtbl_in (i := 1000) (by decide +kernel) (by decide +kernel)
theorem ml_X7_238 : Cond.methodLink RX7 238 yX7_mixes ∈ gtbl := gtbl_in (i := 1001) (by decide +kernel) (by decide +kernel)
theorem im_X7_mixes : Cond.instanceMethod yX7_mixes ∈ gtbl := gtbl_in (i := 1003) (by decide +kernel) (by decide +kernel)
theorem co_X7_mixes : Cond.code yX7_mixes cX7_mixes 2 none ∈ gtbl := gtbl_in (i := 1004) (by decide +kernel) (by decide +kernel)
theorem kl_X7_227 : Cond.constantLong RX7 227 (31) ∈ gtbl := gtbl_in (i := 1005) (by decide +kernel) (by decide +kernel)
theorem ml_X7_241 : Cond.methodLink RX7 241 yX7_misfit ∈ gtbl := gtbl_in (i := 1006) (by decide +kernel) (by decide +kernel)
theorem ml_X7_244 : Cond.methodLink RX7 244 yX7_hint ∈ gtbl := gtbl_in (i := 1007) (by decide +kernel) (by decide +kernel)
theorem ml_X7_247 : Cond.methodLink RX7 247 yX7_solutions ∈ gtbl := gtbl_in (i := 1008) (by decide +kernel) (by decide +kernel)
theorem ml_X7_250 : Cond.methodLink RX7 250 yX7_nodes ∈ gtbl := gtbl_in (i := 1009) (by decide +kernel) (by decide +kernel)
theorem ml_X7_253 : Cond.methodLink RX7 253 yX7_grade ∈ gtbl := gtbl_in (i := 1010) (by decide +kernel) (by decide +kernel)
theorem se_X1_layEdgesFrom : Cond.selects RX1 yX1_layEdgesFrom yX1_layEdgesFrom ∈ gtbl := gtbl_in (i := 0) (by decide +kernel) (by decide +kernel)
theorem se_X1_cellAt : Cond.selects RX1 yX1_cellAt yX1_cellAt ∈ gtbl := gtbl_in (i := 1) (by decide +kernel) (by decide +kernel)
theorem se_X1_layEdge : Cond.selects RX1 yX1_layEdge yX1_layEdge ∈ gtbl := gtbl_in (i := 2) (by decide +kernel) (by decide +kernel)
theorem se_X0_lookAtCell : Cond.selects RX0 yX0_lookAtCell yX0_lookAtCell ∈ gtbl := gtbl_in (i := 3) (by decide +kernel) (by decide +kernel)
theorem se_X0_lookAtCorner : Cond.selects RX0 yX0_lookAtCorner yX0_lookAtCorner ∈ gtbl := gtbl_in (i := 4) (by decide +kernel) (by decide +kernel)
theorem se_X0_lookAtRings : Cond.selects RX0 yX0_lookAtRings yX0_lookAtRings ∈ gtbl := gtbl_in (i := 5) (by decide +kernel) (by decide +kernel)
theorem se_X0_lookAtWay : Cond.selects RX0 yX0_lookAtWay yX0_lookAtWay ∈ gtbl := gtbl_in (i := 6) (by decide +kernel) (by decide +kernel)
theorem se_X5_endsRow : Cond.selects RX5 yX5_endsRow yX5_endsRow ∈ gtbl := gtbl_in (i := 7) (by decide +kernel) (by decide +kernel)
theorem se_X6_forgetMade : Cond.selects RX6 yX6_forgetMade yX6_forgetMade ∈ gtbl := gtbl_in (i := 8) (by decide +kernel) (by decide +kernel)
theorem se_X0_drawnAtEnd : Cond.selects RX0 yX0_drawnAtEnd yX0_drawnAtEnd ∈ gtbl := gtbl_in (i := 9) (by decide +kernel) (by decide +kernel)
theorem se_X0_meetsCounts : Cond.selects RX0 yX0_meetsCounts yX0_meetsCounts ∈ gtbl := gtbl_in (i := 10) (by decide +kernel) (by decide +kernel)
theorem se_X6_makeFound : Cond.selects RX6 yX6_makeFound yX6_makeFound ∈ gtbl := gtbl_in (i := 11) (by decide +kernel) (by decide +kernel)
theorem se_X6_foundPart : Cond.selects RX6 yX6_foundPart yX6_foundPart ∈ gtbl := gtbl_in (i := 12) (by decide +kernel) (by decide +kernel)
theorem se_X3_push : Cond.selects RX3 yX3_push yX3_push ∈ gtbl := gtbl_in (i := 13) (by decide +kernel) (by decide +kernel)
theorem se_X3_goOn : Cond.selects RX3 yX3_goOn yX3_goOn ∈ gtbl := gtbl_in (i := 14) (by decide +kernel) (by decide +kernel)
theorem se_X6_addHints : Cond.selects RX6 yX6_addHints yX6_addHints ∈ gtbl := gtbl_in (i := 15) (by decide +kernel) (by decide +kernel)
theorem se_X7_reads : Cond.selects RX7 yX7_reads yX7_reads ∈ gtbl := gtbl_in (i := 16) (by decide +kernel) (by decide +kernel)
theorem se_X7_readsRow : Cond.selects RX7 yX7_readsRow yX7_readsRow ∈ gtbl := gtbl_in (i := 17) (by decide +kernel) (by decide +kernel)
theorem se_X7_next : Cond.selects RX7 yX7_next yX7_next ∈ gtbl := gtbl_in (i := 18) (by decide +kernel) (by decide +kernel)
theorem se_X7_keeps : Cond.selects RX7 yX7_keeps yX7_keeps ∈ gtbl := gtbl_in (i := 19) (by decide +kernel) (by decide +kernel)
theorem se_X7_cells : Cond.selects RX7 yX7_cells yX7_cells ∈ gtbl := gtbl_in (i := 20) (by decide +kernel) (by decide +kernel)
theorem se_X7_edges : Cond.selects RX7 yX7_edges yX7_edges ∈ gtbl := gtbl_in (i := 21) (by decide +kernel) (by decide +kernel)
theorem se_X7_vertical : Cond.selects RX7 yX7_vertical yX7_vertical ∈ gtbl := gtbl_in (i := 22) (by decide +kernel) (by decide +kernel)
theorem se_X7_markOf : Cond.selects RX7 yX7_markOf yX7_markOf ∈ gtbl := gtbl_in (i := 23) (by decide +kernel) (by decide +kernel)
theorem se_X7_marked : Cond.selects RX7 yX7_marked yX7_marked ∈ gtbl := gtbl_in (i := 24) (by decide +kernel) (by decide +kernel)
theorem se_X7_fits : Cond.selects RX7 yX7_fits yX7_fits ∈ gtbl := gtbl_in (i := 25) (by decide +kernel) (by decide +kernel)
theorem se_X7_looks : Cond.selects RX7 yX7_looks yX7_looks ∈ gtbl := gtbl_in (i := 26) (by decide +kernel) (by decide +kernel)
theorem se_X7_aroundWith : Cond.selects RX7 yX7_aroundWith yX7_aroundWith ∈ gtbl := gtbl_in (i := 27) (by decide +kernel) (by decide +kernel)
theorem se_X7_aroundCell : Cond.selects RX7 yX7_aroundCell yX7_aroundCell ∈ gtbl := gtbl_in (i := 28) (by decide +kernel) (by decide +kernel)
theorem se_X7_corners : Cond.selects RX7 yX7_corners yX7_corners ∈ gtbl := gtbl_in (i := 29) (by decide +kernel) (by decide +kernel)
theorem se_X7_atWith : Cond.selects RX7 yX7_atWith yX7_atWith ∈ gtbl := gtbl_in (i := 30) (by decide +kernel) (by decide +kernel)
theorem se_X7_toward : Cond.selects RX7 yX7_toward yX7_toward ∈ gtbl := gtbl_in (i := 31) (by decide +kernel) (by decide +kernel)
theorem se_X7_joins : Cond.selects RX7 yX7_joins yX7_joins ∈ gtbl := gtbl_in (i := 32) (by decide +kernel) (by decide +kernel)
theorem se_X7_end : Cond.selects RX7 yX7_end yX7_end ∈ gtbl := gtbl_in (i := 33) (by decide +kernel) (by decide +kernel)
theorem se_X7_top : Cond.selects RX7 yX7_top yX7_top ∈ gtbl := gtbl_in (i := 34) (by decide +kernel) (by decide +kernel)
theorem se_X7_areMet : Cond.selects RX7 yX7_areMet yX7_areMet ∈ gtbl := gtbl_in (i := 35) (by decide +kernel) (by decide +kernel)
theorem se_X7_isRing : Cond.selects RX7 yX7_isRing yX7_isRing ∈ gtbl := gtbl_in (i := 36) (by decide +kernel) (by decide +kernel)
theorem se_X7_findsNext : Cond.selects RX7 yX7_findsNext yX7_findsNext ∈ gtbl := gtbl_in (i := 37) (by decide +kernel) (by decide +kernel)
theorem se_X7_findsPlain : Cond.selects RX7 yX7_findsPlain yX7_findsPlain ∈ gtbl := gtbl_in (i := 38) (by decide +kernel) (by decide +kernel)
theorem se_X7_byCells : Cond.selects RX7 yX7_byCells yX7_byCells ∈ gtbl := gtbl_in (i := 39) (by decide +kernel) (by decide +kernel)
theorem se_X7_openAround : Cond.selects RX7 yX7_openAround yX7_openAround ∈ gtbl := gtbl_in (i := 40) (by decide +kernel) (by decide +kernel)
theorem se_X7_finds : Cond.selects RX7 yX7_finds yX7_finds ∈ gtbl := gtbl_in (i := 41) (by decide +kernel) (by decide +kernel)
theorem se_X7_byCorners : Cond.selects RX7 yX7_byCorners yX7_byCorners ∈ gtbl := gtbl_in (i := 42) (by decide +kernel) (by decide +kernel)
theorem se_X7_openAt : Cond.selects RX7 yX7_openAt yX7_openAt ∈ gtbl := gtbl_in (i := 43) (by decide +kernel) (by decide +kernel)
theorem se_X7_byRings : Cond.selects RX7 yX7_byRings yX7_byRings ∈ gtbl := gtbl_in (i := 44) (by decide +kernel) (by decide +kernel)
theorem se_X7_byTrials : Cond.selects RX7 yX7_byTrials yX7_byTrials ∈ gtbl := gtbl_in (i := 45) (by decide +kernel) (by decide +kernel)
theorem se_X7_fails : Cond.selects RX7 yX7_fails yX7_fails ∈ gtbl := gtbl_in (i := 46) (by decide +kernel) (by decide +kernel)
theorem se_X7_makes : Cond.selects RX7 yX7_makes yX7_makes ∈ gtbl := gtbl_in (i := 47) (by decide +kernel) (by decide +kernel)
theorem se_X7_searches : Cond.selects RX7 yX7_searches yX7_searches ∈ gtbl := gtbl_in (i := 48) (by decide +kernel) (by decide +kernel)
theorem se_X7_puts : Cond.selects RX7 yX7_puts yX7_puts ∈ gtbl := gtbl_in (i := 49) (by decide +kernel) (by decide +kernel)
theorem se_X7_takes : Cond.selects RX7 yX7_takes yX7_takes ∈ gtbl := gtbl_in (i := 50) (by decide +kernel) (by decide +kernel)
theorem se_X7_node : Cond.selects RX7 yX7_node yX7_node ∈ gtbl := gtbl_in (i := 51) (by decide +kernel) (by decide +kernel)
theorem se_X7_counts : Cond.selects RX7 yX7_counts yX7_counts ∈ gtbl := gtbl_in (i := 52) (by decide +kernel) (by decide +kernel)
theorem se_X7_mixes : Cond.selects RX7 yX7_mixes yX7_mixes ∈ gtbl := gtbl_in (i := 53) (by decide +kernel) (by decide +kernel)
theorem uw_X0 : ∀ w ∈ u_ws RX0 TX0 13, w ∈ gtbl := gtbl_ps _ [198, 200, 202, 204, 206, 208, 210, 212, 214, 216, 218, 220, 222] (by decide +kernel) (by decide +kernel)
theorem uw_X1 : ∀ w ∈ u_ws RX1 TX1 10, w ∈ gtbl := gtbl_ps _ [108, 110, 112, 114, 116, 118, 120, 122, 124, 126] (by decide +kernel) (by decide +kernel)
theorem uw_X2 : ∀ w ∈ u_ws RX2 TX2 8, w ∈ gtbl := gtbl_ps _ [337, 339, 341, 343, 345, 347, 349, 351] (by decide +kernel) (by decide +kernel)
theorem uw_X3 : ∀ w ∈ u_ws RX3 TX3 8, w ∈ gtbl := gtbl_ps _ [305, 307, 309, 311, 313, 315, 317, 319] (by decide +kernel) (by decide +kernel)
theorem uw_X4 : ∀ w ∈ u_ws RX4 TX4 3, w ∈ gtbl := gtbl_ps _ [280, 282, 284] (by decide +kernel) (by decide +kernel)
theorem uw_X5 : ∀ w ∈ u_ws RX5 TX5 5, w ∈ gtbl := gtbl_ps _ [370, 372, 374, 376, 378] (by decide +kernel) (by decide +kernel)
theorem uw_X6 : ∀ w ∈ u_ws RX6 TX6 7, w ∈ gtbl := gtbl_ps _ [389, 391, 393, 395, 397, 399, 401] (by decide +kernel) (by decide +kernel)
theorem uw_X7 : ∀ w ∈ u_ws RX7 TX7 30, w ∈ gtbl := gtbl_ps _ [695, 697, 699, 701, 703, 705, 707, 709, 711, 713, 715, 717, 719, 721, 723, 725, 727, 729, 731, 733, 735, 737, 739, 741, 743, 745, 747, 749, 751, 753] (by decide +kernel) (by decide +kernel)
end
section
/-! THE STATE: numbers by cell and place; worlds of N cells; rows over them -/
abbrev vSt : Type := (Nat → Nat → Int32) × (Nat → Nat → Int64)
def gI (σ : vSt) (q j : Nat) : Int32 := σ.1 q j
def gL (σ : vSt) (q j : Nat) : Int64 := σ.2 q j
def sI (σ : vSt) (q j : Nat) (v : Int32) : vSt := (fun b => if b = q then upd (σ.1 b) j v else σ.1 b, σ.2)
def sL (σ : vSt) (q j : Nat) (v : Int64) : vSt := (σ.1, fun b => if b = q then vp_updL (σ.2 b) j v else σ.2 b)
abbrev vCf : Type := Nat → (Nat → Int32) → (Nat → Int64) → va_E
abbrev vK : Type := va_G × (Nat → ClassId)
abbrev tysK (K : vK) : List (ClassId × FieldType) := [(K.2 0, .int), (K.2 1, .long), (K.2 2, .byte), (K.2 3, .boolean)]
def wG (N : Nat) (ad : Nat → Nat) (cf : vCf) (σ : vSt) : va_W := (List.range N).map (fun k => (ad k, cf k (σ.1 k) (σ.2 k)))
theorem wG_at {N : Nat} {ad : Nat → Nat} {cf : vCf} {σ : vSt} {q : Nat} (hq : q < N) : (wG N ad cf σ)[q]? = some (ad q, cf q (σ.1 q) (σ.2 q)) := by
  unfold wG
  rw [List.getElem?_map, List.getElem?_range hq]
  rfl
theorem wG_no {N : Nat} {ad : Nat → Nat} {cf : vCf} {σ : vSt} {q : Nat} (hq : ¬ q < N) : (wG N ad cf σ)[q]? = none := by
  unfold wG
  rw [List.getElem?_eq_none_iff]
  simp
  omega
theorem wG_len {N : Nat} {ad : Nat → Nat} {cf : vCf} {σ : vSt} : (wG N ad cf σ).length = N := by
  simp [wG]
theorem wG_some {N : Nat} {ad : Nat → Nat} {cf : vCf} {σ : vSt} {q : Nat} {x : Nat × va_E} (h : (wG N ad cf σ)[q]? = some x) : q < N ∧ x = (ad q, cf q (σ.1 q) (σ.2 q)) := by
  by_cases hq : q < N
  · rw [wG_at hq] at h
    exact ⟨hq, (Option.some.inj h).symm⟩
  · rw [wG_no hq] at h
    cases h
theorem wG_set {N : Nat} {ad : Nat → Nat} {cf : vCf} {σ σ' : vSt} {q : Nat} {x : va_E} (hq : q < N) (h0 : cf q (σ'.1 q) (σ'.2 q) = x) (h1 : ∀ k, k ≠ q → σ'.1 k = σ.1 k) (h2 : ∀ k, k ≠ q → σ'.2 k = σ.2 k) : (wG N ad cf σ).set q (ad q, x) = wG N ad cf σ' := by
  apply List.ext_getElem?
  intro k
  rw [List.getElem?_set]
  by_cases hk : q = k
  · subst hk
    rw [if_pos rfl, wG_at hq, wG_len, if_pos hq, h0]
  · rw [if_neg hk]
    by_cases hN : k < N
    · rw [wG_at hN, wG_at hN, h1 k (Ne.symm hk), h2 k (Ne.symm hk)]
    · rw [wG_no hN, wG_no hN]
theorem wG_setI {N : Nat} {ad : Nat → Nat} {cf : vCf} {σ : vSt} {q j : Nat} {v : Int32} {x : va_E} (hq : q < N) (h0 : cf q (upd (σ.1 q) j v) (σ.2 q) = x) : (wG N ad cf σ).set q (ad q, x) = wG N ad cf (sI σ q j v) := by
  refine wG_set hq ?_ (fun k hk => ?_) (fun k _ => rfl)
  · show cf q (if q = q then upd (σ.1 q) j v else σ.1 q) (σ.2 q) = x
    rw [if_pos rfl]
    exact h0
  · show (if k = q then upd (σ.1 k) j v else σ.1 k) = σ.1 k
    rw [if_neg hk]
theorem wG_setL {N : Nat} {ad : Nat → Nat} {cf : vCf} {σ : vSt} {q j : Nat} {v : Int64} {x : va_E} (hq : q < N) (h0 : cf q (σ.1 q) (vp_updL (σ.2 q) j v) = x) : (wG N ad cf σ).set q (ad q, x) = wG N ad cf (sL σ q j v) := by
  refine wG_set hq ?_ (fun k _ => rfl) (fun k hk => ?_)
  · show cf q (σ.1 q) (if q = q then vp_updL (σ.2 q) j v else σ.2 q) = x
    rw [if_pos rfl]
    exact h0
  · show (if k = q then vp_updL (σ.2 k) j v else σ.2 k) = σ.2 k
    rw [if_neg hk]
def adInj (N : Nat) (ad : Nat → Nat) : Prop := ∀ i j, i < N → j < N → ad i = ad j → i = j
def AA (N : Nat) (ad : Nat → Nat) (sz : Nat) : Nat → Prop := fun q => (∃ k, k < N ∧ q = ad k) ∨ sz ≤ q
theorem wG_D {N : Nat} {ad : Nat → Nat} {cf : vCf} {A : Nat → Prop} (hI : adInj N ad) (hA : ∀ k, k < N → A (ad k)) (σ : vSt) : va_D A (wG N ad cf σ) := by
  refine ⟨fun i j p q hp hq hpq => ?_, fun k q hq => ?_⟩
  · obtain ⟨h1, rfl⟩ := wG_some hp
    obtain ⟨h2, rfl⟩ := wG_some hq
    exact hI i j h1 h2 hpq
  · obtain ⟨h1, rfl⟩ := wG_some hq
    exact hA k h1
/-- what stands around every world: links among nest mates, the two rows of numbers -/
def t_bec (j : Nat) : Value := .int (if j = 0 then 2 else if j = 1 then 1 else if j = 2 then 2 else if j = 3 then 2 else if j = 4 then 1 else if j = 5 then 2 else if j = 6 then 2 else 1)
def t_gra (j : Nat) : Value := .int (if j = 0 then 1 else if j = 1 then 1 else if j = 2 then 1 else if j = 3 then 2 else if j = 4 then 2 else if j = 5 then 3 else if j = 6 then 4 else 4)
def Amb (A : Nat → Prop) (U : State) (H : Heap) : Prop :=
  va_Nw (.methodLinkNest RX0 113 yX6_with "RingPuzzle") U ∧ va_Nw (.methodLinkNest RX0 127 yX6_leastOf "RingPuzzle") U ∧ va_Nw (.methodLinkNest RX0 144 yX6_becomes "RingPuzzle") U ∧ va_Nw (.methodLinkNest RX4 82 yX6_gradeOf "RingPuzzle") U ∧
  (∃ t : Nat, va_Z "RingPuzzle" "BECOMES" "[I" (.ref t) A U H ∧ va_T .int t 8 t_bec A U H) ∧ (∃ t : Nat, va_Z "RingPuzzle" "GRADES" "[I" (.ref t) A U H ∧ va_T .int t 8 t_gra A U H)
theorem Amb.warm {A : Nat → Prop} {s U : State} {H : Heap} (hW : s.WarmedH U.vm) (h : Amb A s H) : Amb A U H := by
  obtain ⟨h1, h2, h3, h4, ⟨t, h5, h6⟩, ⟨t', h7, h8⟩⟩ := h
  exact ⟨va_Nw.warmM hW h1, va_Nw.warmM hW h2, va_Nw.warmM hW h3, va_Nw.warmM hW h4, ⟨t, h5.moved hW.alike, h6.moved hW.alike⟩, ⟨t', h7.moved hW.alike, h8.moved hW.alike⟩⟩
theorem Amb.same {A : Nat → Prop} {u U : State} {H : Heap} (hv : u.vm = U.vm) (h : Amb A u H) : Amb A U H := by
  obtain ⟨h1, h2, h3, h4, ⟨t, h5, h6⟩, ⟨t', h7, h8⟩⟩ := h
  have ha : u.vm.Alike U.vm := by rw [hv]; exact Vm.Alike.refl U.vm
  exact ⟨va_Nw.same rfl hv h1, va_Nw.same rfl hv h2, va_Nw.same rfl hv h3, va_Nw.same rfl hv h4, ⟨t, h5.moved ha, h6.moved ha⟩, ⟨t', h7.moved ha, h8.moved ha⟩⟩
theorem Amb.kept {A : Nat → Prop} {U : State} {H H1 : Heap} (h : Amb A U H) (hq : ∀ a : Nat, a < H.size → ¬ A a → H1[a]? = H[a]?) : Amb A U H1 := by
  obtain ⟨h1, h2, h3, h4, ⟨t, h5, h6⟩, ⟨t', h7, h8⟩⟩ := h
  exact ⟨h1, h2, h3, h4, ⟨t, h5.kept hq, h6.kept hq⟩, ⟨t', h7.kept hq, h8.kept hq⟩⟩
theorem Amb.narrow {A B : Nat → Prop} {U : State} {H : Heap} (h : Amb A U H) (hAB : ∀ q, B q → A q) : Amb B U H := by
  obtain ⟨h1, h2, h3, h4, ⟨t, h5, h6⟩, ⟨t', h7, h8⟩⟩ := h
  exact ⟨h1, h2, h3, h4, ⟨t, h5.narrow hAB, h6.narrow hAB⟩, ⟨t', h7.narrow hAB, h8.narrow hAB⟩⟩
def PW (K : vK) (N : Nat) (ad : Nat → Nat) (cf : vCf) (A : Nat → Prop) (H0 : Heap) (σ : vSt) (H : Heap) (locs : List Loc) : Prop := va_P K.1 vwCl (wG N ad cf σ) H ∧ va_S A H0 H locs
def EC (p : Program) (s : State) (m : MethodId) (args : Array Value) (c : Code) (cc : ByteArray) (nL : Nat) (Ts : List Cond) (own : String) (K : vK) (N : Nat) (ad : Nat → Nat) (cf : vCf) (A : Nat → Prop) : Prop :=
  p.tables.exec = Jvm.exec ∧ c.code = cc ∧ c.maxLocals = nL ∧ s.vm.findClass own = some m.cls ∧ (∀ w ∈ Ts, w.before args s = true) ∧ va_K K.1 vwCl (tysK K) s ∧ (∀ σ, va_D A (wG N ad cf σ)) ∧ (∀ q, A q ↔ AA N ad s.heap.size q) ∧ Amb A s s.heap
/-! conditions -/
theorem it_t {α : Type} {c : Prop} [Decidable c] {a b r : α} (hc : c) (h : (if c then a else b) = r) : a = r := by rw [if_pos hc] at h; exact h
theorem it_f {α : Type} {c : Prop} [Decidable c] {a b r : α} (hc : ¬ c) (h : (if c then a else b) = r) : b = r := by rw [if_neg hc] at h; exact h
theorem it_g {α : Type} {c : Prop} [Decidable c] {a : Option α} {r : α} (h : (if c then a else none) = some r) : c ∧ a = some r := by
  by_cases hc : c
  · rw [if_pos hc] at h; exact ⟨hc, h⟩
  · rw [if_neg hc] at h; cases h
theorem it_b {α β : Type} {o : Option α} {f : α → Option β} {r : β} (h : o.bind f = some r) : ∃ a, o = some a ∧ f a = some r := by
  cases o with
  | none => cases h
  | some a => exact ⟨a, rfl, h⟩
theorem it_n {α : Type} {r : α} {P : Prop} (h : (none : Option α) = some r) : P := by cases h
/-! rows over a world -/
section QR
variable {p : Program} {l : Launch} {e : Env} {R : Room} {s : State} {m : MethodId} {args : Array Value} {below : List Frame} {meth : Method} {c : Code} {H : Heap} {locs : List Loc} {cells slots : Nat} {Q : State → Prop}
variable {cc : ByteArray} {nL : Nat} {Ts : List Cond} {own : String} {K : vK} {N : Nat} {ad : Nat → Nat} {cf : vCf} {A : Nat → Prop} {σ : vSt} {pc : Nat} {ls : Array Slot} {rest : List Value}
theorem q_get (E : EC p s m args c cc nL Ts own K N ad cf A) (hw : PW K N ad cf A s.heap σ H locs) (q : Nat) (hq : q < N) {ci n : Nat} {C : String} {T : u_T} (hc : vwCl[ci]? = some (C, T, n)) (hin : ∀ w ∈ u_ws C T n, w ∈ Ts) {fs : List Value} (he : cf q (σ.1 q) (σ.2 q) = .inr (ci, fs)) (k : Nat) (hk : k < n) {v : Value} (hv : fs[k]? = some v) {index : Nat} {ref : String} (hl : (Cond.fieldLink own index ref (T k).2.1 (T k).2.2.1).before args s = true) (hsame : (T k).1 = ref) (hdg : decode cc pc = .ok (.getfield index, 3)) (kk : W p l e R s m args below meth c H locs cells slots Q (F0 m (pc + 3) ls (v :: rest))) : W p l e R s m args below meth c H locs cells slots Q (F0 m pc ls (.ref (ad q) :: rest)) := by
  obtain ⟨hx, hb, -, hown, hts, hK, -⟩ := E
  exact va_get (D := K.1) (ci := ci) (v := v) (C := C) (T := T) (N := n) hx hb hts hin hown hK hw.1 q (by rw [wG_at hq, he]) hc k hk hl (fun x h => by rw [← hsame]; exact h) hv hdg kk
theorem q_putI (E : EC p s m args c cc nL Ts own K N ad cf A) (hw : PW K N ad cf A s.heap σ H locs) (q : Nat) (hq : q < N) {ci n : Nat} {C : String} {T : u_T} {ty0 : Nat → FieldType} (hc : vwCl[ci]? = some (C, T, n)) (hin : ∀ w ∈ u_ws C T n, w ∈ Ts) (hty : ∀ k, k < n → parseFieldDescriptor (T k).2.2.1 = some (ty0 k)) (hnm : ∀ a, a < n → ∀ b, b < n → a ≠ b → (T a).2.1 ≠ (T b).2.1) {fs : List Value} (he : cf q (σ.1 q) (σ.2 q) = .inr (ci, fs)) (k : Nat) (hk : k < n) {x : Int32} (he2 : cf q (upd (σ.1 q) k x) (σ.2 q) = .inr (ci, fs.set k (.int x))) (hlen : k < fs.length) {index : Nat} {ref : String} (hl : (Cond.fieldLink own index ref (T k).2.1 (T k).2.2.1).before args s = true) (hsame : (T k).1 = ref) (hfin : (T k).2.2.2 = false) {ty : FieldType} (hd : parseFieldDescriptor (T k).2.2.1 = some ty) (hn : narrow ty (.int x) = .int x) (hfit : fits ty (.int x) = true) (hdg : decode cc pc = .ok (.putfield index, 3)) (kk : ∀ (H1 : Heap) (locs1 : List Loc), PW K N ad cf A s.heap (sI σ q k x) H1 locs1 → W p l e R s m args below meth c H1 locs1 cells slots Q (F0 m (pc + 3) ls rest)) : W p l e R s m args below meth c H locs cells slots Q (F0 m pc ls (.int x :: .ref (ad q) :: rest)) := by
  obtain ⟨hx, hb, -, hown, hts, hK, hD, -⟩ := E
  refine va_put (D := K.1) (ci := ci) (v := .int x) (ty := ty) (C := C) (T := T) (N := n) hx hb hts hin ty0 hty hnm hown hK hw.1 (hD σ) hw.2 q (by rw [wG_at hq, he]) hc k hk hl (fun x h => by rw [← hsame]; exact h) hfin hd hn hfit hlen hdg (fun H1 locs1 hP _ hS => kk H1 locs1 ⟨?_, hS⟩)
  rw [← wG_setI hq he2]
  exact hP
theorem q_putL (E : EC p s m args c cc nL Ts own K N ad cf A) (hw : PW K N ad cf A s.heap σ H locs) (q : Nat) (hq : q < N) {ci n : Nat} {C : String} {T : u_T} {ty0 : Nat → FieldType} (hc : vwCl[ci]? = some (C, T, n)) (hin : ∀ w ∈ u_ws C T n, w ∈ Ts) (hty : ∀ k, k < n → parseFieldDescriptor (T k).2.2.1 = some (ty0 k)) (hnm : ∀ a, a < n → ∀ b, b < n → a ≠ b → (T a).2.1 ≠ (T b).2.1) {fs : List Value} (he : cf q (σ.1 q) (σ.2 q) = .inr (ci, fs)) (k : Nat) (hk : k < n) {x : Int64} (he2 : cf q (σ.1 q) (vp_updL (σ.2 q) k x) = .inr (ci, fs.set k (.long x))) (hlen : k < fs.length) {index : Nat} {ref : String} (hl : (Cond.fieldLink own index ref (T k).2.1 (T k).2.2.1).before args s = true) (hsame : (T k).1 = ref) (hfin : (T k).2.2.2 = false) (hd : parseFieldDescriptor (T k).2.2.1 = some .long) (hdg : decode cc pc = .ok (.putfield index, 3)) (kk : ∀ (H1 : Heap) (locs1 : List Loc), PW K N ad cf A s.heap (sL σ q k x) H1 locs1 → W p l e R s m args below meth c H1 locs1 cells slots Q (F0 m (pc + 3) ls rest)) : W p l e R s m args below meth c H locs cells slots Q (F0 m pc ls (.long x :: .ref (ad q) :: rest)) := by
  obtain ⟨hx, hb, -, hown, hts, hK, hD, -⟩ := E
  refine va_put (D := K.1) (ci := ci) (v := .long x) (ty := .long) (C := C) (T := T) (N := n) hx hb hts hin ty0 hty hnm hown hK hw.1 (hD σ) hw.2 q (by rw [wG_at hq, he]) hc k hk hl (fun x h => by rw [← hsame]; exact h) hfin hd rfl rfl hlen hdg (fun H1 locs1 hP _ hS => kk H1 locs1 ⟨?_, hS⟩)
  rw [← wG_setL hq he2]
  exact hP
theorem q_ildI (E : EC p s m args c cc nL Ts own K N ad cf A) (hw : PW K N ad cf A s.heap σ H locs) (q : Nat) (hq : q < N) {n : Nat} (he : cf q (σ.1 q) (σ.2 q) = .inl (K.2 0, n, .inl (σ.1 q))) {i : Int32} (hg : 0 ≤ i.toInt ∧ i.toInt < n) (hdg : decode cc pc = .ok (.iaload, 1)) (kk : W p l e R s m args below meth c H locs cells slots Q (F0 m (pc + 1) ls (.int (gI σ q i.toNatClampNeg) :: rest))) : W p l e R s m args below meth c H locs cells slots Q (F0 m pc ls (.int i :: .ref (ad q) :: rest)) := by
  obtain ⟨hx, hb, -, hown, hts, hK, -⟩ := E
  exact va_iald (f := σ.1 q) hx hb hK hw.1 q 0 (by rw [wG_at hq, he]) rfl (vp_in_iff.mpr hg) hdg kk
theorem q_ildB (E : EC p s m args c cc nL Ts own K N ad cf A) (hw : PW K N ad cf A s.heap σ H locs) (q : Nat) (hq : q < N) {n : Nat} (he : cf q (σ.1 q) (σ.2 q) = .inl (K.2 2, n, .inl (σ.1 q))) {i : Int32} (hg : 0 ≤ i.toInt ∧ i.toInt < n) (hdg : decode cc pc = .ok (.baload, 1)) (kk : W p l e R s m args below meth c H locs cells slots Q (F0 m (pc + 1) ls (.int (gI σ q i.toNatClampNeg) :: rest))) : W p l e R s m args below meth c H locs cells slots Q (F0 m pc ls (.int i :: .ref (ad q) :: rest)) := by
  obtain ⟨hx, hb, -, hown, hts, hK, -⟩ := E
  exact va_bald (f := σ.1 q) hx hb hK hw.1 q 2 (by rw [wG_at hq, he]) rfl (vp_in_iff.mpr hg) hdg kk
theorem q_ildZ (E : EC p s m args c cc nL Ts own K N ad cf A) (hw : PW K N ad cf A s.heap σ H locs) (q : Nat) (hq : q < N) {n : Nat} (he : cf q (σ.1 q) (σ.2 q) = .inl (K.2 3, n, .inl (σ.1 q))) {i : Int32} (hg : 0 ≤ i.toInt ∧ i.toInt < n) (hdg : decode cc pc = .ok (.baload, 1)) (kk : W p l e R s m args below meth c H locs cells slots Q (F0 m (pc + 1) ls (.int (gI σ q i.toNatClampNeg) :: rest))) : W p l e R s m args below meth c H locs cells slots Q (F0 m pc ls (.int i :: .ref (ad q) :: rest)) := by
  obtain ⟨hx, hb, -, hown, hts, hK, -⟩ := E
  exact va_zald (f := σ.1 q) hx hb hK hw.1 q 3 (by rw [wG_at hq, he]) rfl (vp_in_iff.mpr hg) hdg kk
theorem q_ildL (E : EC p s m args c cc nL Ts own K N ad cf A) (hw : PW K N ad cf A s.heap σ H locs) (q : Nat) (hq : q < N) {n : Nat} (he : cf q (σ.1 q) (σ.2 q) = .inl (K.2 1, n, .inr (.inl (σ.2 q)))) {i : Int32} (hg : 0 ≤ i.toInt ∧ i.toInt < n) (hdg : decode cc pc = .ok (.laload, 1)) (kk : W p l e R s m args below meth c H locs cells slots Q (F0 m (pc + 1) ls (.long (gL σ q i.toNatClampNeg) :: rest))) : W p l e R s m args below meth c H locs cells slots Q (F0 m pc ls (.int i :: .ref (ad q) :: rest)) := by
  obtain ⟨hx, hb, -, hown, hts, hK, -⟩ := E
  exact va_lald (f := σ.2 q) hx hb hK hw.1 q 1 (by rw [wG_at hq, he]) rfl (vp_in_iff.mpr hg) hdg kk
theorem q_istI (E : EC p s m args c cc nL Ts own K N ad cf A) (hw : PW K N ad cf A s.heap σ H locs) (q : Nat) (hq : q < N) {n : Nat} (he : ∀ f g, cf q f g = .inl (K.2 0, n, .inl f)) {i x : Int32} (hg : 0 ≤ i.toInt ∧ i.toInt < n) (hdg : decode cc pc = .ok (.iastore, 1)) (kk : ∀ (H1 : Heap) (locs1 : List Loc), PW K N ad cf A s.heap (sI σ q i.toNatClampNeg x) H1 locs1 → W p l e R s m args below meth c H1 locs1 cells slots Q (F0 m (pc + 1) ls rest)) : W p l e R s m args below meth c H locs cells slots Q (F0 m pc ls (.int x :: .int i :: .ref (ad q) :: rest)) := by
  obtain ⟨hx, hb, -, hown, hts, hK, hD, -⟩ := E
  refine va_iast hx hb hK hw.1 (hD σ) hw.2 q 0 (by rw [wG_at hq, he]) rfl (vp_in_iff.mpr hg) hdg (fun H1 locs1 hP _ hS => kk H1 locs1 ⟨?_, hS⟩)
  rw [← wG_setI hq (he _ _)]
  exact hP
theorem q_istB (E : EC p s m args c cc nL Ts own K N ad cf A) (hw : PW K N ad cf A s.heap σ H locs) (q : Nat) (hq : q < N) {n : Nat} (he : ∀ f g, cf q f g = .inl (K.2 2, n, .inl f)) {i x : Int32} (hg : 0 ≤ i.toInt ∧ i.toInt < n) (hdg : decode cc pc = .ok (.bastore, 1)) (kk : ∀ (H1 : Heap) (locs1 : List Loc), PW K N ad cf A s.heap (sI σ q i.toNatClampNeg (vp_nar .byte x)) H1 locs1 → W p l e R s m args below meth c H1 locs1 cells slots Q (F0 m (pc + 1) ls rest)) : W p l e R s m args below meth c H locs cells slots Q (F0 m pc ls (.int x :: .int i :: .ref (ad q) :: rest)) := by
  obtain ⟨hx, hb, -, hown, hts, hK, hD, -⟩ := E
  refine va_bast hx hb hK hw.1 (hD σ) hw.2 q 2 (by rw [wG_at hq, he]) rfl (vp_in_iff.mpr hg) hdg (fun H1 locs1 hP _ hS => kk H1 locs1 ⟨?_, hS⟩)
  rw [← wG_setI hq (he _ _)]
  exact hP
theorem q_istZ (E : EC p s m args c cc nL Ts own K N ad cf A) (hw : PW K N ad cf A s.heap σ H locs) (q : Nat) (hq : q < N) {n : Nat} (he : ∀ f g, cf q f g = .inl (K.2 3, n, .inl f)) {i x : Int32} (hg : 0 ≤ i.toInt ∧ i.toInt < n) (hdg : decode cc pc = .ok (.bastore, 1)) (kk : ∀ (H1 : Heap) (locs1 : List Loc), PW K N ad cf A s.heap (sI σ q i.toNatClampNeg (vp_nar .boolean x)) H1 locs1 → W p l e R s m args below meth c H1 locs1 cells slots Q (F0 m (pc + 1) ls rest)) : W p l e R s m args below meth c H locs cells slots Q (F0 m pc ls (.int x :: .int i :: .ref (ad q) :: rest)) := by
  obtain ⟨hx, hb, -, hown, hts, hK, hD, -⟩ := E
  refine va_zast hx hb hK hw.1 (hD σ) hw.2 q 3 (by rw [wG_at hq, he]) rfl (vp_in_iff.mpr hg) hdg (fun H1 locs1 hP _ hS => kk H1 locs1 ⟨?_, hS⟩)
  rw [← wG_setI hq (he _ _)]
  exact hP
theorem q_istL (E : EC p s m args c cc nL Ts own K N ad cf A) (hw : PW K N ad cf A s.heap σ H locs) (q : Nat) (hq : q < N) {n : Nat} (he : ∀ f g, cf q f g = .inl (K.2 1, n, .inr (.inl g))) {i : Int32} {x : Int64} (hg : 0 ≤ i.toInt ∧ i.toInt < n) (hdg : decode cc pc = .ok (.lastore, 1)) (kk : ∀ (H1 : Heap) (locs1 : List Loc), PW K N ad cf A s.heap (sL σ q i.toNatClampNeg x) H1 locs1 → W p l e R s m args below meth c H1 locs1 cells slots Q (F0 m (pc + 1) ls rest)) : W p l e R s m args below meth c H locs cells slots Q (F0 m pc ls (.long x :: .int i :: .ref (ad q) :: rest)) := by
  obtain ⟨hx, hb, -, hown, hts, hK, hD, -⟩ := E
  refine va_last hx hb hK hw.1 (hD σ) hw.2 q 1 (by rw [wG_at hq, he]) rfl (vp_in_iff.mpr hg) hdg (fun H1 locs1 hP _ hS => kk H1 locs1 ⟨?_, hS⟩)
  rw [← wG_setL hq (he _ _)]
  exact hP
theorem q_len (E : EC p s m args c cc nL Ts own K N ad cf A) (hw : PW K N ad cf A s.heap σ H locs) (q : Nat) (hq : q < N) {t0 : Nat} {cA : ClassId} {x : vp_A} {ty : FieldType} (he : cf q (σ.1 q) (σ.2 q) = .inl (cA, x)) (ht : (tysK K)[t0]? = some (cA, ty)) {v : Int32} (hv : Int32.ofNat x.1 = v) (hdg : decode cc pc = .ok (.arraylength, 1)) (kk : W p l e R s m args below meth c H locs cells slots Q (F0 m (pc + 1) ls (.int v :: rest))) : W p l e R s m args below meth c H locs cells slots Q (F0 m pc ls (.ref (ad q) :: rest)) := by
  obtain ⟨hx, hb, -, hown, hts, hK, -⟩ := E
  exact va_alen hx hb hK hw.1 q t0 (by rw [wG_at hq, he]) ht hv hdg kk
end QR
end
section
/-! contracts over a world, and calls -/
def PcW (K : vK) (N : Nat) (ad : Nat → Nat) (cf : vCf) (av : List Value) (σ : vSt) (sz : Nat) : Array Value → State → Prop := va_Pc av (fun U => U.heap.size = sz ∧ va_P K.1 vwCl (wG N ad cf σ) U.heap ∧ va_K K.1 vwCl (tysK K) U ∧ Amb (AA N ad sz) U U.heap)
def BW (K : vK) (N : Nat) (ad : Nat → Nat) (cf : vCf) (u : vSt) (t : State) : Prop := va_P K.1 vwCl (wG N ad cf u) t.heap
def wsY (y : MethodName) (cc : ByteArray) (nL : Nat) (ret : Option FieldType) : List Cond := .code y cc nL ret :: gtbl
def QCi (K : vK) (N : Nat) (ad : Nat → Nat) (cf : vCf) (r : Int32) (σ' : vSt) (sz : Nat) := va_Qi (fun (r1 : Int32) (u : vSt) => r1 = r ∧ u = σ') (BW K N ad cf) (AA N ad sz)
def QCz (K : vK) (N : Nat) (ad : Nat → Nat) (cf : vCf) (r : Int32) (σ' : vSt) (sz : Nat) := va_Qi (fun (r1 : Int32) (u : vSt) => (r1 = r ∧ u = σ') ∧ (r = 0 ∨ r = 1)) (BW K N ad cf) (AA N ad sz)
def QCl (K : vK) (N : Nat) (ad : Nat → Nat) (cf : vCf) (r : Int64) (σ' : vSt) (sz : Nat) := va_Ql (fun (r1 : Int64) (u : vSt) => r1 = r ∧ u = σ') (BW K N ad cf) (AA N ad sz)
def QCv (K : vK) (N : Nat) (ad : Nat → Nat) (cf : vCf) (σ' : vSt) (sz : Nat) := va_Qv (fun (u : vSt) => u = σ') (BW K N ad cf) (AA N ad sz)
def MCi (l : Launch) (y : MethodName) (ws : List Cond) (rm : Room) (K : vK) (N : Nat) (ad : Nat → Nat) (cf : vCf) (av : List Value) (σ : vSt) (r : Int32) (σ' : vSt) : Prop := ∀ sz, Met l y ws rm (PcW K N ad cf av σ sz) (QCi K N ad cf r σ' sz) 0 0 (AA N ad sz)
def MCz (l : Launch) (y : MethodName) (ws : List Cond) (rm : Room) (K : vK) (N : Nat) (ad : Nat → Nat) (cf : vCf) (av : List Value) (σ : vSt) (r : Int32) (σ' : vSt) : Prop := ∀ sz, Met l y ws rm (PcW K N ad cf av σ sz) (QCz K N ad cf r σ' sz) 0 0 (AA N ad sz)
def MCl (l : Launch) (y : MethodName) (ws : List Cond) (rm : Room) (K : vK) (N : Nat) (ad : Nat → Nat) (cf : vCf) (av : List Value) (σ : vSt) (r : Int64) (σ' : vSt) : Prop := ∀ sz, Met l y ws rm (PcW K N ad cf av σ sz) (QCl K N ad cf r σ' sz) 0 0 (AA N ad sz)
def MCv (l : Launch) (y : MethodName) (ws : List Cond) (rm : Room) (K : vK) (N : Nat) (ad : Nat → Nat) (cf : vCf) (av : List Value) (σ σ' : vSt) : Prop := ∀ sz, Met l y ws rm (PcW K N ad cf av σ sz) (QCv K N ad cf σ' sz) 0 0 (AA N ad sz)
/-- a world of no cells, for what is static -/
def ad_0 : Nat → Nat := fun _ => 0
def cf_0 : vCf := fun _ _ _ => .inr (0, [])
def st_0 : vSt := (fun _ _ => 0, fun _ _ => 0)
abbrev rmF (f k : Nat) : Room := { frames := f, cells := 0, slots := 0, locals := k }
theorem MC_of {l : Launch} {y : MethodName} {cc : ByteArray} {nL : Nat} {ret : Option FieldType} {own : String} {rm : Room} {K : vK} {N : Nat} {ad : Nat → Nat} {cf : vCf} {av : List Value} {σ : vSt} (Qc : Nat → Array Value → State → Outcome → State → Prop) (hy : plainName y.cls = true) (hI : adInj N ad) (ho : y.cls = own) (hav : (lg_sl av).length ≤ nL)
    (body : ∀ (p : Program) (e : Env) (s : State) (m : MethodId) (args : Array Value) (below : List Frame) (meth : Method) (c : Code) (A : Nat → Prop), EC p s m args c cc nL gtbl own K N ad cf A → meth.sig.returnType = ret → meth.locks = false → A = AA N ad s.heap.size → PW K N ad cf A s.heap σ s.heap [] → ∀ ls : Array Slot, lv_has ls nL (lv_args 0 av) → W p l e rm s m args below meth c s.heap [] 0 0 (MQ below (Qc s.heap.size) args s 0 0 A) (F0 m 0 ls [])) (sz : Nat) :
    Met l y (wsY y cc nL ret) rm (PcW K N ad cf av σ sz) (Qc sz) 0 0 (AA N ad sz) := by
  refine Met.ofW (cc := cc) (maxL := nL) (ret := ret) hy rfl ?_
  intro p e s m args below meth c s₁ B hml hv
  obtain ⟨rfl, hsz, hP, hK, hAm⟩ := hv
  have hts := atoms_spec (ws := wsY y cc nL ret) B.pre
  have hown : s.vm.findClass own = some m.cls := by rw [← ho]; exact findClass_of_methodNamed B.named
  subst hsz
  have hl := lv_entry av (n := nL) hav
  rw [lg_entry_eq]
  refine body p e s m _ below meth c (AA N ad s.heap.size) ⟨B.exec, B.bytes, hml, hown, fun w hw => hts w (List.mem_cons_of_mem _ hw), hK, wG_D hI (fun k hk => Or.inl ⟨k, hk, rfl⟩), fun q => Iff.rfl, hAm⟩ B.returns B.notSynchronized rfl ⟨hP, va_S.rf⟩ _ hl
/-- a method's own words -/
def MI (y : MethodName) (cc : ByteArray) (nL : Nat) (ret : Option FieldType) (C : String) (n : Nat) : Prop := Cond.initialized C ∈ gtbl ∧ Cond.code y cc nL ret ∈ gtbl ∧ (y.cls = C ∧ y.cls ≠ "java/lang/invoke/MethodHandle" ∧ y.cls ≠ "java/lang/invoke/VarHandle" ∧ (parseMethodDescriptor y.desc).map (fun d => d.parameters.length) = some n)
def MV (y : MethodName) (C : String) : Prop := Cond.instanceMethod y ∈ gtbl ∧ Cond.selects C y y ∈ gtbl
theorem gd_Y {y : MethodName} {cc : ByteArray} {nL : Nat} {ret : Option FieldType} (h : Cond.code y cc nL ret ∈ gtbl) : GoodIn gtbl (wsY y cc nL ret) := by
  intro w hw
  rcases List.mem_cons.mp hw with rfl | h2
  · exact ⟨h, good_of_word (gtbl_good h)⟩
  · exact ⟨h2, good_of_word (gtbl_good h2)⟩
theorem gd_V {y : MethodName} {cc : ByteArray} {nL : Nat} {ret : Option FieldType} {own C : String} {index n : Nat} (h1 : MI y cc nL ret C n) (h2 : MV y C) (h3 : Cond.methodLink own index y ∈ gtbl) : GoodIn gtbl (wsV own index C y (wsY y cc nL ret)) := by
  intro w hw
  have k : ∀ {w : Cond}, w ∈ gtbl → w ∈ gtbl ∧ ((w.onTables && w.keeps) = true ∨ ∃ ty, w = .arrayClass ty) := fun h => ⟨h, good_of_word (gtbl_good h)⟩
  unfold wsV at hw
  rcases List.mem_append.mp hw with h | h
  · simp only [List.mem_cons, List.not_mem_nil, or_false] at h
    rcases h with rfl | rfl | rfl | rfl
    · exact k h3
    · exact k h2.1
    · exact k h2.2
    · exact k h1.1
  · exact gd_Y h1.2.1 w h
theorem gd_S {y : MethodName} {cc : ByteArray} {nL : Nat} {ret : Option FieldType} {own C : String} {index n : Nat} (h1 : MI y cc nL ret C n) (h2 : Cond.static y ∈ gtbl) (h3 : Cond.methodLink own index y ∈ gtbl) : GoodIn gtbl (va_wsS own index y (wsY y cc nL ret)) := by
  intro w hw
  have k : ∀ {w : Cond}, w ∈ gtbl → w ∈ gtbl ∧ ((w.onTables && w.keeps) = true ∨ ∃ ty, w = .arrayClass ty) := fun h => ⟨h, good_of_word (gtbl_good h)⟩
  unfold va_wsS at hw
  rcases List.mem_append.mp hw with h | h
  · simp only [List.mem_cons, List.not_mem_nil, or_false] at h
    rcases h with rfl | rfl | rfl
    · exact k h3
    · exact k h2
    · rw [h1.2.2.1]; exact k h1.1
  · exact gd_Y h1.2.1 w h
theorem PcW_blind {K : vK} {N : Nat} {ad : Nat → Nat} {cf : vCf} {av : List Value} {σ : vSt} {sz : Nat} : FrameBlind (PcW K N ad cf av σ sz) := by
  intro a U g mk q
  obtain ⟨q0, q1, qP, qK, qA⟩ := q
  exact ⟨q0, q1, qP, va_K.moved (u := U) (U := U.calling g mk a) (Vm.Alike.refl U.vm) qK, Amb.same (u := U) (U := U.calling g mk a) rfl qA⟩
section KV
variable {p : Program} {l : Launch} {e : Env} {R : Room} {s : State} {m : MethodId} {args : Array Value} {below : List Frame} {meth : Method} {c : Code} {H : Heap} {locs : List Loc} {cells slots : Nat} {Q : State → Prop}
variable {cc : ByteArray} {nL : Nat} {own : String} {K : vK} {N : Nat} {ad : Nat → Nat} {cf : vCf} {A : Nat → Prop} {σ : vSt} {pc : Nat} {ls : Array Slot} {rest : List Value}
theorem AA_sub (E : EC p s m args c cc nL gtbl own K N ad cf A) (hS : va_S A s.heap H locs) : ∀ q, AA N ad H.size q → A q := by
  intro q h
  refine (E.2.2.2.2.2.2.2.1 q).mpr ?_
  rcases h with h | h
  · exact Or.inl h
  · exact Or.inr (Nat.le_trans hS.1 h)
theorem AA_sub0 (E : EC p s m args c cc nL gtbl own K N ad cf A) (hS : va_S A s.heap H locs) : ∀ q, AA 0 ad_0 H.size q → A q := by
  intro q h
  refine (E.2.2.2.2.2.2.2.1 q).mpr ?_
  rcases h with ⟨k, h, -⟩ | h
  · exact absurd h (Nat.not_lt_zero k)
  · exact Or.inr (Nat.le_trans hS.1 h)
theorem Amb_at (E : EC p s m args c cc nL gtbl own K N ad cf A) (hS : va_S A s.heap H locs) {B : Nat → Prop} (hB : ∀ q, B q → A q) {U : State} (hU : U.heap = H) (hW : s.WarmedH U.vm) : Amb B U U.heap := by
  rw [hU]
  exact Amb.narrow (Amb.kept (Amb.warm hW E.2.2.2.2.2.2.2.2) hS.2.1) hB
theorem PcW_at (E : EC p s m args c cc nL gtbl own K N ad cf A) (hw : PW K N ad cf A s.heap σ H locs) {av : List Value} : ∀ U : State, U.heap = H → s.WarmedH U.vm → PcW K N ad cf av σ H.size av.toArray U := fun U hU hW => ⟨rfl, by rw [hU], by rw [hU]; exact hw.1, va_K.moved hW.alike E.2.2.2.2.2.1, Amb_at E hw.2 (AA_sub E hw.2) hU hW⟩
theorem PcW_at0 (E : EC p s m args c cc nL gtbl own K N ad cf A) (hw : PW K N ad cf A s.heap σ H locs) {av : List Value} : ∀ U : State, U.heap = H → s.WarmedH U.vm → PcW K 0 ad_0 cf_0 av st_0 H.size av.toArray U := fun U hU hW => ⟨rfl, by rw [hU], (fun k q h => by cases h), va_K.moved hW.alike E.2.2.2.2.2.1, Amb_at E hw.2 (AA_sub0 E hw.2) hU hW⟩
theorem PW_kept (E : EC p s m args c cc nL gtbl own K N ad cf A) (hw : PW K N ad cf A s.heap σ H locs) {H1 : Heap} {locs1 : List Loc} (hk : ∀ q : Nat, q < H.size → ¬ AA 0 ad_0 H.size q → H1[q]? = H[q]?) (hS : va_S A s.heap H1 locs1) : PW K N ad cf A s.heap σ H1 locs1 := by
  refine ⟨fun k q hq => ?_, hS⟩
  refine (hw.1 k q hq).kept (hk q.1 (hw.1 k q hq).lt ?_)
  rintro (⟨j, h, -⟩ | h)
  · exact absurd h (Nat.not_lt_zero j)
  · exact absurd (hw.1 k q hq).lt (Nat.not_lt.mpr h)
variable {y : MethodName} {cb : ByteArray} {maxL index n q ci k : Nat} {rm : Room} {As st : List Value} {σ' : vSt} {C : String} {fs : List Value} {T : u_T}
theorem kV_i {r : Int32} (E : EC p s m args c cc nL gtbl own K N ad cf A) (hw : PW K N ad cf A s.heap σ H locs) (hM : MCi l y (wsY y cb maxL (some .int)) rm K N ad cf (.ref (ad q) :: As) σ r σ') (h1 : MI y cb maxL (some .int) C n) (h2 : MV y C) (h3 : Cond.methodLink own index y ∈ gtbl) (hq : q < N) (he : cf q (σ.1 q) (σ.2 q) = .inr (ci, fs)) (hc : vwCl[ci]? = some (C, T, k)) (hn : As.length = n) (hR : (rm.frames + 1 ≤ R.frames ∧ 8 + (maxL + 11) + rm.locals ≤ R.locals) ∧ rm.cells = 0 ∧ rm.slots = 0) (hf : cells ≤ R.cells ∧ slots ≤ R.slots) (hls : ls.size = nL) (hst : st = As.reverse ++ .ref (ad q) :: rest) (hro : (rest.map fun v => v.category).sum ≤ 8) (hdg : decode cc pc = .ok (.invokevirtual index, 3))
    (kk : ∀ (H1 : Heap) (locs1 : List Loc), PW K N ad cf A s.heap σ' H1 locs1 → W p l e R s m args below meth c H1 locs1 cells slots Q (F0 m (pc + 3) ls (.int r :: rest))) : W p l e R s m args below meth c H locs cells slots Q (F0 m pc ls st) := by
  have hx := E.1
  have hK := E.2.2.2.2.2.1
  refine va_calli (va_runV (As := As) (rest := rest) ⟨E.1, E.2.1, E.2.2.1, E.2.2.2.1, E.2.2.2.2.1⟩ (hM H.size) (cwV n E.2.2.2.2.1 (gd_V h1 h2 h3) rfl hR.2.1 hR.2.2 h1.2.2 hR.1) ⟨PcW_blind, va_recv hK hw.1 (ci := ci) (q0 := q) hc (by rw [wG_at hq, he]), PcW_at E hw⟩ rfl hn hls hst (lv_room hro) hdg ⟨hf.1, hf.2⟩) hw.2 (fun q _ h => AA_sub E hw.2 q h) (AA_sub E hw.2) (fun r1 u t H1 locs1 ht hvm hp hB hz hk hS => ?_)
  obtain ⟨rfl, rfl⟩ := hp
  exact kk H1 locs1 ⟨by rw [← ht]; exact hB, hS⟩
theorem kV_z {r : Int32} (E : EC p s m args c cc nL gtbl own K N ad cf A) (hw : PW K N ad cf A s.heap σ H locs) (hM : MCz l y (wsY y cb maxL (some .boolean)) rm K N ad cf (.ref (ad q) :: As) σ r σ') (h1 : MI y cb maxL (some .boolean) C n) (h2 : MV y C) (h3 : Cond.methodLink own index y ∈ gtbl) (hq : q < N) (he : cf q (σ.1 q) (σ.2 q) = .inr (ci, fs)) (hc : vwCl[ci]? = some (C, T, k)) (hn : As.length = n) (hR : (rm.frames + 1 ≤ R.frames ∧ 8 + (maxL + 11) + rm.locals ≤ R.locals) ∧ rm.cells = 0 ∧ rm.slots = 0) (hf : cells ≤ R.cells ∧ slots ≤ R.slots) (hls : ls.size = nL) (hst : st = As.reverse ++ .ref (ad q) :: rest) (hro : (rest.map fun v => v.category).sum ≤ 8) (hdg : decode cc pc = .ok (.invokevirtual index, 3))
    (kk : (r = 0 ∨ r = 1) → ∀ (H1 : Heap) (locs1 : List Loc), PW K N ad cf A s.heap σ' H1 locs1 → W p l e R s m args below meth c H1 locs1 cells slots Q (F0 m (pc + 3) ls (.int r :: rest))) : W p l e R s m args below meth c H locs cells slots Q (F0 m pc ls st) := by
  have hx := E.1
  have hK := E.2.2.2.2.2.1
  refine va_calli (va_runV (As := As) (rest := rest) ⟨E.1, E.2.1, E.2.2.1, E.2.2.2.1, E.2.2.2.2.1⟩ (hM H.size) (cwV n E.2.2.2.2.1 (gd_V h1 h2 h3) rfl hR.2.1 hR.2.2 h1.2.2 hR.1) ⟨PcW_blind, va_recv hK hw.1 (ci := ci) (q0 := q) hc (by rw [wG_at hq, he]), PcW_at E hw⟩ rfl hn hls hst (lv_room hro) hdg ⟨hf.1, hf.2⟩) hw.2 (fun q _ h => AA_sub E hw.2 q h) (AA_sub E hw.2) (fun r1 u t H1 locs1 ht hvm hp hB hz hk hS => ?_)
  obtain ⟨⟨rfl, rfl⟩, hp2⟩ := hp
  exact kk hp2 H1 locs1 ⟨by rw [← ht]; exact hB, hS⟩
theorem kV_l {r : Int64} (E : EC p s m args c cc nL gtbl own K N ad cf A) (hw : PW K N ad cf A s.heap σ H locs) (hM : MCl l y (wsY y cb maxL (some .long)) rm K N ad cf (.ref (ad q) :: As) σ r σ') (h1 : MI y cb maxL (some .long) C n) (h2 : MV y C) (h3 : Cond.methodLink own index y ∈ gtbl) (hq : q < N) (he : cf q (σ.1 q) (σ.2 q) = .inr (ci, fs)) (hc : vwCl[ci]? = some (C, T, k)) (hn : As.length = n) (hR : (rm.frames + 1 ≤ R.frames ∧ 8 + (maxL + 11) + rm.locals ≤ R.locals) ∧ rm.cells = 0 ∧ rm.slots = 0) (hf : cells ≤ R.cells ∧ slots ≤ R.slots) (hls : ls.size = nL) (hst : st = As.reverse ++ .ref (ad q) :: rest) (hro : (rest.map fun v => v.category).sum ≤ 8) (hdg : decode cc pc = .ok (.invokevirtual index, 3))
    (kk : ∀ (H1 : Heap) (locs1 : List Loc), PW K N ad cf A s.heap σ' H1 locs1 → W p l e R s m args below meth c H1 locs1 cells slots Q (F0 m (pc + 3) ls (.long r :: rest))) : W p l e R s m args below meth c H locs cells slots Q (F0 m pc ls st) := by
  have hx := E.1
  have hK := E.2.2.2.2.2.1
  refine va_calll (va_runV (As := As) (rest := rest) ⟨E.1, E.2.1, E.2.2.1, E.2.2.2.1, E.2.2.2.2.1⟩ (hM H.size) (cwV n E.2.2.2.2.1 (gd_V h1 h2 h3) rfl hR.2.1 hR.2.2 h1.2.2 hR.1) ⟨PcW_blind, va_recv hK hw.1 (ci := ci) (q0 := q) hc (by rw [wG_at hq, he]), PcW_at E hw⟩ rfl hn hls hst (lv_room hro) hdg ⟨hf.1, hf.2⟩) hw.2 (fun q _ h => AA_sub E hw.2 q h) (AA_sub E hw.2) (fun r1 u t H1 locs1 ht hvm hp hB hz hk hS => ?_)
  obtain ⟨rfl, rfl⟩ := hp
  exact kk H1 locs1 ⟨by rw [← ht]; exact hB, hS⟩
theorem kV_v (E : EC p s m args c cc nL gtbl own K N ad cf A) (hw : PW K N ad cf A s.heap σ H locs) (hM : MCv l y (wsY y cb maxL none) rm K N ad cf (.ref (ad q) :: As) σ σ') (h1 : MI y cb maxL none C n) (h2 : MV y C) (h3 : Cond.methodLink own index y ∈ gtbl) (hq : q < N) (he : cf q (σ.1 q) (σ.2 q) = .inr (ci, fs)) (hc : vwCl[ci]? = some (C, T, k)) (hn : As.length = n) (hR : (rm.frames + 1 ≤ R.frames ∧ 8 + (maxL + 11) + rm.locals ≤ R.locals) ∧ rm.cells = 0 ∧ rm.slots = 0) (hf : cells ≤ R.cells ∧ slots ≤ R.slots) (hls : ls.size = nL) (hst : st = As.reverse ++ .ref (ad q) :: rest) (hro : (rest.map fun v => v.category).sum ≤ 8) (hdg : decode cc pc = .ok (.invokevirtual index, 3))
    (kk : ∀ (H1 : Heap) (locs1 : List Loc), PW K N ad cf A s.heap σ' H1 locs1 → W p l e R s m args below meth c H1 locs1 cells slots Q (F0 m (pc + 3) ls rest)) : W p l e R s m args below meth c H locs cells slots Q (F0 m pc ls st) := by
  have hx := E.1
  have hK := E.2.2.2.2.2.1
  refine va_callv (va_runV (As := As) (rest := rest) ⟨E.1, E.2.1, E.2.2.1, E.2.2.2.1, E.2.2.2.2.1⟩ (hM H.size) (cwV n E.2.2.2.2.1 (gd_V h1 h2 h3) rfl hR.2.1 hR.2.2 h1.2.2 hR.1) ⟨PcW_blind, va_recv hK hw.1 (ci := ci) (q0 := q) hc (by rw [wG_at hq, he]), PcW_at E hw⟩ rfl hn hls hst (lv_room hro) hdg ⟨hf.1, hf.2⟩) hw.2 (fun q _ h => AA_sub E hw.2 q h) (AA_sub E hw.2) (fun u t H1 locs1 ht hvm hp hB hz hk hS => ?_)
  subst hp
  exact kk H1 locs1 ⟨by rw [← ht]; exact hB, hS⟩
/-- static ones: no cells of their own -/
theorem kS_i {r : Int32} (E : EC p s m args c cc nL gtbl own K N ad cf A) (hw : PW K N ad cf A s.heap σ H locs) (hM : MCi l y (wsY y cb maxL (some .int)) rm K 0 ad_0 cf_0 As st_0 r st_0) (h1 : MI y cb maxL (some .int) C n) (h2 : Cond.static y ∈ gtbl) (h3 : Cond.methodLink own index y ∈ gtbl) (hn : As.length = n) (hR : (rm.frames + 1 ≤ R.frames ∧ 8 + (maxL + 11) + rm.locals ≤ R.locals) ∧ rm.cells = 0 ∧ rm.slots = 0) (hf : cells ≤ R.cells ∧ slots ≤ R.slots) (hls : ls.size = nL) (hst : st = As.reverse ++ rest) (hro : (rest.map fun v => v.category).sum ≤ 8) (hdg : decode cc pc = .ok (.invokestatic index, 3))
    (kk : ∀ (H1 : Heap) (locs1 : List Loc), PW K N ad cf A s.heap σ H1 locs1 → W p l e R s m args below meth c H1 locs1 cells slots Q (F0 m (pc + 3) ls (.int r :: rest))) : W p l e R s m args below meth c H locs cells slots Q (F0 m pc ls st) := by
  refine va_calli (va_runS (As := As) (rest := rest) ⟨E.1, E.2.1, E.2.2.1, E.2.2.2.1, E.2.2.2.2.1⟩ (hM H.size) (va_cwS n E.2.2.2.2.1 (gd_S h1 h2 h3) rfl hR.2.1 hR.2.2 h1.2.2.2 hR.1) ⟨PcW_blind, PcW_at0 E hw⟩ rfl hn hls hst (lv_room hro) hdg ⟨hf.1, hf.2⟩) hw.2 (fun q _ h => AA_sub0 E hw.2 q h) (AA_sub0 E hw.2) (fun r1 u t H1 locs1 ht hvm hp hB hz hk hS => ?_)
  obtain ⟨rfl, rfl⟩ := hp
  exact kk H1 locs1 (PW_kept E hw hk hS)
theorem kS_z {r : Int32} (E : EC p s m args c cc nL gtbl own K N ad cf A) (hw : PW K N ad cf A s.heap σ H locs) (hM : MCz l y (wsY y cb maxL (some .boolean)) rm K 0 ad_0 cf_0 As st_0 r st_0) (h1 : MI y cb maxL (some .boolean) C n) (h2 : Cond.static y ∈ gtbl) (h3 : Cond.methodLink own index y ∈ gtbl) (hn : As.length = n) (hR : (rm.frames + 1 ≤ R.frames ∧ 8 + (maxL + 11) + rm.locals ≤ R.locals) ∧ rm.cells = 0 ∧ rm.slots = 0) (hf : cells ≤ R.cells ∧ slots ≤ R.slots) (hls : ls.size = nL) (hst : st = As.reverse ++ rest) (hro : (rest.map fun v => v.category).sum ≤ 8) (hdg : decode cc pc = .ok (.invokestatic index, 3))
    (kk : (r = 0 ∨ r = 1) → ∀ (H1 : Heap) (locs1 : List Loc), PW K N ad cf A s.heap σ H1 locs1 → W p l e R s m args below meth c H1 locs1 cells slots Q (F0 m (pc + 3) ls (.int r :: rest))) : W p l e R s m args below meth c H locs cells slots Q (F0 m pc ls st) := by
  refine va_calli (va_runS (As := As) (rest := rest) ⟨E.1, E.2.1, E.2.2.1, E.2.2.2.1, E.2.2.2.2.1⟩ (hM H.size) (va_cwS n E.2.2.2.2.1 (gd_S h1 h2 h3) rfl hR.2.1 hR.2.2 h1.2.2.2 hR.1) ⟨PcW_blind, PcW_at0 E hw⟩ rfl hn hls hst (lv_room hro) hdg ⟨hf.1, hf.2⟩) hw.2 (fun q _ h => AA_sub0 E hw.2 q h) (AA_sub0 E hw.2) (fun r1 u t H1 locs1 ht hvm hp hB hz hk hS => ?_)
  obtain ⟨⟨rfl, rfl⟩, hp2⟩ := hp
  exact kk hp2 H1 locs1 (PW_kept E hw hk hS)
theorem kN_i {r : Int32} {host : String} (E : EC p s m args c cc nL gtbl own K N ad cf A) (hw : PW K N ad cf A s.heap σ H locs) (hM : MCi l y (wsY y cb maxL (some .int)) rm K 0 ad_0 cf_0 As st_0 r st_0) (h1 : MI y cb maxL (some .int) C n) (h2 : Cond.static y ∈ gtbl) (h3 : va_Nw (.methodLinkNest own index y host) s) (hn : As.length = n) (hR : (rm.frames + 1 ≤ R.frames ∧ 8 + (maxL + 11) + rm.locals ≤ R.locals) ∧ rm.cells = 0 ∧ rm.slots = 0) (hf : cells ≤ R.cells ∧ slots ≤ R.slots) (hls : ls.size = nL) (hst : st = As.reverse ++ rest) (hro : (rest.map fun v => v.category).sum ≤ 8) (hdg : decode cc pc = .ok (.invokestatic index, 3))
    (kk : ∀ (H1 : Heap) (locs1 : List Loc), PW K N ad cf A s.heap σ H1 locs1 → W p l e R s m args below meth c H1 locs1 cells slots Q (F0 m (pc + 3) ls (.int r :: rest))) : W p l e R s m args below meth c H locs cells slots Q (F0 m pc ls st) := by
  have hts := E.2.2.2.2.1
  refine va_calli (va_runSN (As := As) (rest := rest) ⟨E.1, E.2.1, E.2.2.1, E.2.2.2.1, E.2.2.2.2.1⟩ (hM H.size) ⟨va_cnB n hts (gd_Y h1.2.1) rfl hR.2.1 hR.2.2 h3 (hts _ (by rw [h1.2.2.1]; exact h1.1)) h1.2.2.2 hR.1, hts _ h2, trivial⟩ ⟨PcW_blind, PcW_at0 E hw⟩ rfl hn hls hst (lv_room hro) hdg ⟨hf.1, hf.2⟩) hw.2 (fun q _ h => AA_sub0 E hw.2 q h) (AA_sub0 E hw.2) (fun r1 u t H1 locs1 ht hvm hp hB hz hk hS => ?_)
  obtain ⟨rfl, rfl⟩ := hp
  exact kk H1 locs1 (PW_kept E hw hk hS)
/-- ends -/
theorem q_iret {r v : Int32} (E : EC p s m args c cc nL gtbl own K N ad cf A) (hA : A = AA N ad s.heap.size) (hr : meth.sig.returnType = some .int) (hlocks : meth.locks = false) (hw : PW K N ad cf A s.heap σ H locs) (h1 : v = r) (h2 : σ = σ') (hdg : decode cc pc = .ok (.ireturn, 1)) : W p l e R s m args below meth c H locs cells slots (MQ below (QCi K N ad cf r σ' s.heap.size) args s cells slots A) (F0 m pc ls [.int v]) := by
  subst h1; subst h2; subst hA
  exact W.iret E.1 E.2.1 hr (fun t ht hW => ⟨⟨v, σ, rfl, ⟨rfl, rfl⟩, by unfold BW; rw [ht]; exact hw.1⟩, hw.2.F ht⟩) hw.2.2.2 hdg hlocks
theorem q_zret {r v : Int32} (E : EC p s m args c cc nL gtbl own K N ad cf A) (hA : A = AA N ad s.heap.size) (hr : meth.sig.returnType = some .boolean) (hlocks : meth.locks = false) (hw : PW K N ad cf A s.heap σ H locs) (h1 : v = r) (h2 : σ = σ') (hz : v = 0 ∨ v = 1) (hdg : decode cc pc = .ok (.ireturn, 1)) : W p l e R s m args below meth c H locs cells slots (MQ below (QCz K N ad cf r σ' s.heap.size) args s cells slots A) (F0 m pc ls [.int v]) := by
  subst h1; subst h2; subst hA
  refine W.zret E.1 E.2.1 hr ?_ (fun t ht hW => ⟨⟨v, σ, rfl, ⟨⟨rfl, rfl⟩, hz⟩, by unfold BW; rw [ht]; exact hw.1⟩, hw.2.F ht⟩) hw.2.2.2 hdg hlocks
  rcases hz with rfl | rfl <;> rfl
theorem q_lret {r v : Int64} (E : EC p s m args c cc nL gtbl own K N ad cf A) (hA : A = AA N ad s.heap.size) (hr : meth.sig.returnType = some .long) (hlocks : meth.locks = false) (hw : PW K N ad cf A s.heap σ H locs) (h1 : v = r) (h2 : σ = σ') (hdg : decode cc pc = .ok (.lreturn, 1)) : W p l e R s m args below meth c H locs cells slots (MQ below (QCl K N ad cf r σ' s.heap.size) args s cells slots A) (F0 m pc ls [.long v]) := by
  subst h1; subst h2; subst hA
  exact W.lret E.1 E.2.1 hr (fun t ht hW => ⟨⟨v, σ, rfl, ⟨rfl, rfl⟩, by unfold BW; rw [ht]; exact hw.1⟩, hw.2.F ht⟩) hw.2.2.2 hdg hlocks
theorem q_vret (E : EC p s m args c cc nL gtbl own K N ad cf A) (hA : A = AA N ad s.heap.size) (hr : meth.sig.returnType = none) (hlocks : meth.locks = false) (hw : PW K N ad cf A s.heap σ H locs) (h2 : σ = σ') (hdg : decode cc pc = .ok (.return_, 1)) : W p l e R s m args below meth c H locs cells slots (MQ below (QCv K N ad cf σ' s.heap.size) args s cells slots A) (F0 m pc ls []) := by
  subst h2; subst hA
  exact W.vret E.1 E.2.1 hr (fun t ht hW => ⟨⟨σ, rfl, rfl, by unfold BW; rw [ht]; exact hw.1⟩, hw.2.F ht⟩) hw.2.2.2 hdg hlocks
end KV
end
