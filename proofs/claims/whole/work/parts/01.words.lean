-- ===== PART A: goes FIRST, ahead of the names: the tables' words, and 'selects' of the private methods out of them =====
/-- a private method of a class that the tables say can be made, by its rows of tables_1 -/
def lw_okq (q : MethodName × Nat) : Prop := (q.1.cls ≠ "java/lang/invoke/MethodHandle" ∧ q.1.cls ≠ "java/lang/invoke/VarHandle") ∧ Cond.instantiable q.1.cls q.2 ∈ tables_1 ∧ Cond.privateMethod q.1 ∈ tables_1 ∧ Cond.instanceMethod q.1 ∈ tables_1
theorem lw_p0 : lw_okq (⟨"SkeletonTree", "linkEdges", "()V"⟩, 10) := ⟨⟨by decide +kernel, by decide +kernel⟩, List.mem_of_getElem? (i := 17) (by decide +kernel), List.mem_of_getElem? (i := 198) (by decide +kernel), List.mem_of_getElem? (i := 199) (by decide +kernel)⟩
theorem lw_p1 : lw_okq (⟨"SkeletonTree", "fillFirstPiece", "()V"⟩, 10) := ⟨⟨by decide +kernel, by decide +kernel⟩, List.mem_of_getElem? (i := 17) (by decide +kernel), List.mem_of_getElem? (i := 231) (by decide +kernel), List.mem_of_getElem? (i := 232) (by decide +kernel)⟩
theorem lw_p2 : lw_okq (⟨"SkeletonTree$Pieces", "comeApartFrom", "(I)V"⟩, 8) := ⟨⟨by decide +kernel, by decide +kernel⟩, List.mem_of_getElem? (i := 47) (by decide +kernel), List.mem_of_getElem? (i := 250) (by decide +kernel), List.mem_of_getElem? (i := 251) (by decide +kernel)⟩
theorem lw_p3 : lw_okq (⟨"SkeletonTree$Pieces", "linkPiece", "(I)V"⟩, 8) := ⟨⟨by decide +kernel, by decide +kernel⟩, List.mem_of_getElem? (i := 47) (by decide +kernel), List.mem_of_getElem? (i := 254) (by decide +kernel), List.mem_of_getElem? (i := 255) (by decide +kernel)⟩
theorem lw_p4 : lw_okq (⟨"SkeletonTree$Pieces", "splitAt", "(III)V"⟩, 8) := ⟨⟨by decide +kernel, by decide +kernel⟩, List.mem_of_getElem? (i := 47) (by decide +kernel), List.mem_of_getElem? (i := 264) (by decide +kernel), List.mem_of_getElem? (i := 265) (by decide +kernel)⟩
theorem lw_p5 : lw_okq (⟨"SkeletonTree$Pieces", "splitOff", "(III)V"⟩, 8) := ⟨⟨by decide +kernel, by decide +kernel⟩, List.mem_of_getElem? (i := 47) (by decide +kernel), List.mem_of_getElem? (i := 273) (by decide +kernel), List.mem_of_getElem? (i := 274) (by decide +kernel)⟩
theorem lw_p6 : lw_okq (⟨"SkeletonTree$Pieces", "kindByPoints", "()I"⟩, 8) := ⟨⟨by decide +kernel, by decide +kernel⟩, List.mem_of_getElem? (i := 47) (by decide +kernel), List.mem_of_getElem? (i := 281) (by decide +kernel), List.mem_of_getElem? (i := 282) (by decide +kernel)⟩
theorem lw_p7 : lw_okq (⟨"SkeletonTree$Pieces", "moveAll", "(II)V"⟩, 8) := ⟨⟨by decide +kernel, by decide +kernel⟩, List.mem_of_getElem? (i := 47) (by decide +kernel), List.mem_of_getElem? (i := 290) (by decide +kernel), List.mem_of_getElem? (i := 291) (by decide +kernel)⟩
theorem lw_p8 : lw_okq (⟨"SkeletonTree$Order", "findLeastEdges", "(LSkeletonTree$Pieces;)V"⟩, 7) := ⟨⟨by decide +kernel, by decide +kernel⟩, List.mem_of_getElem? (i := 87) (by decide +kernel), List.mem_of_getElem? (i := 298) (by decide +kernel), List.mem_of_getElem? (i := 299) (by decide +kernel)⟩
theorem lw_p9 : lw_okq (⟨"SkeletonTree$Order", "layRow", "(LSkeletonTree$Pieces;)V"⟩, 7) := ⟨⟨by decide +kernel, by decide +kernel⟩, List.mem_of_getElem? (i := 87) (by decide +kernel), List.mem_of_getElem? (i := 303) (by decide +kernel), List.mem_of_getElem? (i := 304) (by decide +kernel)⟩
theorem lw_p10 : lw_okq (⟨"SkeletonTree$Order", "sumUp", "()V"⟩, 7) := ⟨⟨by decide +kernel, by decide +kernel⟩, List.mem_of_getElem? (i := 87) (by decide +kernel), List.mem_of_getElem? (i := 310) (by decide +kernel), List.mem_of_getElem? (i := 311) (by decide +kernel)⟩
theorem lw_p11 : lw_okq (⟨"SkeletonTree$Order", "numberFor", "(I)I"⟩, 7) := ⟨⟨by decide +kernel, by decide +kernel⟩, List.mem_of_getElem? (i := 87) (by decide +kernel), List.mem_of_getElem? (i := 317) (by decide +kernel), List.mem_of_getElem? (i := 318) (by decide +kernel)⟩
theorem lw_p12 : lw_okq (⟨"SkeletonTree$Nodes", "takeNode", "(LSkeletonTree$Pieces;LSkeletonTree$Order;I)V"⟩, 8) := ⟨⟨by decide +kernel, by decide +kernel⟩, List.mem_of_getElem? (i := 120) (by decide +kernel), List.mem_of_getElem? (i := 325) (by decide +kernel), List.mem_of_getElem? (i := 326) (by decide +kernel)⟩
theorem lw_p13 : lw_okq (⟨"java/lang/Throwable", "fillInStackTrace", "(I)Ljava/lang/Throwable;"⟩, 6) := ⟨⟨by decide +kernel, by decide +kernel⟩, List.mem_of_getElem? (i := 384) (by decide +kernel), List.mem_of_getElem? (i := 382) (by decide +kernel), List.mem_of_getElem? (i := 383) (by decide +kernel)⟩
theorem lw_p14 : lw_okq (⟨"SkeletonTree", "isThere", "(I)Z"⟩, 10) := ⟨⟨by decide +kernel, by decide +kernel⟩, List.mem_of_getElem? (i := 17) (by decide +kernel), List.mem_of_getElem? (i := 437) (by decide +kernel), List.mem_of_getElem? (i := 438) (by decide +kernel)⟩
theorem lw_p15 : lw_okq (⟨"SkeletonTree", "checkNode", "(I)V"⟩, 10) := ⟨⟨by decide +kernel, by decide +kernel⟩, List.mem_of_getElem? (i := 17) (by decide +kernel), List.mem_of_getElem? (i := 450) (by decide +kernel), List.mem_of_getElem? (i := 451) (by decide +kernel)⟩
def lw_privs_1 : List (MethodName × Nat) := [(⟨"SkeletonTree", "linkEdges", "()V"⟩, 10), (⟨"SkeletonTree", "fillFirstPiece", "()V"⟩, 10), (⟨"SkeletonTree$Pieces", "comeApartFrom", "(I)V"⟩, 8), (⟨"SkeletonTree$Pieces", "linkPiece", "(I)V"⟩, 8), (⟨"SkeletonTree$Pieces", "splitAt", "(III)V"⟩, 8), (⟨"SkeletonTree$Pieces", "splitOff", "(III)V"⟩, 8), (⟨"SkeletonTree$Pieces", "kindByPoints", "()I"⟩, 8), (⟨"SkeletonTree$Pieces", "moveAll", "(II)V"⟩, 8), (⟨"SkeletonTree$Order", "findLeastEdges", "(LSkeletonTree$Pieces;)V"⟩, 7), (⟨"SkeletonTree$Order", "layRow", "(LSkeletonTree$Pieces;)V"⟩, 7), (⟨"SkeletonTree$Order", "sumUp", "()V"⟩, 7), (⟨"SkeletonTree$Order", "numberFor", "(I)I"⟩, 7), (⟨"SkeletonTree$Nodes", "takeNode", "(LSkeletonTree$Pieces;LSkeletonTree$Order;I)V"⟩, 8), (⟨"java/lang/Throwable", "fillInStackTrace", "(I)Ljava/lang/Throwable;"⟩, 6), (⟨"SkeletonTree", "isThere", "(I)Z"⟩, 10), (⟨"SkeletonTree", "checkNode", "(I)V"⟩, 10)]
theorem lw_r1 : ∀ q ∈ lw_privs_1, lw_okq q := List.forall_mem_cons.mpr ⟨lw_p0, List.forall_mem_cons.mpr ⟨lw_p1, List.forall_mem_cons.mpr ⟨lw_p2, List.forall_mem_cons.mpr ⟨lw_p3, List.forall_mem_cons.mpr ⟨lw_p4, List.forall_mem_cons.mpr ⟨lw_p5, List.forall_mem_cons.mpr ⟨lw_p6, List.forall_mem_cons.mpr ⟨lw_p7, List.forall_mem_cons.mpr ⟨lw_p8, List.forall_mem_cons.mpr ⟨lw_p9, List.forall_mem_cons.mpr ⟨lw_p10, List.forall_mem_cons.mpr ⟨lw_p11, List.forall_mem_cons.mpr ⟨lw_p12, List.forall_mem_cons.mpr ⟨lw_p13, List.forall_mem_cons.mpr ⟨lw_p14, List.forall_mem_cons.mpr ⟨lw_p15, fun _ h => absurd h List.not_mem_nil⟩⟩⟩⟩⟩⟩⟩⟩⟩⟩⟩⟩⟩⟩⟩⟩
theorem lw_p16 : lw_okq (⟨"SkeletonTree", "checkTree", "()V"⟩, 10) := ⟨⟨by decide +kernel, by decide +kernel⟩, List.mem_of_getElem? (i := 17) (by decide +kernel), List.mem_of_getElem? (i := 454) (by decide +kernel), List.mem_of_getElem? (i := 455) (by decide +kernel)⟩
theorem lw_p17 : lw_okq (⟨"SkeletonTree$Nodes", "findNeighbour", "(II)I"⟩, 8) := ⟨⟨by decide +kernel, by decide +kernel⟩, List.mem_of_getElem? (i := 120) (by decide +kernel), List.mem_of_getElem? (i := 502) (by decide +kernel), List.mem_of_getElem? (i := 503) (by decide +kernel)⟩
theorem lw_p18 : lw_okq (⟨"SkeletonTree", "checkPoint", "(I)V"⟩, 10) := ⟨⟨by decide +kernel, by decide +kernel⟩, List.mem_of_getElem? (i := 17) (by decide +kernel), List.mem_of_getElem? (i := 537) (by decide +kernel), List.mem_of_getElem? (i := 538) (by decide +kernel)⟩
theorem lw_p19 : lw_okq (⟨"SkeletonTreeModel", "refused", "(ZZ)Z"⟩, 23) := ⟨⟨by decide +kernel, by decide +kernel⟩, List.mem_of_getElem? (i := 563) (by decide +kernel), List.mem_of_getElem? (i := 650) (by decide +kernel), List.mem_of_getElem? (i := 651) (by decide +kernel)⟩
theorem lw_p20 : lw_okq (⟨"SkeletonTreeModel", "isEdge", "(I)Z"⟩, 23) := ⟨⟨by decide +kernel, by decide +kernel⟩, List.mem_of_getElem? (i := 563) (by decide +kernel), List.mem_of_getElem? (i := 658) (by decide +kernel), List.mem_of_getElem? (i := 659) (by decide +kernel)⟩
theorem lw_p21 : lw_okq (⟨"SkeletonTreeModel", "isFit", "()Z"⟩, 23) := ⟨⟨by decide +kernel, by decide +kernel⟩, List.mem_of_getElem? (i := 563) (by decide +kernel), List.mem_of_getElem? (i := 670) (by decide +kernel), List.mem_of_getElem? (i := 671) (by decide +kernel)⟩
theorem lw_p22 : lw_okq (⟨"SkeletonTreeModel", "isOne", "(I)Z"⟩, 23) := ⟨⟨by decide +kernel, by decide +kernel⟩, List.mem_of_getElem? (i := 563) (by decide +kernel), List.mem_of_getElem? (i := 675) (by decide +kernel), List.mem_of_getElem? (i := 676) (by decide +kernel)⟩
theorem lw_p23 : lw_okq (⟨"SkeletonTreeModel", "join", "(II)V"⟩, 23) := ⟨⟨by decide +kernel, by decide +kernel⟩, List.mem_of_getElem? (i := 563) (by decide +kernel), List.mem_of_getElem? (i := 679) (by decide +kernel), List.mem_of_getElem? (i := 680) (by decide +kernel)⟩
theorem lw_p24 : lw_okq (⟨"SkeletonTreeModel", "same", "(II)V"⟩, 23) := ⟨⟨by decide +kernel, by decide +kernel⟩, List.mem_of_getElem? (i := 563) (by decide +kernel), List.mem_of_getElem? (i := 683) (by decide +kernel), List.mem_of_getElem? (i := 684) (by decide +kernel)⟩
theorem lw_p25 : lw_okq (⟨"SkeletonTreeModel", "isUsed", "(I)Z"⟩, 23) := ⟨⟨by decide +kernel, by decide +kernel⟩, List.mem_of_getElem? (i := 563) (by decide +kernel), List.mem_of_getElem? (i := 687) (by decide +kernel), List.mem_of_getElem? (i := 688) (by decide +kernel)⟩
theorem lw_p26 : lw_okq (⟨"SkeletonTreeModel", "add", "(IIII)V"⟩, 23) := ⟨⟨by decide +kernel, by decide +kernel⟩, List.mem_of_getElem? (i := 563) (by decide +kernel), List.mem_of_getElem? (i := 691) (by decide +kernel), List.mem_of_getElem? (i := 692) (by decide +kernel)⟩
theorem lw_p27 : lw_okq (⟨"SkeletonTreeModel", "split", "(I)Z"⟩, 23) := ⟨⟨by decide +kernel, by decide +kernel⟩, List.mem_of_getElem? (i := 563) (by decide +kernel), List.mem_of_getElem? (i := 695) (by decide +kernel), List.mem_of_getElem? (i := 696) (by decide +kernel)⟩
theorem lw_p28 : lw_okq (⟨"SkeletonTreeModel", "hasPoint", "(II)Z"⟩, 23) := ⟨⟨by decide +kernel, by decide +kernel⟩, List.mem_of_getElem? (i := 563) (by decide +kernel), List.mem_of_getElem? (i := 699) (by decide +kernel), List.mem_of_getElem? (i := 700) (by decide +kernel)⟩
theorem lw_p29 : lw_okq (⟨"SkeletonTreeModel", "touches", "(II)Z"⟩, 23) := ⟨⟨by decide +kernel, by decide +kernel⟩, List.mem_of_getElem? (i := 563) (by decide +kernel), List.mem_of_getElem? (i := 703) (by decide +kernel), List.mem_of_getElem? (i := 704) (by decide +kernel)⟩
theorem lw_p30 : lw_okq (⟨"SkeletonTreeModel", "partOf", "(III)I"⟩, 23) := ⟨⟨by decide +kernel, by decide +kernel⟩, List.mem_of_getElem? (i := 563) (by decide +kernel), List.mem_of_getElem? (i := 707) (by decide +kernel), List.mem_of_getElem? (i := 708) (by decide +kernel)⟩
theorem lw_p31 : lw_okq (⟨"SkeletonTreeModel", "look", "(III)I"⟩, 23) := ⟨⟨by decide +kernel, by decide +kernel⟩, List.mem_of_getElem? (i := 563) (by decide +kernel), List.mem_of_getElem? (i := 711) (by decide +kernel), List.mem_of_getElem? (i := 712) (by decide +kernel)⟩
def lw_privs_2 : List (MethodName × Nat) := [(⟨"SkeletonTree", "checkTree", "()V"⟩, 10), (⟨"SkeletonTree$Nodes", "findNeighbour", "(II)I"⟩, 8), (⟨"SkeletonTree", "checkPoint", "(I)V"⟩, 10), (⟨"SkeletonTreeModel", "refused", "(ZZ)Z"⟩, 23), (⟨"SkeletonTreeModel", "isEdge", "(I)Z"⟩, 23), (⟨"SkeletonTreeModel", "isFit", "()Z"⟩, 23), (⟨"SkeletonTreeModel", "isOne", "(I)Z"⟩, 23), (⟨"SkeletonTreeModel", "join", "(II)V"⟩, 23), (⟨"SkeletonTreeModel", "same", "(II)V"⟩, 23), (⟨"SkeletonTreeModel", "isUsed", "(I)Z"⟩, 23), (⟨"SkeletonTreeModel", "add", "(IIII)V"⟩, 23), (⟨"SkeletonTreeModel", "split", "(I)Z"⟩, 23), (⟨"SkeletonTreeModel", "hasPoint", "(II)Z"⟩, 23), (⟨"SkeletonTreeModel", "touches", "(II)Z"⟩, 23), (⟨"SkeletonTreeModel", "partOf", "(III)I"⟩, 23), (⟨"SkeletonTreeModel", "look", "(III)I"⟩, 23)]
theorem lw_r2 : ∀ q ∈ lw_privs_2, lw_okq q := List.forall_mem_cons.mpr ⟨lw_p16, List.forall_mem_cons.mpr ⟨lw_p17, List.forall_mem_cons.mpr ⟨lw_p18, List.forall_mem_cons.mpr ⟨lw_p19, List.forall_mem_cons.mpr ⟨lw_p20, List.forall_mem_cons.mpr ⟨lw_p21, List.forall_mem_cons.mpr ⟨lw_p22, List.forall_mem_cons.mpr ⟨lw_p23, List.forall_mem_cons.mpr ⟨lw_p24, List.forall_mem_cons.mpr ⟨lw_p25, List.forall_mem_cons.mpr ⟨lw_p26, List.forall_mem_cons.mpr ⟨lw_p27, List.forall_mem_cons.mpr ⟨lw_p28, List.forall_mem_cons.mpr ⟨lw_p29, List.forall_mem_cons.mpr ⟨lw_p30, List.forall_mem_cons.mpr ⟨lw_p31, fun _ h => absurd h List.not_mem_nil⟩⟩⟩⟩⟩⟩⟩⟩⟩⟩⟩⟩⟩⟩⟩⟩
theorem lw_p32 : lw_okq (⟨"SkeletonTreeModel", "groupOf", "(III)I"⟩, 23) := ⟨⟨by decide +kernel, by decide +kernel⟩, List.mem_of_getElem? (i := 563) (by decide +kernel), List.mem_of_getElem? (i := 715) (by decide +kernel), List.mem_of_getElem? (i := 716) (by decide +kernel)⟩
theorem lw_p33 : lw_okq (⟨"SkeletonTreeModel", "isBetween", "(III)Z"⟩, 23) := ⟨⟨by decide +kernel, by decide +kernel⟩, List.mem_of_getElem? (i := 563) (by decide +kernel), List.mem_of_getElem? (i := 719) (by decide +kernel), List.mem_of_getElem? (i := 720) (by decide +kernel)⟩
theorem lw_p34 : lw_okq (⟨"SkeletonTreeModel", "sizeOf", "(I)I"⟩, 23) := ⟨⟨by decide +kernel, by decide +kernel⟩, List.mem_of_getElem? (i := 563) (by decide +kernel), List.mem_of_getElem? (i := 723) (by decide +kernel), List.mem_of_getElem? (i := 724) (by decide +kernel)⟩
theorem lw_p35 : lw_okq (⟨"SkeletonTreeModel", "move", "(IIII)V"⟩, 23) := ⟨⟨by decide +kernel, by decide +kernel⟩, List.mem_of_getElem? (i := 563) (by decide +kernel), List.mem_of_getElem? (i := 727) (by decide +kernel), List.mem_of_getElem? (i := 728) (by decide +kernel)⟩
theorem lw_p36 : lw_okq (⟨"SkeletonTreeModel", "pointsOf", "(I)I"⟩, 23) := ⟨⟨by decide +kernel, by decide +kernel⟩, List.mem_of_getElem? (i := 563) (by decide +kernel), List.mem_of_getElem? (i := 731) (by decide +kernel), List.mem_of_getElem? (i := 732) (by decide +kernel)⟩
theorem lw_p37 : lw_okq (⟨"SkeletonTreeModel", "putTogether", "()V"⟩, 23) := ⟨⟨by decide +kernel, by decide +kernel⟩, List.mem_of_getElem? (i := 563) (by decide +kernel), List.mem_of_getElem? (i := 735) (by decide +kernel), List.mem_of_getElem? (i := 736) (by decide +kernel)⟩
theorem lw_p38 : lw_okq (⟨"SkeletonTreeModel", "itemOf", "(II)I"⟩, 23) := ⟨⟨by decide +kernel, by decide +kernel⟩, List.mem_of_getElem? (i := 563) (by decide +kernel), List.mem_of_getElem? (i := 739) (by decide +kernel), List.mem_of_getElem? (i := 740) (by decide +kernel)⟩
theorem lw_p39 : lw_okq (⟨"SkeletonTreeModel", "lookBeyond", "()V"⟩, 23) := ⟨⟨by decide +kernel, by decide +kernel⟩, List.mem_of_getElem? (i := 563) (by decide +kernel), List.mem_of_getElem? (i := 743) (by decide +kernel), List.mem_of_getElem? (i := 744) (by decide +kernel)⟩
theorem lw_p40 : lw_okq (⟨"SkeletonTreeModel", "beyond", "(I)I"⟩, 23) := ⟨⟨by decide +kernel, by decide +kernel⟩, List.mem_of_getElem? (i := 563) (by decide +kernel), List.mem_of_getElem? (i := 747) (by decide +kernel), List.mem_of_getElem? (i := 748) (by decide +kernel)⟩
theorem lw_p41 : lw_okq (⟨"SkeletonTreeModel", "number", "(I)V"⟩, 23) := ⟨⟨by decide +kernel, by decide +kernel⟩, List.mem_of_getElem? (i := 563) (by decide +kernel), List.mem_of_getElem? (i := 751) (by decide +kernel), List.mem_of_getElem? (i := 752) (by decide +kernel)⟩
theorem lw_p42 : lw_okq (⟨"SkeletonTreeModel", "begin", "(III)V"⟩, 23) := ⟨⟨by decide +kernel, by decide +kernel⟩, List.mem_of_getElem? (i := 563) (by decide +kernel), List.mem_of_getElem? (i := 755) (by decide +kernel), List.mem_of_getElem? (i := 756) (by decide +kernel)⟩
theorem lw_p43 : lw_okq (⟨"SkeletonTreeModel", "nextOf", "(I)I"⟩, 23) := ⟨⟨by decide +kernel, by decide +kernel⟩, List.mem_of_getElem? (i := 563) (by decide +kernel), List.mem_of_getElem? (i := 759) (by decide +kernel), List.mem_of_getElem? (i := 760) (by decide +kernel)⟩
theorem lw_p44 : lw_okq (⟨"SkeletonTreeModel", "none", "(I)Z"⟩, 23) := ⟨⟨by decide +kernel, by decide +kernel⟩, List.mem_of_getElem? (i := 563) (by decide +kernel), List.mem_of_getElem? (i := 767) (by decide +kernel), List.mem_of_getElem? (i := 768) (by decide +kernel)⟩
theorem lw_p45 : lw_okq (⟨"SkeletonTreeModel", "rankOf", "(I)I"⟩, 23) := ⟨⟨by decide +kernel, by decide +kernel⟩, List.mem_of_getElem? (i := 563) (by decide +kernel), List.mem_of_getElem? (i := 783) (by decide +kernel), List.mem_of_getElem? (i := 784) (by decide +kernel)⟩
def lw_privs_3 : List (MethodName × Nat) := [(⟨"SkeletonTreeModel", "groupOf", "(III)I"⟩, 23), (⟨"SkeletonTreeModel", "isBetween", "(III)Z"⟩, 23), (⟨"SkeletonTreeModel", "sizeOf", "(I)I"⟩, 23), (⟨"SkeletonTreeModel", "move", "(IIII)V"⟩, 23), (⟨"SkeletonTreeModel", "pointsOf", "(I)I"⟩, 23), (⟨"SkeletonTreeModel", "putTogether", "()V"⟩, 23), (⟨"SkeletonTreeModel", "itemOf", "(II)I"⟩, 23), (⟨"SkeletonTreeModel", "lookBeyond", "()V"⟩, 23), (⟨"SkeletonTreeModel", "beyond", "(I)I"⟩, 23), (⟨"SkeletonTreeModel", "number", "(I)V"⟩, 23), (⟨"SkeletonTreeModel", "begin", "(III)V"⟩, 23), (⟨"SkeletonTreeModel", "nextOf", "(I)I"⟩, 23), (⟨"SkeletonTreeModel", "none", "(I)Z"⟩, 23), (⟨"SkeletonTreeModel", "rankOf", "(I)I"⟩, 23)]
theorem lw_r3 : ∀ q ∈ lw_privs_3, lw_okq q := List.forall_mem_cons.mpr ⟨lw_p32, List.forall_mem_cons.mpr ⟨lw_p33, List.forall_mem_cons.mpr ⟨lw_p34, List.forall_mem_cons.mpr ⟨lw_p35, List.forall_mem_cons.mpr ⟨lw_p36, List.forall_mem_cons.mpr ⟨lw_p37, List.forall_mem_cons.mpr ⟨lw_p38, List.forall_mem_cons.mpr ⟨lw_p39, List.forall_mem_cons.mpr ⟨lw_p40, List.forall_mem_cons.mpr ⟨lw_p41, List.forall_mem_cons.mpr ⟨lw_p42, List.forall_mem_cons.mpr ⟨lw_p43, List.forall_mem_cons.mpr ⟨lw_p44, List.forall_mem_cons.mpr ⟨lw_p45, fun _ h => absurd h List.not_mem_nil⟩⟩⟩⟩⟩⟩⟩⟩⟩⟩⟩⟩⟩⟩
def lw_privs : List (MethodName × Nat) := lw_privs_1 ++ (lw_privs_2 ++ (lw_privs_3))
def lw_tbl : List Cond := k2_sels lw_privs ++ tables_1
theorem lw_privs_ok : ∀ q ∈ lw_privs, lw_okq q := by
  show ∀ q ∈ lw_privs_1 ++ (lw_privs_2 ++ (lw_privs_3)), lw_okq q
  exact List.forall_mem_append.mpr ⟨lw_r1, List.forall_mem_append.mpr ⟨lw_r2, lw_r3⟩⟩

/-! THE WORDS: all of the tables that stay true under warming; every method's contract asks for its own code and these. -/
def GW : List Cond := lw_tbl.filter goodWord
theorem gw_of {w : Cond} (k : Nat) (h : lw_tbl[k]? = some w) (hg : goodWord w = true) : w ∈ GW := List.mem_filter.mpr ⟨List.mem_of_getElem? h, hg⟩
theorem gw_good : GoodIn GW GW := fun w hw => ⟨hw, good_of_word (List.mem_filter.mp hw).2⟩
theorem gw_goodc {y : MethodName} {b : ByteArray} {n : Nat} {r : Option FieldType} (h : Cond.code y b n r ∈ GW) : GoodIn GW (Cond.code y b n r :: GW) := fun w hw => by
  rcases List.mem_cons.mp hw with h1 | h1
  · subst h1; exact gw_good _ h
  · exact gw_good _ h1

def R_Links : String := "SkeletonTree$Links"
def T_Links : u_T := fun k => match k with
  | 0 => ("SkeletonTree$Links", "near", "[J", true)
  | 1 => ("SkeletonTree$Links", "nearTwice", "[J", true)
  | _ => ("SkeletonTree$Links", "present", "J", false)
def t_Links : Nat → FieldType := fun k => match k with
  | 0 => .array .long
  | 1 => .array .long
  | _ => .long
theorem nm_Links : ∀ a, a < 3 → ∀ b, b < 3 → a ≠ b → (T_Links a).2.1 ≠ (T_Links b).2.1 := by decide +kernel
theorem ty_Links : ∀ k, k < 3 → parseFieldDescriptor (T_Links k).2.2.1 = some (t_Links k) := by decide +kernel
set_option maxRecDepth 100000 in
theorem in_Links : ∀ w ∈ u_ws R_Links T_Links 3, w ∈ GW := by
  intro w hw
  exact List.mem_filter.mpr ⟨(by decide +kernel : ∀ w ∈ u_ws R_Links T_Links 3, w ∈ lw_tbl) w hw, (by decide +kernel : ∀ w ∈ u_ws R_Links T_Links 3, goodWord w = true) w hw⟩
def R_Nodes : String := "SkeletonTree$Nodes"
def T_Nodes : u_T := fun k => match k with
  | 0 => ("SkeletonTree$Nodes", "kindOf", "[I", true)
  | 1 => ("SkeletonTree$Nodes", "sizeOf", "[I", true)
  | 2 => ("SkeletonTree$Nodes", "above", "[I", true)
  | 3 => ("SkeletonTree$Nodes", "lesser", "[I", true)
  | 4 => ("SkeletonTree$Nodes", "greater", "[I", true)
  | 5 => ("SkeletonTree$Nodes", "inside", "[J", true)
  | 6 => ("SkeletonTree$Nodes", "ofEdge", "[I", true)
  | _ => ("SkeletonTree$Nodes", "count", "I", false)
def t_Nodes : Nat → FieldType := fun k => match k with
  | 0 => .array .int
  | 1 => .array .int
  | 2 => .array .int
  | 3 => .array .int
  | 4 => .array .int
  | 5 => .array .long
  | 6 => .array .int
  | _ => .int
theorem nm_Nodes : ∀ a, a < 8 → ∀ b, b < 8 → a ≠ b → (T_Nodes a).2.1 ≠ (T_Nodes b).2.1 := by decide +kernel
theorem ty_Nodes : ∀ k, k < 8 → parseFieldDescriptor (T_Nodes k).2.2.1 = some (t_Nodes k) := by decide +kernel
set_option maxRecDepth 100000 in
theorem in_Nodes : ∀ w ∈ u_ws R_Nodes T_Nodes 8, w ∈ GW := by
  intro w hw
  exact List.mem_filter.mpr ⟨(by decide +kernel : ∀ w ∈ u_ws R_Nodes T_Nodes 8, w ∈ lw_tbl) w hw, (by decide +kernel : ∀ w ∈ u_ws R_Nodes T_Nodes 8, goodWord w = true) w hw⟩
def R_Order : String := "SkeletonTree$Order"
def T_Order : u_T := fun k => match k with
  | 0 => ("SkeletonTree$Order", "row", "[I", true)
  | 1 => ("SkeletonTree$Order", "above", "[I", true)
  | 2 => ("SkeletonTree$Order", "sideUp", "[I", true)
  | 3 => ("SkeletonTree$Order", "number", "[I", true)
  | 4 => ("SkeletonTree$Order", "least", "[I", true)
  | 5 => ("SkeletonTree$Order", "weight", "[I", true)
  | _ => ("SkeletonTree$Order", "count", "I", false)
def t_Order : Nat → FieldType := fun k => match k with
  | 0 => .array .int
  | 1 => .array .int
  | 2 => .array .int
  | 3 => .array .int
  | 4 => .array .int
  | 5 => .array .int
  | _ => .int
theorem nm_Order : ∀ a, a < 7 → ∀ b, b < 7 → a ≠ b → (T_Order a).2.1 ≠ (T_Order b).2.1 := by decide +kernel
theorem ty_Order : ∀ k, k < 7 → parseFieldDescriptor (T_Order k).2.2.1 = some (t_Order k) := by decide +kernel
set_option maxRecDepth 100000 in
theorem in_Order : ∀ w ∈ u_ws R_Order T_Order 7, w ∈ GW := by
  intro w hw
  exact List.mem_filter.mpr ⟨(by decide +kernel : ∀ w ∈ u_ws R_Order T_Order 7, w ∈ lw_tbl) w hw, (by decide +kernel : ∀ w ∈ u_ws R_Order T_Order 7, goodWord w = true) w hw⟩
def R_Pieces : String := "SkeletonTree$Pieces"
def T_Pieces : u_T := fun k => match k with
  | 0 => ("SkeletonTree$Pieces", "firstEnd", "[I", true)
  | 1 => ("SkeletonTree$Pieces", "secondEnd", "[I", true)
  | 2 => ("SkeletonTree$Pieces", "home", "[I", true)
  | 3 => ("SkeletonTree$Pieces", "kindOf", "[I", true)
  | 4 => ("SkeletonTree$Pieces", "startAt", "[I", true)
  | 5 => ("SkeletonTree$Pieces", "links", "LSkeletonTree$Links;", true)
  | 6 => ("SkeletonTree$Pieces", "slots", "I", false)
  | _ => ("SkeletonTree$Pieces", "count", "I", false)
def t_Pieces : Nat → FieldType := fun k => match k with
  | 0 => .array .int
  | 1 => .array .int
  | 2 => .array .int
  | 3 => .array .int
  | 4 => .array .int
  | 5 => .object "SkeletonTree$Links"
  | 6 => .int
  | _ => .int
theorem nm_Pieces : ∀ a, a < 8 → ∀ b, b < 8 → a ≠ b → (T_Pieces a).2.1 ≠ (T_Pieces b).2.1 := by decide +kernel
theorem ty_Pieces : ∀ k, k < 8 → parseFieldDescriptor (T_Pieces k).2.2.1 = some (t_Pieces k) := by decide +kernel
set_option maxRecDepth 100000 in
theorem in_Pieces : ∀ w ∈ u_ws R_Pieces T_Pieces 8, w ∈ GW := by
  intro w hw
  exact List.mem_filter.mpr ⟨(by decide +kernel : ∀ w ∈ u_ws R_Pieces T_Pieces 8, w ∈ lw_tbl) w hw, (by decide +kernel : ∀ w ∈ u_ws R_Pieces T_Pieces 8, goodWord w = true) w hw⟩
def R_Tree : String := "SkeletonTree"
def T_Tree : u_T := fun k => match k with
  | 0 => ("SkeletonTree", "firstEnd", "[I", true)
  | 1 => ("SkeletonTree", "secondEnd", "[I", true)
  | 2 => ("SkeletonTree", "there", "[Z", true)
  | 3 => ("SkeletonTree", "graph", "LSkeletonTree$Links;", true)
  | 4 => ("SkeletonTree", "pieces", "LSkeletonTree$Pieces;", true)
  | 5 => ("SkeletonTree", "order", "LSkeletonTree$Order;", true)
  | 6 => ("SkeletonTree", "nodes", "LSkeletonTree$Nodes;", true)
  | 7 => ("SkeletonTree", "made", "I", false)
  | 8 => ("SkeletonTree", "alive", "I", false)
  | _ => ("SkeletonTree", "built", "Z", false)
def t_Tree : Nat → FieldType := fun k => match k with
  | 0 => .array .int
  | 1 => .array .int
  | 2 => .array .boolean
  | 3 => .object "SkeletonTree$Links"
  | 4 => .object "SkeletonTree$Pieces"
  | 5 => .object "SkeletonTree$Order"
  | 6 => .object "SkeletonTree$Nodes"
  | 7 => .int
  | 8 => .int
  | _ => .boolean
theorem nm_Tree : ∀ a, a < 10 → ∀ b, b < 10 → a ≠ b → (T_Tree a).2.1 ≠ (T_Tree b).2.1 := by decide +kernel
theorem ty_Tree : ∀ k, k < 10 → parseFieldDescriptor (T_Tree k).2.2.1 = some (t_Tree k) := by decide +kernel
set_option maxRecDepth 100000 in
theorem in_Tree : ∀ w ∈ u_ws R_Tree T_Tree 10, w ∈ GW := by
  intro w hw
  exact List.mem_filter.mpr ⟨(by decide +kernel : ∀ w ∈ u_ws R_Tree T_Tree 10, w ∈ lw_tbl) w hw, (by decide +kernel : ∀ w ∈ u_ws R_Tree T_Tree 10, goodWord w = true) w hw⟩
def R_Model : String := "SkeletonTreeModel"
def T_Model : u_T := fun k => match k with
  | 0 => ("SkeletonTreeModel", "thrown", "I", false)
  | 1 => ("SkeletonTreeModel", "made", "I", false)
  | 2 => ("SkeletonTreeModel", "ends", "[I", true)
  | 3 => ("SkeletonTreeModel", "there", "[Z", true)
  | 4 => ("SkeletonTreeModel", "tree", "Z", false)
  | 5 => ("SkeletonTreeModel", "items", "I", false)
  | 6 => ("SkeletonTreeModel", "one", "[I", true)
  | 7 => ("SkeletonTreeModel", "two", "[I", true)
  | 8 => ("SkeletonTreeModel", "what", "[I", true)
  | 9 => ("SkeletonTreeModel", "piece", "[I", true)
  | 10 => ("SkeletonTreeModel", "pieces", "I", false)
  | 11 => ("SkeletonTreeModel", "joints", "I", false)
  | 12 => ("SkeletonTreeModel", "kinds", "[I", true)
  | 13 => ("SkeletonTreeModel", "group", "[I", true)
  | 14 => ("SkeletonTreeModel", "many", "[I", true)
  | 15 => ("SkeletonTreeModel", "nodes", "I", false)
  | 16 => ("SkeletonTreeModel", "pieceOf", "[I", true)
  | 17 => ("SkeletonTreeModel", "numberOf", "[I", true)
  | 18 => ("SkeletonTreeModel", "ups", "[I", true)
  | 19 => ("SkeletonTreeModel", "jointUp", "[I", true)
  | 20 => ("SkeletonTreeModel", "partner", "[I", true)
  | 21 => ("SkeletonTreeModel", "beyonds", "[I", true)
  | _ => ("SkeletonTreeModel", "gone", "[I", true)
def t_Model : Nat → FieldType := fun k => match k with
  | 0 => .int
  | 1 => .int
  | 2 => .array .int
  | 3 => .array .boolean
  | 4 => .boolean
  | 5 => .int
  | 6 => .array .int
  | 7 => .array .int
  | 8 => .array .int
  | 9 => .array .int
  | 10 => .int
  | 11 => .int
  | 12 => .array .int
  | 13 => .array .int
  | 14 => .array .int
  | 15 => .int
  | 16 => .array .int
  | 17 => .array .int
  | 18 => .array .int
  | 19 => .array .int
  | 20 => .array .int
  | 21 => .array .int
  | _ => .array .int
theorem nm_Model : ∀ a, a < 23 → ∀ b, b < 23 → a ≠ b → (T_Model a).2.1 ≠ (T_Model b).2.1 := by decide +kernel
theorem ty_Model : ∀ k, k < 23 → parseFieldDescriptor (T_Model k).2.2.1 = some (t_Model k) := by decide +kernel
set_option maxRecDepth 100000 in
theorem in_Model : ∀ w ∈ u_ws R_Model T_Model 23, w ∈ GW := by
  intro w hw
  exact List.mem_filter.mpr ⟨(by decide +kernel : ∀ w ∈ u_ws R_Model T_Model 23, w ∈ lw_tbl) w hw, (by decide +kernel : ∀ w ∈ u_ws R_Model T_Model 23, goodWord w = true) w hw⟩
abbrev classes : List vw_C := [(R_Links, T_Links, 3), (R_Nodes, T_Nodes, 8), (R_Order, T_Order, 7), (R_Pieces, T_Pieces, 8), (R_Tree, T_Tree, 10), (R_Model, T_Model, 23)]
