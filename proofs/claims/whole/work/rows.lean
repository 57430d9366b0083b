section
-- ===== PART A: goes FIRST, ahead of the names: the tables' words, and 'selects' of the private methods out of them =====
/-- a private method of a class that the tables say can be made, by its rows of tables_1 -/
def lw_okq (q : MethodName × Nat) : Prop := (q.1.cls ≠ "java/lang/invoke/MethodHandle" ∧ q.1.cls ≠ "java/lang/invoke/VarHandle") ∧ Cond.instantiable q.1.cls q.2 ∈ tables_1 ∧ Cond.privateMethod q.1 ∈ tables_1 ∧ Cond.instanceMethod q.1 ∈ tables_1
theorem lw_p0 : lw_okq (⟨"FlipPolygons$Polygon", "nameDiagonals", "()V"⟩, 9) := ⟨⟨by decide +kernel, by decide +kernel⟩, List.mem_of_getElem? (i := 31) (by decide +kernel), List.mem_of_getElem? (i := 37) (by decide +kernel), List.mem_of_getElem? (i := 38) (by decide +kernel)⟩
theorem lw_p1 : lw_okq (⟨"FlipPolygons$Polygon", "findCrossings", "()V"⟩, 9) := ⟨⟨by decide +kernel, by decide +kernel⟩, List.mem_of_getElem? (i := 31) (by decide +kernel), List.mem_of_getElem? (i := 44) (by decide +kernel), List.mem_of_getElem? (i := 45) (by decide +kernel)⟩
theorem lw_p2 : lw_okq (⟨"FlipPolygons$Polygon", "findImages", "()V"⟩, 9) := ⟨⟨by decide +kernel, by decide +kernel⟩, List.mem_of_getElem? (i := 31) (by decide +kernel), List.mem_of_getElem? (i := 48) (by decide +kernel), List.mem_of_getElem? (i := 49) (by decide +kernel)⟩
theorem lw_p3 : lw_okq (⟨"FlipPolygons$FlipGraph", "indexOrNew", "(I)I"⟩, 9) := ⟨⟨by decide +kernel, by decide +kernel⟩, List.mem_of_getElem? (i := 29) (by decide +kernel), List.mem_of_getElem? (i := 156) (by decide +kernel), List.mem_of_getElem? (i := 157) (by decide +kernel)⟩
theorem lw_p4 : lw_okq (⟨"FlipPolygons$FlipGraph", "slotOf", "(I)I"⟩, 9) := ⟨⟨by decide +kernel, by decide +kernel⟩, List.mem_of_getElem? (i := 29) (by decide +kernel), List.mem_of_getElem? (i := 160) (by decide +kernel), List.mem_of_getElem? (i := 161) (by decide +kernel)⟩
theorem lw_p5 : lw_okq (⟨"FlipPolygons", "saveState", "()V"⟩, 11) := ⟨⟨by decide +kernel, by decide +kernel⟩, List.mem_of_getElem? (i := 20) (by decide +kernel), List.mem_of_getElem? (i := 289) (by decide +kernel), List.mem_of_getElem? (i := 290) (by decide +kernel)⟩
theorem lw_p6 : lw_okq (⟨"FlipPolygons$Text", "fits", "(LFlipPolygons$Polygon;I)Z"⟩, 2) := ⟨⟨by decide +kernel, by decide +kernel⟩, List.mem_of_getElem? (i := 212) (by decide +kernel), List.mem_of_getElem? (i := 316) (by decide +kernel), List.mem_of_getElem? (i := 317) (by decide +kernel)⟩
theorem lw_p7 : lw_okq (⟨"FlipPolygons$Text", "cornerAt", "(I)I"⟩, 2) := ⟨⟨by decide +kernel, by decide +kernel⟩, List.mem_of_getElem? (i := 212) (by decide +kernel), List.mem_of_getElem? (i := 320) (by decide +kernel), List.mem_of_getElem? (i := 321) (by decide +kernel)⟩
theorem lw_p8 : lw_okq (⟨"FlipPolygons", "shareOfWay", "()D"⟩, 11) := ⟨⟨by decide +kernel, by decide +kernel⟩, List.mem_of_getElem? (i := 20) (by decide +kernel), List.mem_of_getElem? (i := 332) (by decide +kernel), List.mem_of_getElem? (i := 333) (by decide +kernel)⟩
theorem lw_p9 : lw_okq (⟨"FlipPolygons", "freeDistance", "()I"⟩, 11) := ⟨⟨by decide +kernel, by decide +kernel⟩, List.mem_of_getElem? (i := 20) (by decide +kernel), List.mem_of_getElem? (i := 336) (by decide +kernel), List.mem_of_getElem? (i := 337) (by decide +kernel)⟩
theorem lw_p10 : lw_okq (⟨"FlipPolygons", "reachFrom", "(I)LFlipPolygons$Reach;"⟩, 11) := ⟨⟨by decide +kernel, by decide +kernel⟩, List.mem_of_getElem? (i := 20) (by decide +kernel), List.mem_of_getElem? (i := 340) (by decide +kernel), List.mem_of_getElem? (i := 341) (by decide +kernel)⟩
theorem lw_p11 : lw_okq (⟨"FlipPolygons$Reach", "spreadOn", "(II)I"⟩, 6) := ⟨⟨by decide +kernel, by decide +kernel⟩, List.mem_of_getElem? (i := 226) (by decide +kernel), List.mem_of_getElem? (i := 357) (by decide +kernel), List.mem_of_getElem? (i := 358) (by decide +kernel)⟩
theorem lw_p12 : lw_okq (⟨"FlipPolygons", "countNumber", "(I)I"⟩, 11) := ⟨⟨by decide +kernel, by decide +kernel⟩, List.mem_of_getElem? (i := 20) (by decide +kernel), List.mem_of_getElem? (i := 375) (by decide +kernel), List.mem_of_getElem? (i := 376) (by decide +kernel)⟩
theorem lw_p13 : lw_okq (⟨"FlipPolygons", "takenSnapshots", "()I"⟩, 11) := ⟨⟨by decide +kernel, by decide +kernel⟩, List.mem_of_getElem? (i := 20) (by decide +kernel), List.mem_of_getElem? (i := 380) (by decide +kernel), List.mem_of_getElem? (i := 381) (by decide +kernel)⟩
theorem lw_p14 : lw_okq (⟨"FlipPolygons", "mixTriangulation", "(JI)J"⟩, 11) := ⟨⟨by decide +kernel, by decide +kernel⟩, List.mem_of_getElem? (i := 20) (by decide +kernel), List.mem_of_getElem? (i := 384) (by decide +kernel), List.mem_of_getElem? (i := 385) (by decide +kernel)⟩
theorem lw_p15 : lw_okq (⟨"FlipPolygons", "numberOfTriangulation", "(II)I"⟩, 11) := ⟨⟨by decide +kernel, by decide +kernel⟩, List.mem_of_getElem? (i := 20) (by decide +kernel), List.mem_of_getElem? (i := 388) (by decide +kernel), List.mem_of_getElem? (i := 389) (by decide +kernel)⟩
def lw_privs_1 : List (MethodName × Nat) := [(⟨"FlipPolygons$Polygon", "nameDiagonals", "()V"⟩, 9), (⟨"FlipPolygons$Polygon", "findCrossings", "()V"⟩, 9), (⟨"FlipPolygons$Polygon", "findImages", "()V"⟩, 9), (⟨"FlipPolygons$FlipGraph", "indexOrNew", "(I)I"⟩, 9), (⟨"FlipPolygons$FlipGraph", "slotOf", "(I)I"⟩, 9), (⟨"FlipPolygons", "saveState", "()V"⟩, 11), (⟨"FlipPolygons$Text", "fits", "(LFlipPolygons$Polygon;I)Z"⟩, 2), (⟨"FlipPolygons$Text", "cornerAt", "(I)I"⟩, 2), (⟨"FlipPolygons", "shareOfWay", "()D"⟩, 11), (⟨"FlipPolygons", "freeDistance", "()I"⟩, 11), (⟨"FlipPolygons", "reachFrom", "(I)LFlipPolygons$Reach;"⟩, 11), (⟨"FlipPolygons$Reach", "spreadOn", "(II)I"⟩, 6), (⟨"FlipPolygons", "countNumber", "(I)I"⟩, 11), (⟨"FlipPolygons", "takenSnapshots", "()I"⟩, 11), (⟨"FlipPolygons", "mixTriangulation", "(JI)J"⟩, 11), (⟨"FlipPolygons", "numberOfTriangulation", "(II)I"⟩, 11)]
theorem lw_r1 : ∀ q ∈ lw_privs_1, lw_okq q := List.forall_mem_cons.mpr ⟨lw_p0, List.forall_mem_cons.mpr ⟨lw_p1, List.forall_mem_cons.mpr ⟨lw_p2, List.forall_mem_cons.mpr ⟨lw_p3, List.forall_mem_cons.mpr ⟨lw_p4, List.forall_mem_cons.mpr ⟨lw_p5, List.forall_mem_cons.mpr ⟨lw_p6, List.forall_mem_cons.mpr ⟨lw_p7, List.forall_mem_cons.mpr ⟨lw_p8, List.forall_mem_cons.mpr ⟨lw_p9, List.forall_mem_cons.mpr ⟨lw_p10, List.forall_mem_cons.mpr ⟨lw_p11, List.forall_mem_cons.mpr ⟨lw_p12, List.forall_mem_cons.mpr ⟨lw_p13, List.forall_mem_cons.mpr ⟨lw_p14, List.forall_mem_cons.mpr ⟨lw_p15, fun _ h => absurd h List.not_mem_nil⟩⟩⟩⟩⟩⟩⟩⟩⟩⟩⟩⟩⟩⟩⟩⟩
theorem lw_p16 : lw_okq (⟨"FlipPolygons$Polygon", "nextImage", "(II)I"⟩, 9) := ⟨⟨by decide +kernel, by decide +kernel⟩, List.mem_of_getElem? (i := 31) (by decide +kernel), List.mem_of_getElem? (i := 396) (by decide +kernel), List.mem_of_getElem? (i := 397) (by decide +kernel)⟩
theorem lw_p17 : lw_okq (⟨"FlipPolygons", "distanceNumber", "(I)I"⟩, 11) := ⟨⟨by decide +kernel, by decide +kernel⟩, List.mem_of_getElem? (i := 20) (by decide +kernel), List.mem_of_getElem? (i := 445) (by decide +kernel), List.mem_of_getElem? (i := 446) (by decide +kernel)⟩
theorem lw_p18 : lw_okq (⟨"FlipPolygons", "distanceWithLocks", "()I"⟩, 11) := ⟨⟨by decide +kernel, by decide +kernel⟩, List.mem_of_getElem? (i := 20) (by decide +kernel), List.mem_of_getElem? (i := 449) (by decide +kernel), List.mem_of_getElem? (i := 450) (by decide +kernel)⟩
theorem lw_p19 : lw_okq (⟨"FlipPolygons", "hasDistance", "()Z"⟩, 11) := ⟨⟨by decide +kernel, by decide +kernel⟩, List.mem_of_getElem? (i := 20) (by decide +kernel), List.mem_of_getElem? (i := 453) (by decide +kernel), List.mem_of_getElem? (i := 454) (by decide +kernel)⟩
theorem lw_p20 : lw_okq (⟨"FlipPolygons", "reachWithLocks", "()LFlipPolygons$Reach;"⟩, 11) := ⟨⟨by decide +kernel, by decide +kernel⟩, List.mem_of_getElem? (i := 20) (by decide +kernel), List.mem_of_getElem? (i := 457) (by decide +kernel), List.mem_of_getElem? (i := 458) (by decide +kernel)⟩
theorem lw_p21 : lw_okq (⟨"FlipPolygons", "freeDistanceByParts", "()I"⟩, 11) := ⟨⟨by decide +kernel, by decide +kernel⟩, List.mem_of_getElem? (i := 20) (by decide +kernel), List.mem_of_getElem? (i := 461) (by decide +kernel), List.mem_of_getElem? (i := 462) (by decide +kernel)⟩
theorem lw_p22 : lw_okq (⟨"FlipPolygons", "cutIntoParts", "(I)I"⟩, 11) := ⟨⟨by decide +kernel, by decide +kernel⟩, List.mem_of_getElem? (i := 20) (by decide +kernel), List.mem_of_getElem? (i := 465) (by decide +kernel), List.mem_of_getElem? (i := 466) (by decide +kernel)⟩
theorem lw_p23 : lw_okq (⟨"FlipPolygons", "cutOnePart", "(III)V"⟩, 11) := ⟨⟨by decide +kernel, by decide +kernel⟩, List.mem_of_getElem? (i := 20) (by decide +kernel), List.mem_of_getElem? (i := 470) (by decide +kernel), List.mem_of_getElem? (i := 471) (by decide +kernel)⟩
theorem lw_p24 : lw_okq (⟨"FlipPolygons", "freeDistanceInPart", "(I)I"⟩, 11) := ⟨⟨by decide +kernel, by decide +kernel⟩, List.mem_of_getElem? (i := 20) (by decide +kernel), List.mem_of_getElem? (i := 474) (by decide +kernel), List.mem_of_getElem? (i := 475) (by decide +kernel)⟩
theorem lw_p25 : lw_okq (⟨"FlipPolygons", "shortestWays", "()I"⟩, 11) := ⟨⟨by decide +kernel, by decide +kernel⟩, List.mem_of_getElem? (i := 20) (by decide +kernel), List.mem_of_getElem? (i := 482) (by decide +kernel), List.mem_of_getElem? (i := 483) (by decide +kernel)⟩
theorem lw_p26 : lw_okq (⟨"FlipPolygons", "nextFlip", "()I"⟩, 11) := ⟨⟨by decide +kernel, by decide +kernel⟩, List.mem_of_getElem? (i := 20) (by decide +kernel), List.mem_of_getElem? (i := 490) (by decide +kernel), List.mem_of_getElem? (i := 491) (by decide +kernel)⟩
theorem lw_p27 : lw_okq (⟨"FlipPolygons", "mixDiagonals", "(J)J"⟩, 11) := ⟨⟨by decide +kernel, by decide +kernel⟩, List.mem_of_getElem? (i := 20) (by decide +kernel), List.mem_of_getElem? (i := 495) (by decide +kernel), List.mem_of_getElem? (i := 496) (by decide +kernel)⟩
theorem lw_p28 : lw_okq (⟨"FlipPolygons", "hindrance", "(I)I"⟩, 11) := ⟨⟨by decide +kernel, by decide +kernel⟩, List.mem_of_getElem? (i := 20) (by decide +kernel), List.mem_of_getElem? (i := 500) (by decide +kernel), List.mem_of_getElem? (i := 501) (by decide +kernel)⟩
theorem lw_p29 : lw_okq (⟨"FlipPolygons", "freeDistanceBehind", "(I)I"⟩, 11) := ⟨⟨by decide +kernel, by decide +kernel⟩, List.mem_of_getElem? (i := 20) (by decide +kernel), List.mem_of_getElem? (i := 504) (by decide +kernel), List.mem_of_getElem? (i := 505) (by decide +kernel)⟩
theorem lw_p30 : lw_okq (⟨"java/lang/Throwable", "fillInStackTrace", "(I)Ljava/lang/Throwable;"⟩, 6) := ⟨⟨by decide +kernel, by decide +kernel⟩, List.mem_of_getElem? (i := 565) (by decide +kernel), List.mem_of_getElem? (i := 563) (by decide +kernel), List.mem_of_getElem? (i := 564) (by decide +kernel)⟩
theorem lw_p31 : lw_okq (⟨"FlipPolygons", "makeFlip", "(II)I"⟩, 11) := ⟨⟨by decide +kernel, by decide +kernel⟩, List.mem_of_getElem? (i := 20) (by decide +kernel), List.mem_of_getElem? (i := 640) (by decide +kernel), List.mem_of_getElem? (i := 641) (by decide +kernel)⟩
def lw_privs_2 : List (MethodName × Nat) := [(⟨"FlipPolygons$Polygon", "nextImage", "(II)I"⟩, 9), (⟨"FlipPolygons", "distanceNumber", "(I)I"⟩, 11), (⟨"FlipPolygons", "distanceWithLocks", "()I"⟩, 11), (⟨"FlipPolygons", "hasDistance", "()Z"⟩, 11), (⟨"FlipPolygons", "reachWithLocks", "()LFlipPolygons$Reach;"⟩, 11), (⟨"FlipPolygons", "freeDistanceByParts", "()I"⟩, 11), (⟨"FlipPolygons", "cutIntoParts", "(I)I"⟩, 11), (⟨"FlipPolygons", "cutOnePart", "(III)V"⟩, 11), (⟨"FlipPolygons", "freeDistanceInPart", "(I)I"⟩, 11), (⟨"FlipPolygons", "shortestWays", "()I"⟩, 11), (⟨"FlipPolygons", "nextFlip", "()I"⟩, 11), (⟨"FlipPolygons", "mixDiagonals", "(J)J"⟩, 11), (⟨"FlipPolygons", "hindrance", "(I)I"⟩, 11), (⟨"FlipPolygons", "freeDistanceBehind", "(I)I"⟩, 11), (⟨"java/lang/Throwable", "fillInStackTrace", "(I)Ljava/lang/Throwable;"⟩, 6), (⟨"FlipPolygons", "makeFlip", "(II)I"⟩, 11)]
theorem lw_r2 : ∀ q ∈ lw_privs_2, lw_okq q := List.forall_mem_cons.mpr ⟨lw_p16, List.forall_mem_cons.mpr ⟨lw_p17, List.forall_mem_cons.mpr ⟨lw_p18, List.forall_mem_cons.mpr ⟨lw_p19, List.forall_mem_cons.mpr ⟨lw_p20, List.forall_mem_cons.mpr ⟨lw_p21, List.forall_mem_cons.mpr ⟨lw_p22, List.forall_mem_cons.mpr ⟨lw_p23, List.forall_mem_cons.mpr ⟨lw_p24, List.forall_mem_cons.mpr ⟨lw_p25, List.forall_mem_cons.mpr ⟨lw_p26, List.forall_mem_cons.mpr ⟨lw_p27, List.forall_mem_cons.mpr ⟨lw_p28, List.forall_mem_cons.mpr ⟨lw_p29, List.forall_mem_cons.mpr ⟨lw_p30, List.forall_mem_cons.mpr ⟨lw_p31, fun _ h => absurd h List.not_mem_nil⟩⟩⟩⟩⟩⟩⟩⟩⟩⟩⟩⟩⟩⟩⟩⟩
theorem lw_p32 : lw_okq (⟨"FlipPolygons", "putNew", "(II)V"⟩, 11) := ⟨⟨by decide +kernel, by decide +kernel⟩, List.mem_of_getElem? (i := 20) (by decide +kernel), List.mem_of_getElem? (i := 658) (by decide +kernel), List.mem_of_getElem? (i := 659) (by decide +kernel)⟩
theorem lw_p33 : lw_okq (⟨"FlipPolygons", "isSnapshot", "(I)Z"⟩, 11) := ⟨⟨by decide +kernel, by decide +kernel⟩, List.mem_of_getElem? (i := 20) (by decide +kernel), List.mem_of_getElem? (i := 744) (by decide +kernel), List.mem_of_getElem? (i := 745) (by decide +kernel)⟩
theorem lw_p34 : lw_okq (⟨"FlipPolygonsModel", "layAll", "()V"⟩, 22) := ⟨⟨by decide +kernel, by decide +kernel⟩, List.mem_of_getElem? (i := 822) (by decide +kernel), List.mem_of_getElem? (i := 828) (by decide +kernel), List.mem_of_getElem? (i := 829) (by decide +kernel)⟩
theorem lw_p35 : lw_okq (⟨"FlipPolygonsModel", "layDiagonals", "()V"⟩, 22) := ⟨⟨by decide +kernel, by decide +kernel⟩, List.mem_of_getElem? (i := 822) (by decide +kernel), List.mem_of_getElem? (i := 832) (by decide +kernel), List.mem_of_getElem? (i := 833) (by decide +kernel)⟩
theorem lw_p36 : lw_okq (⟨"FlipPolygonsModel", "findAll", "()V"⟩, 22) := ⟨⟨by decide +kernel, by decide +kernel⟩, List.mem_of_getElem? (i := 822) (by decide +kernel), List.mem_of_getElem? (i := 836) (by decide +kernel), List.mem_of_getElem? (i := 837) (by decide +kernel)⟩
theorem lw_p37 : lw_okq (⟨"FlipPolygonsModel", "fanOf", "(I)I"⟩, 22) := ⟨⟨by decide +kernel, by decide +kernel⟩, List.mem_of_getElem? (i := 822) (by decide +kernel), List.mem_of_getElem? (i := 840) (by decide +kernel), List.mem_of_getElem? (i := 841) (by decide +kernel)⟩
theorem lw_p38 : lw_okq (⟨"FlipPolygonsModel", "behindFlip", "(II)I"⟩, 22) := ⟨⟨by decide +kernel, by decide +kernel⟩, List.mem_of_getElem? (i := 822) (by decide +kernel), List.mem_of_getElem? (i := 847) (by decide +kernel), List.mem_of_getElem? (i := 848) (by decide +kernel)⟩
theorem lw_p39 : lw_okq (⟨"FlipPolygonsModel", "flipped", "(II)I"⟩, 22) := ⟨⟨by decide +kernel, by decide +kernel⟩, List.mem_of_getElem? (i := 822) (by decide +kernel), List.mem_of_getElem? (i := 851) (by decide +kernel), List.mem_of_getElem? (i := 852) (by decide +kernel)⟩
theorem lw_p40 : lw_okq (⟨"FlipPolygonsModel", "apex", "(III)I"⟩, 22) := ⟨⟨by decide +kernel, by decide +kernel⟩, List.mem_of_getElem? (i := 822) (by decide +kernel), List.mem_of_getElem? (i := 855) (by decide +kernel), List.mem_of_getElem? (i := 856) (by decide +kernel)⟩
theorem lw_p41 : lw_okq (⟨"FlipPolygonsModel", "joined", "(III)Z"⟩, 22) := ⟨⟨by decide +kernel, by decide +kernel⟩, List.mem_of_getElem? (i := 822) (by decide +kernel), List.mem_of_getElem? (i := 859) (by decide +kernel), List.mem_of_getElem? (i := 860) (by decide +kernel)⟩
theorem lw_p42 : lw_okq (⟨"FlipPolygonsModel", "numberOf", "(II)I"⟩, 22) := ⟨⟨by decide +kernel, by decide +kernel⟩, List.mem_of_getElem? (i := 822) (by decide +kernel), List.mem_of_getElem? (i := 863) (by decide +kernel), List.mem_of_getElem? (i := 864) (by decide +kernel)⟩
theorem lw_p43 : lw_okq (⟨"FlipPolygonsModel", "isKnown", "(I)Z"⟩, 22) := ⟨⟨by decide +kernel, by decide +kernel⟩, List.mem_of_getElem? (i := 822) (by decide +kernel), List.mem_of_getElem? (i := 867) (by decide +kernel), List.mem_of_getElem? (i := 868) (by decide +kernel)⟩
theorem lw_p44 : lw_okq (⟨"FlipPolygonsModel", "sortAll", "()V"⟩, 22) := ⟨⟨by decide +kernel, by decide +kernel⟩, List.mem_of_getElem? (i := 822) (by decide +kernel), List.mem_of_getElem? (i := 871) (by decide +kernel), List.mem_of_getElem? (i := 872) (by decide +kernel)⟩
theorem lw_p45 : lw_okq (⟨"FlipPolygonsModel", "layLeads", "()V"⟩, 22) := ⟨⟨by decide +kernel, by decide +kernel⟩, List.mem_of_getElem? (i := 822) (by decide +kernel), List.mem_of_getElem? (i := 875) (by decide +kernel), List.mem_of_getElem? (i := 876) (by decide +kernel)⟩
theorem lw_p46 : lw_okq (⟨"FlipPolygonsModel", "indexOf", "(I)I"⟩, 22) := ⟨⟨by decide +kernel, by decide +kernel⟩, List.mem_of_getElem? (i := 822) (by decide +kernel), List.mem_of_getElem? (i := 879) (by decide +kernel), List.mem_of_getElem? (i := 880) (by decide +kernel)⟩
theorem lw_p47 : lw_okq (⟨"FlipPolygonsModel", "codeOf", "(I)I"⟩, 22) := ⟨⟨by decide +kernel, by decide +kernel⟩, List.mem_of_getElem? (i := 822) (by decide +kernel), List.mem_of_getElem? (i := 883) (by decide +kernel), List.mem_of_getElem? (i := 884) (by decide +kernel)⟩
def lw_privs_3 : List (MethodName × Nat) := [(⟨"FlipPolygons", "putNew", "(II)V"⟩, 11), (⟨"FlipPolygons", "isSnapshot", "(I)Z"⟩, 11), (⟨"FlipPolygonsModel", "layAll", "()V"⟩, 22), (⟨"FlipPolygonsModel", "layDiagonals", "()V"⟩, 22), (⟨"FlipPolygonsModel", "findAll", "()V"⟩, 22), (⟨"FlipPolygonsModel", "fanOf", "(I)I"⟩, 22), (⟨"FlipPolygonsModel", "behindFlip", "(II)I"⟩, 22), (⟨"FlipPolygonsModel", "flipped", "(II)I"⟩, 22), (⟨"FlipPolygonsModel", "apex", "(III)I"⟩, 22), (⟨"FlipPolygonsModel", "joined", "(III)Z"⟩, 22), (⟨"FlipPolygonsModel", "numberOf", "(II)I"⟩, 22), (⟨"FlipPolygonsModel", "isKnown", "(I)Z"⟩, 22), (⟨"FlipPolygonsModel", "sortAll", "()V"⟩, 22), (⟨"FlipPolygonsModel", "layLeads", "()V"⟩, 22), (⟨"FlipPolygonsModel", "indexOf", "(I)I"⟩, 22), (⟨"FlipPolygonsModel", "codeOf", "(I)I"⟩, 22)]
theorem lw_r3 : ∀ q ∈ lw_privs_3, lw_okq q := List.forall_mem_cons.mpr ⟨lw_p32, List.forall_mem_cons.mpr ⟨lw_p33, List.forall_mem_cons.mpr ⟨lw_p34, List.forall_mem_cons.mpr ⟨lw_p35, List.forall_mem_cons.mpr ⟨lw_p36, List.forall_mem_cons.mpr ⟨lw_p37, List.forall_mem_cons.mpr ⟨lw_p38, List.forall_mem_cons.mpr ⟨lw_p39, List.forall_mem_cons.mpr ⟨lw_p40, List.forall_mem_cons.mpr ⟨lw_p41, List.forall_mem_cons.mpr ⟨lw_p42, List.forall_mem_cons.mpr ⟨lw_p43, List.forall_mem_cons.mpr ⟨lw_p44, List.forall_mem_cons.mpr ⟨lw_p45, List.forall_mem_cons.mpr ⟨lw_p46, List.forall_mem_cons.mpr ⟨lw_p47, fun _ h => absurd h List.not_mem_nil⟩⟩⟩⟩⟩⟩⟩⟩⟩⟩⟩⟩⟩⟩⟩⟩
theorem lw_p48 : lw_okq (⟨"FlipPolygonsModel", "turned", "(II)I"⟩, 22) := ⟨⟨by decide +kernel, by decide +kernel⟩, List.mem_of_getElem? (i := 822) (by decide +kernel), List.mem_of_getElem? (i := 887) (by decide +kernel), List.mem_of_getElem? (i := 888) (by decide +kernel)⟩
theorem lw_p49 : lw_okq (⟨"FlipPolygonsModel", "mirrored", "(I)I"⟩, 22) := ⟨⟨by decide +kernel, by decide +kernel⟩, List.mem_of_getElem? (i := 822) (by decide +kernel), List.mem_of_getElem? (i := 891) (by decide +kernel), List.mem_of_getElem? (i := 892) (by decide +kernel)⟩
theorem lw_p50 : lw_okq (⟨"FlipPolygonsModel", "farthestFrom", "(I)I"⟩, 22) := ⟨⟨by decide +kernel, by decide +kernel⟩, List.mem_of_getElem? (i := 822) (by decide +kernel), List.mem_of_getElem? (i := 895) (by decide +kernel), List.mem_of_getElem? (i := 896) (by decide +kernel)⟩
theorem lw_p51 : lw_okq (⟨"FlipPolygonsModel", "goFrom", "(II)V"⟩, 22) := ⟨⟨by decide +kernel, by decide +kernel⟩, List.mem_of_getElem? (i := 822) (by decide +kernel), List.mem_of_getElem? (i := 899) (by decide +kernel), List.mem_of_getElem? (i := 900) (by decide +kernel)⟩
theorem lw_p52 : lw_okq (⟨"FlipPolygonsModel", "save", "()V"⟩, 22) := ⟨⟨by decide +kernel, by decide +kernel⟩, List.mem_of_getElem? (i := 822) (by decide +kernel), List.mem_of_getElem? (i := 981) (by decide +kernel), List.mem_of_getElem? (i := 982) (by decide +kernel)⟩
theorem lw_p53 : lw_okq (⟨"FlipPolygonsModel", "isDiagonal", "(II)Z"⟩, 22) := ⟨⟨by decide +kernel, by decide +kernel⟩, List.mem_of_getElem? (i := 822) (by decide +kernel), List.mem_of_getElem? (i := 992) (by decide +kernel), List.mem_of_getElem? (i := 993) (by decide +kernel)⟩
theorem lw_p54 : lw_okq (⟨"FlipPolygonsModel", "canFlip", "(II)Z"⟩, 22) := ⟨⟨by decide +kernel, by decide +kernel⟩, List.mem_of_getElem? (i := 822) (by decide +kernel), List.mem_of_getElem? (i := 996) (by decide +kernel), List.mem_of_getElem? (i := 997) (by decide +kernel)⟩
theorem lw_p55 : lw_okq (⟨"FlipPolygonsModel", "isCorner", "(I)Z"⟩, 22) := ⟨⟨by decide +kernel, by decide +kernel⟩, List.mem_of_getElem? (i := 822) (by decide +kernel), List.mem_of_getElem? (i := 1004) (by decide +kernel), List.mem_of_getElem? (i := 1005) (by decide +kernel)⟩
theorem lw_p56 : lw_okq (⟨"FlipPolygonsModel", "lay", "(II)V"⟩, 22) := ⟨⟨by decide +kernel, by decide +kernel⟩, List.mem_of_getElem? (i := 822) (by decide +kernel), List.mem_of_getElem? (i := 1011) (by decide +kernel), List.mem_of_getElem? (i := 1012) (by decide +kernel)⟩
theorem lw_p57 : lw_okq (⟨"FlipPolygonsModel", "lockedFrom", "(I)I"⟩, 22) := ⟨⟨by decide +kernel, by decide +kernel⟩, List.mem_of_getElem? (i := 822) (by decide +kernel), List.mem_of_getElem? (i := 1035) (by decide +kernel), List.mem_of_getElem? (i := 1036) (by decide +kernel)⟩
theorem lw_p58 : lw_okq (⟨"FlipPolygonsModel", "nextFlip", "()I"⟩, 22) := ⟨⟨by decide +kernel, by decide +kernel⟩, List.mem_of_getElem? (i := 822) (by decide +kernel), List.mem_of_getElem? (i := 1039) (by decide +kernel), List.mem_of_getElem? (i := 1040) (by decide +kernel)⟩
theorem lw_p59 : lw_okq (⟨"FlipPolygonsModel", "rightUpTo", "()I"⟩, 22) := ⟨⟨by decide +kernel, by decide +kernel⟩, List.mem_of_getElem? (i := 822) (by decide +kernel), List.mem_of_getElem? (i := 1055) (by decide +kernel), List.mem_of_getElem? (i := 1056) (by decide +kernel)⟩
theorem lw_p60 : lw_okq (⟨"FlipPolygonsModel", "canStand", "(I)Z"⟩, 22) := ⟨⟨by decide +kernel, by decide +kernel⟩, List.mem_of_getElem? (i := 822) (by decide +kernel), List.mem_of_getElem? (i := 1059) (by decide +kernel), List.mem_of_getElem? (i := 1060) (by decide +kernel)⟩
theorem lw_p61 : lw_okq (⟨"FlipPolygonsModel", "isTriangulation", "()Z"⟩, 22) := ⟨⟨by decide +kernel, by decide +kernel⟩, List.mem_of_getElem? (i := 822) (by decide +kernel), List.mem_of_getElem? (i := 1067) (by decide +kernel), List.mem_of_getElem? (i := 1068) (by decide +kernel)⟩
theorem lw_p62 : lw_okq (⟨"FlipPolygonsModel", "toldAt", "(I)I"⟩, 22) := ⟨⟨by decide +kernel, by decide +kernel⟩, List.mem_of_getElem? (i := 822) (by decide +kernel), List.mem_of_getElem? (i := 1071) (by decide +kernel), List.mem_of_getElem? (i := 1072) (by decide +kernel)⟩
theorem lw_p63 : lw_okq (⟨"FlipPolygonsModel", "cross", "(II)Z"⟩, 22) := ⟨⟨by decide +kernel, by decide +kernel⟩, List.mem_of_getElem? (i := 822) (by decide +kernel), List.mem_of_getElem? (i := 1075) (by decide +kernel), List.mem_of_getElem? (i := 1076) (by decide +kernel)⟩
def lw_privs_4 : List (MethodName × Nat) := [(⟨"FlipPolygonsModel", "turned", "(II)I"⟩, 22), (⟨"FlipPolygonsModel", "mirrored", "(I)I"⟩, 22), (⟨"FlipPolygonsModel", "farthestFrom", "(I)I"⟩, 22), (⟨"FlipPolygonsModel", "goFrom", "(II)V"⟩, 22), (⟨"FlipPolygonsModel", "save", "()V"⟩, 22), (⟨"FlipPolygonsModel", "isDiagonal", "(II)Z"⟩, 22), (⟨"FlipPolygonsModel", "canFlip", "(II)Z"⟩, 22), (⟨"FlipPolygonsModel", "isCorner", "(I)Z"⟩, 22), (⟨"FlipPolygonsModel", "lay", "(II)V"⟩, 22), (⟨"FlipPolygonsModel", "lockedFrom", "(I)I"⟩, 22), (⟨"FlipPolygonsModel", "nextFlip", "()I"⟩, 22), (⟨"FlipPolygonsModel", "rightUpTo", "()I"⟩, 22), (⟨"FlipPolygonsModel", "canStand", "(I)Z"⟩, 22), (⟨"FlipPolygonsModel", "isTriangulation", "()Z"⟩, 22), (⟨"FlipPolygonsModel", "toldAt", "(I)I"⟩, 22), (⟨"FlipPolygonsModel", "cross", "(II)Z"⟩, 22)]
theorem lw_r4 : ∀ q ∈ lw_privs_4, lw_okq q := List.forall_mem_cons.mpr ⟨lw_p48, List.forall_mem_cons.mpr ⟨lw_p49, List.forall_mem_cons.mpr ⟨lw_p50, List.forall_mem_cons.mpr ⟨lw_p51, List.forall_mem_cons.mpr ⟨lw_p52, List.forall_mem_cons.mpr ⟨lw_p53, List.forall_mem_cons.mpr ⟨lw_p54, List.forall_mem_cons.mpr ⟨lw_p55, List.forall_mem_cons.mpr ⟨lw_p56, List.forall_mem_cons.mpr ⟨lw_p57, List.forall_mem_cons.mpr ⟨lw_p58, List.forall_mem_cons.mpr ⟨lw_p59, List.forall_mem_cons.mpr ⟨lw_p60, List.forall_mem_cons.mpr ⟨lw_p61, List.forall_mem_cons.mpr ⟨lw_p62, List.forall_mem_cons.mpr ⟨lw_p63, fun _ h => absurd h List.not_mem_nil⟩⟩⟩⟩⟩⟩⟩⟩⟩⟩⟩⟩⟩⟩⟩⟩
theorem lw_p64 : lw_okq (⟨"FlipPolygonsModel", "triangulationNow", "(II)I"⟩, 22) := ⟨⟨by decide +kernel, by decide +kernel⟩, List.mem_of_getElem? (i := 822) (by decide +kernel), List.mem_of_getElem? (i := 1102) (by decide +kernel), List.mem_of_getElem? (i := 1103) (by decide +kernel)⟩
theorem lw_p65 : lw_okq (⟨"FlipPolygonsModel", "likenesses", "(I)I"⟩, 22) := ⟨⟨by decide +kernel, by decide +kernel⟩, List.mem_of_getElem? (i := 822) (by decide +kernel), List.mem_of_getElem? (i := 1106) (by decide +kernel), List.mem_of_getElem? (i := 1107) (by decide +kernel)⟩
theorem lw_p66 : lw_okq (⟨"FlipPolygonsModel", "cornersOf", "(IZ)I"⟩, 22) := ⟨⟨by decide +kernel, by decide +kernel⟩, List.mem_of_getElem? (i := 822) (by decide +kernel), List.mem_of_getElem? (i := 1110) (by decide +kernel), List.mem_of_getElem? (i := 1111) (by decide +kernel)⟩
theorem lw_p67 : lw_okq (⟨"FlipPolygonsModel", "degreeOf", "(II)I"⟩, 22) := ⟨⟨by decide +kernel, by decide +kernel⟩, List.mem_of_getElem? (i := 822) (by decide +kernel), List.mem_of_getElem? (i := 1114) (by decide +kernel), List.mem_of_getElem? (i := 1115) (by decide +kernel)⟩
theorem lw_p68 : lw_okq (⟨"FlipPolygonsModel", "leastSoFar", "(I)I"⟩, 22) := ⟨⟨by decide +kernel, by decide +kernel⟩, List.mem_of_getElem? (i := 822) (by decide +kernel), List.mem_of_getElem? (i := 1118) (by decide +kernel), List.mem_of_getElem? (i := 1119) (by decide +kernel)⟩
theorem lw_p69 : lw_okq (⟨"FlipPolygonsModel", "otherNow", "(II)I"⟩, 22) := ⟨⟨by decide +kernel, by decide +kernel⟩, List.mem_of_getElem? (i := 822) (by decide +kernel), List.mem_of_getElem? (i := 1130) (by decide +kernel), List.mem_of_getElem? (i := 1131) (by decide +kernel)⟩
theorem lw_p70 : lw_okq (⟨"FlipPolygonsModel", "reason", "(I)I"⟩, 22) := ⟨⟨by decide +kernel, by decide +kernel⟩, List.mem_of_getElem? (i := 822) (by decide +kernel), List.mem_of_getElem? (i := 1138) (by decide +kernel), List.mem_of_getElem? (i := 1139) (by decide +kernel)⟩
theorem lw_p71 : lw_okq (⟨"FlipPolygonsModel", "distanceNow", "(I)I"⟩, 22) := ⟨⟨by decide +kernel, by decide +kernel⟩, List.mem_of_getElem? (i := 822) (by decide +kernel), List.mem_of_getElem? (i := 1146) (by decide +kernel), List.mem_of_getElem? (i := 1147) (by decide +kernel)⟩
theorem lw_p72 : lw_okq (⟨"FlipPolygonsModel", "freeFrom", "(I)I"⟩, 22) := ⟨⟨by decide +kernel, by decide +kernel⟩, List.mem_of_getElem? (i := 822) (by decide +kernel), List.mem_of_getElem? (i := 1150) (by decide +kernel), List.mem_of_getElem? (i := 1151) (by decide +kernel)⟩
theorem lw_p73 : lw_okq (⟨"FlipPolygonsModel", "flippedThen", "(I)I"⟩, 22) := ⟨⟨by decide +kernel, by decide +kernel⟩, List.mem_of_getElem? (i := 822) (by decide +kernel), List.mem_of_getElem? (i := 1158) (by decide +kernel), List.mem_of_getElem? (i := 1159) (by decide +kernel)⟩
theorem lw_p74 : lw_okq (⟨"FlipPolygonsModel", "counted", "(I)I"⟩, 22) := ⟨⟨by decide +kernel, by decide +kernel⟩, List.mem_of_getElem? (i := 822) (by decide +kernel), List.mem_of_getElem? (i := 1166) (by decide +kernel), List.mem_of_getElem? (i := 1167) (by decide +kernel)⟩
theorem lw_p75 : lw_okq (⟨"FlipPolygonsModel", "share", "()D"⟩, 22) := ⟨⟨by decide +kernel, by decide +kernel⟩, List.mem_of_getElem? (i := 822) (by decide +kernel), List.mem_of_getElem? (i := 1174) (by decide +kernel), List.mem_of_getElem? (i := 1175) (by decide +kernel)⟩
theorem lw_p76 : lw_okq (⟨"FlipPolygonsModel", "mix", "(J)V"⟩, 22) := ⟨⟨by decide +kernel, by decide +kernel⟩, List.mem_of_getElem? (i := 822) (by decide +kernel), List.mem_of_getElem? (i := 1183) (by decide +kernel), List.mem_of_getElem? (i := 1184) (by decide +kernel)⟩
def lw_privs_5 : List (MethodName × Nat) := [(⟨"FlipPolygonsModel", "triangulationNow", "(II)I"⟩, 22), (⟨"FlipPolygonsModel", "likenesses", "(I)I"⟩, 22), (⟨"FlipPolygonsModel", "cornersOf", "(IZ)I"⟩, 22), (⟨"FlipPolygonsModel", "degreeOf", "(II)I"⟩, 22), (⟨"FlipPolygonsModel", "leastSoFar", "(I)I"⟩, 22), (⟨"FlipPolygonsModel", "otherNow", "(II)I"⟩, 22), (⟨"FlipPolygonsModel", "reason", "(I)I"⟩, 22), (⟨"FlipPolygonsModel", "distanceNow", "(I)I"⟩, 22), (⟨"FlipPolygonsModel", "freeFrom", "(I)I"⟩, 22), (⟨"FlipPolygonsModel", "flippedThen", "(I)I"⟩, 22), (⟨"FlipPolygonsModel", "counted", "(I)I"⟩, 22), (⟨"FlipPolygonsModel", "share", "()D"⟩, 22), (⟨"FlipPolygonsModel", "mix", "(J)V"⟩, 22)]
theorem lw_r5 : ∀ q ∈ lw_privs_5, lw_okq q := List.forall_mem_cons.mpr ⟨lw_p64, List.forall_mem_cons.mpr ⟨lw_p65, List.forall_mem_cons.mpr ⟨lw_p66, List.forall_mem_cons.mpr ⟨lw_p67, List.forall_mem_cons.mpr ⟨lw_p68, List.forall_mem_cons.mpr ⟨lw_p69, List.forall_mem_cons.mpr ⟨lw_p70, List.forall_mem_cons.mpr ⟨lw_p71, List.forall_mem_cons.mpr ⟨lw_p72, List.forall_mem_cons.mpr ⟨lw_p73, List.forall_mem_cons.mpr ⟨lw_p74, List.forall_mem_cons.mpr ⟨lw_p75, List.forall_mem_cons.mpr ⟨lw_p76, fun _ h => absurd h List.not_mem_nil⟩⟩⟩⟩⟩⟩⟩⟩⟩⟩⟩⟩⟩
def lw_privs : List (MethodName × Nat) := lw_privs_1 ++ (lw_privs_2 ++ (lw_privs_3 ++ (lw_privs_4 ++ (lw_privs_5))))
def lw_tbl : List Cond := k2_sels lw_privs ++ tables_1
theorem lw_privs_ok : ∀ q ∈ lw_privs, lw_okq q := by
  show ∀ q ∈ lw_privs_1 ++ (lw_privs_2 ++ (lw_privs_3 ++ (lw_privs_4 ++ (lw_privs_5)))), lw_okq q
  exact List.forall_mem_append.mpr ⟨lw_r1, List.forall_mem_append.mpr ⟨lw_r2, List.forall_mem_append.mpr ⟨lw_r3, List.forall_mem_append.mpr ⟨lw_r4, lw_r5⟩⟩⟩⟩
/-- the streams that the claim lets the run draw from -/
abbrev lw_cs : List Choice := [Jvm.Choice.named "NaN.bits"]
theorem lw_bits : nanBits ∈ lw_cs := by first | decide | exact List.mem_cons_self | simp [lw_cs, nanBits]
-- ===== end of PART A; then your names; then what follows =====
end
section
/-! ===== BEGIN words of one list among another's, by their places ===== -/
theorem goodIn_r {big : List Cond} (ws : List Cond) (ps : List Nat) (hp : ws = ps.filterMap (fun i => big[i]?)) (h : ws.all goodWord = true) : GoodIn big ws := by
  intro w hw
  have h1 := List.all_eq_true.mp h w hw
  rw [hp] at hw
  obtain ⟨i, -, hi⟩ := List.mem_filterMap.mp hw
  have hm : w ∈ big := by first | exact List.mem_of_getElem? hi | exact List.getElem?_mem hi
  exact ⟨hm, good_of_word h1⟩
theorem goodIn_app {big a b : List Cond} (ha : GoodIn big a) (hb : GoodIn big b) : GoodIn big (a ++ b) := fun w h => (List.mem_append.mp h).elim (ha w) (hb w)
theorem goodIn_ca {big a b : List Cond} {c : Cond} (ha : GoodIn big (c :: a)) (hb : GoodIn big b) : GoodIn big (c :: (a ++ b)) := fun w h => (List.mem_cons.mp h).elim (fun e => ha w (List.mem_cons.mpr (Or.inl e))) (fun h => (List.mem_append.mp h).elim (fun h => ha w (List.mem_cons.mpr (Or.inr h))) (hb w))
theorem goodIn_sub {big ws : List Cond} (hm : ∀ w ∈ ws, w ∈ big) (h : ws.all goodWord = true) : GoodIn big ws := fun w hw => ⟨hm w hw, good_of_word (List.all_eq_true.mp h w hw)⟩
/-! ===== END ===== -/

/-! ===== BEGIN exceptions that leave a method, and their catching by the caller (launches without stack traces) ===== -/
section VXA
/-! The laws vx_back, vx_callV, vx_callS, vx_callSW, vx_throw0, vx_throwS follow proofs of the library, with one case more: JvmDerived/Free/Laws.lean (Back.of_free), Shelf42/LK1.lean (callV, callS), Shelf/KitTraced.lean (throwNew0V, throwNewS). -/
/-- where a method has thrown q: the class by its name, the cell, what was written, the world -/
def vx_T (XC : String → State → State → Prop) (st : State) (q : Addr) (t : State) (mc ms : Nat) (free : Addr → Prop) : Prop :=
  ∃ (E : String) (ce : Cell) (L : List Loc), XC E st t ∧ t.heap[q]? = some ce ∧ ce.vm = .none ∧ st.vm.findClass E = some ce.cls ∧ st.WarmedH t.vm ∧ st.sameButNew ({ t with vm := st.vm } : State) L mc ms ∧ ∀ z ∈ L, free z.base
def vx_Q (Qc : Array Value → State → Outcome → State → Prop) (XC : String → State → State → Prop) (mc ms : Nat) (free : Addr → Prop) : Array Value → State → Outcome → State → Prop := fun a st o t =>
  (Qc a st o t ∧ ∃ L, FrameEnd st o t L mc ms ∧ ∀ q ∈ L, free q.base) ∨ ∃ q, o = .threw q ∧ vx_T XC st q t mc ms free
/-- a callee that returns or throws -/
def vx_Met (l : Launch) (y : MethodName) (ws : List Cond) (rm : Room) (Pc : Array Value → State → Prop) (Qc : Array Value → State → Outcome → State → Prop) (XC : String → State → State → Prop) (mc ms : Nat) (free : Addr → Prop) : Prop :=
  MetFree l y (headSpec ws rm) Pc (fun _ _ _ _ _ => True) (vx_Q Qc XC mc ms free)
def vx_Post (XC : String → State → State → Prop) (mc ms : Nat) (free : Addr → Prop) : Pt → Array Value → Addr → Pt → Prop := fun A a q B =>
  ∃ (g : JFrame) (mk : MethodId) (t : State) (L : List Loc) (E : String) (ce : Cell), B.U.heap = t.heap ∧ B.U.vm = t.vm ∧ XC E (A.U.calling g mk a) t ∧ t.heap[q]? = some ce ∧ ce.vm = .none ∧ A.U.vm.findClass E = some ce.cls ∧ B.locs = A.locs ++ L ∧ (∀ z ∈ L, free z.base) ∧ B.cells = A.cells + mc ∧ B.slots = A.slots + ms
def vx_Back (l : Launch) (R : Room) (p : Program) (e : Env) (below : List Frame) (s : State) (sargs : Array Value) (y : MethodName) (len W9 : Nat)
    (Pre : Pt → Array Value → Prop) (Post : Pt → Array Value → Option Value → Pt → Prop) (PostX : Pt → Array Value → Addr → Pt → Prop) : Prop :=
  ∀ (m : MethodId) (meth : Method) (c : Code) (A : Pt) (g : JFrame) (ig : Instr) (mk : MethodId) (a : Array Value),
    Stand p l e R s m sargs below meth c A.U A.locs A.cells A.slots → g.method = m → g.locals.size = c.maxLocals → decode c.code g.pc = .ok (ig, len) →
    2 * g.monitorRoom + (g.stack.map fun v => v.category).sum ≤ W9 → A.U.methodNamed? y = some mk → Pre A a →
    (∃ (v : Option Value) (B : Pt), Stand p l e R s m sargs below meth c B.U B.locs B.cells B.slots ∧ Post A a v B ∧
      Steps p.tables e below (doInvoke e (A.U.setTop g) [] mk a).1 (B.U.setTop { g with pc := g.pc + len, stack := v.toList ++ g.stack })) ∨
    (∃ (q : Addr) (B : Pt), Stand p l e R s m sargs below meth c B.U B.locs B.cells B.slots ∧ PostX A a q B ∧
      Steps p.tables e below (doInvoke e (A.U.setTop g) [] mk a).1 ((B.U.setTop g).pushFrame (.throwing q)))
section Payer
variable {l : Launch} {R : Room} {p : Program} {e : Env} {below : List Frame} {s : State} {sargs : Array Value} {y : MethodName} {len W9 : Nat}
theorem vx_back {ws : List Cond} {rm : Room} {Pc : Array Value → State → Prop} {Qc : Array Value → State → Outcome → State → Prop} {XC : String → State → State → Prop} {mc ms : Nat} {free : Addr → Prop} {bytes : ByteArray} {maxL : Nat} {ret : Option FieldType}
    (hM : vx_Met l y ws rm Pc Qc XC mc ms free) (hblind : FrameBlind Pc) (hrc : rm.cells = mc) (hrs : rm.slots = ms)
    (hframes : rm.frames + 1 ≤ R.frames) (hlocals : W9 + (maxL + 11) + rm.locals ≤ R.locals)
    (hws : ∀ w ∈ ws, ∀ a' U, s.WarmedH U.vm → w.before a' U = true) (hcode : Cond.code y bytes maxL ret ∈ ws) (hinit : ∀ a' U, s.WarmedH U.vm → (Cond.initialized y.cls).before a' U = true) :
    vx_Back l R p e below s sargs y len W9 (PreOf R mc ms Pc) (PostOf Qc mc ms free) (vx_Post XC mc ms free) := by
  intro m meth c A g ig mk a X hg hsize hdg hW hn hp
  have h1 : (headSpec ws rm).pre.before a A.U = true := atoms_intro fun w hw => hws w hw _ _ X.warmed
  have h2 : (Cond.code y bytes maxL ret).before a A.U = true := hws _ hcode _ _ X.warmed
  have h3 : (Cond.initialized y.cls).before a A.U = true := hinit _ _ X.warmed
  have h4 : A.cells + (headSpec ws rm).room.cells ≤ R.cells := by rw [show (headSpec ws rm).room.cells = mc from hrc]; exact hp.1
  have h5 : A.slots + (headSpec ws rm).room.slots ≤ R.slots := by rw [show (headSpec ws rm).room.slots = ms from hrs]; exact hp.2.1
  have hPc : Pc a (A.U.calling g mk a) := hblind _ _ _ _ hp.2.2
  obtain ⟨U, Ls, c0, s0⟩ := A
  dsimp only [Pt.U, Pt.locs, Pt.cells, Pt.slots] at h1 h2 h3 h4 h5 X hn hPc ⊢
  obtain ⟨methY, cY, hmY, hcY, -, hlY, -, -, -, -⟩ := Cond.code_spec hn h2
  obtain ⟨kY, hkY, -⟩ := className_of_methodNamed hn
  have hinitY : kY.init = .initialized := Cond.initialized_spec (findClass_of_methodNamed hn) hkY h3
  have h : At U g.method c below := by rw [hg]; exact X.here
  have hlocals9 : W9 + (maxL + 11) + (headSpec ws rm).room.locals ≤ R.locals := hlocals
  have happ : (headSpec ws rm).appliesLoose y e.platform (U.calling g mk a) = true :=
    Spec.appliesLoose_calling (g := g) h hdg hn hkY hinitY
      (X.room_calling (g := g) (R' := (headSpec ws rm).room) hsize hmY hcY hframes (by rw [hlY]; omega) h4 h5) h1
  obtain ⟨mid, hmid⟩ := h.above
  have hfr : (U.setTop g).frames = (.java g :: mid) ++ below := by rw [State.frames_setTop' g h.top, hmid]; rfl
  obtain ⟨o, s₂, hsteps, -, hend, hq⟩ := Steps.callFree hM p X.admits X.cas X.clock (acts := []) hfr happ hPc trivial
  have hq' : vx_Q Qc XC mc ms free a (U.calling g mk a) o s₂ := hq
  rw [State.frames_setTop' g h.top] at hend
  obtain ⟨g₀, hg0⟩ := Option.isSome_iff_exists.mp h.top
  obtain ⟨r, hr⟩ := State.topJava?_eq_some.mp hg0
  have hr' : (({ U with heap := s₂.heap, slotsUsed := s₂.slotsUsed } : State).setVm s₂.vm).frames = .java g₀ :: r := hr
  rcases hq' with ⟨hqc, L, hfe, hL⟩ | ⟨q, rfl, E, ce, L, hx, hce, hcv, hcl, hW₂, hsm, hL⟩
  · obtain ⟨⟨v, rfl⟩, hW₂, e2, q2, q3, q4, q5, q6⟩ := id hfe
    have e3 : s₂ = ({ (U.calling g mk a).setFrames s₂.frames with heap := s₂.heap, slotsUsed := s₂.slotsUsed } : State).setVm s₂.vm := by
      have : s₂ = ({ s₂ with vm := (U.calling g mk a).vm } : State).setVm s₂.vm := rfl
      rw [e2] at this
      exact this
    obtain ⟨c₂, i₂, len₂, hc₂, hd₂, hf₂⟩ := hend
    have hW' : U.WarmedH s₂.vm := hW₂
    have hcc : c₂ = c := by
      have h1 : s₂.code? g.method = U.code? g.method := by
        rw [State.code?_eq, State.code?_eq, hW'.alike.method?]
      exact Option.some.inj (hc₂.symm.trans (h1.trans h.code))
    subst hcc
    have hlen : len₂ = len := by rw [hdg] at hd₂; cases hd₂; rfl
    subst hlen
    have hs₂ : s₂ = (({ U with heap := s₂.heap, slotsUsed := s₂.slotsUsed } : State).setVm s₂.vm).setTop { g with pc := g.pc + len₂, stack := v.toList ++ g.stack } := by
      refine e3.trans ?_
      rw [hf₂, State.calling_eq h.top, State.setFrames_setFrames, State.setTop_of_frames _ hr', hr]
      rfl
    have hsame : U.sameButNew ({ U with heap := s₂.heap, slotsUsed := s₂.slotsUsed } : State) L mc ms := by
      refine ⟨?_, q2, q3, q4, q5, q6⟩
      obtain ⟨t, ht, -⟩ := State.frames_cons hr
      show ({ U with heap := s₂.heap, slotsUsed := s₂.slotsUsed } : State) = { U.setFrames U.frames with heap := s₂.heap, slotsUsed := s₂.slotsUsed }
      rw [State.setFrames_self ht]
    subst hg
    refine Or.inl ⟨v, ⟨(({ U with heap := s₂.heap, slotsUsed := s₂.slotsUsed } : State).setVm s₂.vm), Ls ++ L, c0 + mc, s0 + ms⟩,
      ⟨X.admits, X.cas, X.clock, X.frames, X.room, X.hears, X.method, X.code, (X.here.setHeapUsed s₂.heap s₂.slotsUsed).setVm hW'.alike, X.tail, State.WarmedH.trans X.warmed hW', X.limits, X.bytes, X.same.trans (hsame.setVm s.vm)⟩,
      ⟨g, mk, s₂, L, rfl, rfl, hqc, rfl, hL, rfl, rfl⟩, ?_⟩
    show Steps p.tables e below _ ((({ U with heap := s₂.heap, slotsUsed := s₂.slotsUsed } : State).setVm s₂.vm).setTop { g with pc := g.pc + len₂, stack := v.toList ++ g.stack })
    rw [← hs₂]
    exact hsteps
  · obtain ⟨e2, q2, q3, q4, q5, q6⟩ := id hsm
    have e3 : s₂ = ({ (U.calling g mk a).setFrames s₂.frames with heap := s₂.heap, slotsUsed := s₂.slotsUsed } : State).setVm s₂.vm := by
      have : s₂ = ({ s₂ with vm := (U.calling g mk a).vm } : State).setVm s₂.vm := rfl
      rw [e2] at this
      exact this
    have hf₂ : s₂.frames = .throwing q :: .java g :: U.frames.tail := hend
    have hW' : U.WarmedH s₂.vm := hW₂
    have hs₂ : s₂ = ((({ U with heap := s₂.heap, slotsUsed := s₂.slotsUsed } : State).setVm s₂.vm).setTop g).pushFrame (.throwing q) := by
      refine e3.trans ?_
      rw [hf₂, State.calling_eq h.top, State.setFrames_setFrames, State.pushFrame, State.frames_setTop _ hr', State.setTop_of_frames _ hr', State.setFrames_setFrames, hr]
      rfl
    have hsame : U.sameButNew ({ U with heap := s₂.heap, slotsUsed := s₂.slotsUsed } : State) L mc ms := by
      refine ⟨?_, q2, q3, q4, q5, q6⟩
      obtain ⟨t, ht, -⟩ := State.frames_cons hr
      show ({ U with heap := s₂.heap, slotsUsed := s₂.slotsUsed } : State) = { U.setFrames U.frames with heap := s₂.heap, slotsUsed := s₂.slotsUsed }
      rw [State.setFrames_self ht]
    subst hg
    refine Or.inr ⟨q, ⟨(({ U with heap := s₂.heap, slotsUsed := s₂.slotsUsed } : State).setVm s₂.vm), Ls ++ L, c0 + mc, s0 + ms⟩,
      ⟨X.admits, X.cas, X.clock, X.frames, X.room, X.hears, X.method, X.code, (X.here.setHeapUsed s₂.heap s₂.slotsUsed).setVm hW'.alike, X.tail, State.WarmedH.trans X.warmed hW', X.limits, X.bytes, X.same.trans (hsame.setVm s.vm)⟩,
      ⟨g, mk, s₂, L, E, ce, rfl, rfl, hx, hce, hcv, hcl, rfl, hL, rfl, rfl⟩, ?_⟩
    show Steps p.tables e below _ (((({ U with heap := s₂.heap, slotsUsed := s₂.slotsUsed } : State).setVm s₂.vm).setTop g).pushFrame (.throwing q))
    rw [← hs₂]
    exact hsteps
end Payer
section Calls
variable {p : Program} {l : Launch} {e : Env} {R : Room} {s : State} {m : MethodId} {args : Array Value} {below : List Frame} {meth : Method} {c : Code} {T : State} {locs : List Loc} {cells slots : Nat}
theorem vx_callV (X : Stand p l e R s m args below meth c T locs cells slots) (hexec : p.tables.exec = Jvm.exec) {own C : String} {index : Nat} {y : MethodName} {bytes : ByteArray} {maxL : Nat} {ret : Option FieldType}
    (hown : s.vm.findClass own = some m.cls) (hlink : (Cond.methodLink own index y).before args s = true) (hinst : (Cond.instanceMethod y).before args s = true) (hsel : (Cond.selects C y y).before args s = true)
    (hcode : (Cond.code y bytes maxL ret).before args s = true) (hy : y.cls ≠ "java/lang/invoke/MethodHandle" ∧ y.cls ≠ "java/lang/invoke/VarHandle")
    {W9 : Nat} {Pre : Pt → Array Value → Prop} {Post : Pt → Array Value → Option Value → Pt → Prop} {PostX : Pt → Array Value → Addr → Pt → Prop} (hK : vx_Back l R p e below s args y 3 W9 Pre Post PostX)
    {b : Addr} {cellB : Cell} (hcell : T.heap[b]? = some cellB) (hobj : cellB.vm.isStatics = false) (hcls : s.vm.findClass C = some cellB.cls)
    {g : JFrame} (hg : g.method = m) (hsize : g.locals.size = c.maxLocals) {argsL rest : List Value} (hlen : ∀ sig, parseMethodDescriptor y.desc = some sig → argsL.length = sig.parameters.length)
    (hstack : g.stack = argsL.reverse ++ .ref b :: rest) (hW : 2 * g.monitorRoom + (rest.map fun v => v.category).sum ≤ W9) (hdg : decode c.code g.pc = .ok (.invokevirtual index, 3))
    (hpre : ∀ vm₁, s.WarmedH vm₁ → Pre ⟨T.setVm vm₁, locs, cells, slots⟩ (Value.ref b :: argsL).toArray) :
    (∃ (v : Option Value) (vm₁ : Vm) (B : Pt), s.WarmedH vm₁ ∧ Stand p l e R s m args below meth c B.U B.locs B.cells B.slots ∧ Post ⟨T.setVm vm₁, locs, cells, slots⟩ (Value.ref b :: argsL).toArray v B ∧
      ∀ target, Steps p.tables e below (B.U.setTop { g with pc := g.pc + 3, stack := v.toList ++ rest }) target → Steps p.tables e below (T.setTop g) target) ∨
    (∃ (q : Addr) (vm₁ : Vm) (B : Pt), s.WarmedH vm₁ ∧ Stand p l e R s m args below meth c B.U B.locs B.cells B.slots ∧ PostX ⟨T.setVm vm₁, locs, cells, slots⟩ (Value.ref b :: argsL).toArray q B ∧
      Steps p.tables e below (T.setTop g) ((B.U.setTop { g with stack := rest }).pushFrame (.throwing q))) := by
  obtain ⟨mk, methM, hnamed, hmethM, hstM, habM⟩ := Cond.instanceMethod_spec hinst
  obtain ⟨methM', cM, hmethM', -, -, -, -, -, -, hsigM⟩ := Cond.code_spec hnamed hcode
  cases hmethM.symm.trans hmethM'
  obtain ⟨c2, r2, m2, q1, q2, q3, q4, kP, hkP, hkPi⟩ := Cond.selects_spec hsel
  cases hcls.symm.trans q1
  cases (State.methodFound?_of_named hnamed hy).symm.trans q2
  cases hnamed.symm.trans q3
  have hselP : selectMethod e.platform s.vm cellB.cls mk = .method mk := by rw [Launch.admits_selectMethod X.admits]; exact q4
  obtain ⟨vm₁, X₁, hstep₁⟩ := X.invokevirtual hexec hown hlink hnamed hmethM hstM hkP hkPi hy (a := b) (cell := cellB) hcell
    (fun z h => by rw [h] at hobj; cases hobj) hselP hmethM habM hkP hkPi (g := g) hg (argsL := argsL) (rest := rest) (hlen _ hsigM) hstack hdg
  rcases hK m meth c ⟨T.setVm vm₁, locs, cells, slots⟩ { g with stack := rest } (.invokevirtual index) mk (Value.ref b :: argsL).toArray X₁ hg hsize hdg hW (X₁.named hnamed) (hpre vm₁ X₁.warmed) with ⟨v, B, X', hpost, hsteps⟩ | ⟨q, B, X', hpost, hsteps⟩
  · exact Or.inl ⟨v, vm₁, B, X₁.warmed, X', hpost, fun target h => hstep₁ _ fun acts => by rw [doInvoke_state]; exact hsteps.trans h⟩
  · exact Or.inr ⟨q, vm₁, B, X₁.warmed, X', hpost, hstep₁ _ fun acts => by rw [doInvoke_state]; exact hsteps⟩
theorem vx_callS (X : Stand p l e R s m args below meth c T locs cells slots) (hexec : p.tables.exec = Jvm.exec) {own : String} {index : Nat} {y : MethodName} {bytes : ByteArray} {maxL : Nat} {ret : Option FieldType}
    (hown : s.vm.findClass own = some m.cls) (hlink : (Cond.methodLink own index y).before args s = true) (hstat : (Cond.static y).before args s = true) (hinit : (Cond.initialized y.cls).before args s = true)
    (hcode : (Cond.code y bytes maxL ret).before args s = true) (hy : y.cls ≠ "java/lang/invoke/MethodHandle" ∧ y.cls ≠ "java/lang/invoke/VarHandle")
    {W9 : Nat} {Pre : Pt → Array Value → Prop} {Post : Pt → Array Value → Option Value → Pt → Prop} {PostX : Pt → Array Value → Addr → Pt → Prop} (hK : vx_Back l R p e below s args y 3 W9 Pre Post PostX)
    {g : JFrame} (hg : g.method = m) (hsize : g.locals.size = c.maxLocals) {argsL rest : List Value} (hlen : ∀ sig, parseMethodDescriptor y.desc = some sig → argsL.length = sig.parameters.length)
    (hstack : g.stack = argsL.reverse ++ rest) (hW : 2 * g.monitorRoom + (rest.map fun v => v.category).sum ≤ W9) (hdg : decode c.code g.pc = .ok (.invokestatic index, 3))
    (hpre : ∀ vm₁, s.WarmedH vm₁ → Pre ⟨T.setVm vm₁, locs, cells, slots⟩ argsL.toArray) :
    (∃ (v : Option Value) (vm₁ : Vm) (B : Pt), s.WarmedH vm₁ ∧ Stand p l e R s m args below meth c B.U B.locs B.cells B.slots ∧ Post ⟨T.setVm vm₁, locs, cells, slots⟩ argsL.toArray v B ∧
      ∀ target, Steps p.tables e below (B.U.setTop { g with pc := g.pc + 3, stack := v.toList ++ rest }) target → Steps p.tables e below (T.setTop g) target) ∨
    (∃ (q : Addr) (vm₁ : Vm) (B : Pt), s.WarmedH vm₁ ∧ Stand p l e R s m args below meth c B.U B.locs B.cells B.slots ∧ PostX ⟨T.setVm vm₁, locs, cells, slots⟩ argsL.toArray q B ∧
      Steps p.tables e below (T.setTop g) ((B.U.setTop { g with stack := rest }).pushFrame (.throwing q))) := by
  obtain ⟨mk, hnamed⟩ := Cond.code_named hcode
  obtain ⟨methM, cM, hmethM, -, -, -, -, -, -, hsigM⟩ := Cond.code_spec hnamed hcode
  have hstatic : methM.isStatic = true := Cond.static_spec hnamed hmethM hstat
  obtain ⟨kP, hkP, -⟩ := className_of_methodNamed hnamed
  have hinitP : kP.init = .initialized := Cond.initialized_spec (findClass_of_methodNamed hnamed) hkP hinit
  obtain ⟨vm₁, X₁, hstep₁⟩ := X.invokestatic hexec hown hlink hnamed hmethM hstatic hkP hinitP hy (g := g) hg (argsL := argsL) (rest := rest) (hlen _ hsigM) hstack hdg
  rcases hK m meth c ⟨T.setVm vm₁, locs, cells, slots⟩ { g with stack := rest } (.invokestatic index) mk argsL.toArray X₁ hg hsize hdg hW (X₁.named hnamed) (hpre vm₁ X₁.warmed) with ⟨v, B, X', hpost, hsteps⟩ | ⟨q, B, X', hpost, hsteps⟩
  · exact Or.inl ⟨v, vm₁, B, X₁.warmed, X', hpost, fun target h => hstep₁ _ fun acts => by rw [doInvoke_state]; exact hsteps.trans h⟩
  · exact Or.inr ⟨q, vm₁, B, X₁.warmed, X', hpost, hstep₁ _ fun acts => by rw [doInvoke_state]; exact hsteps⟩
end Calls
theorem vx_cls {s : State} {T : State} {vm₁ : Vm} {E : String} {k : ClassId} (hW : s.WarmedH vm₁) (h : (T.setVm vm₁).vm.findClass E = some k) : s.vm.findClass E = some k := by
  have h1 : vm₁.findClass E = some k := h
  rw [hW.alike.findClass] at h1
  exact h1
/-- the method's frame g, with q thrown over it -/
def vx_W (p : Program) (l : Launch) (e : Env) (R : Room) (s : State) (m : MethodId) (args : Array Value) (below : List Frame) (meth : Method) (c : Code) (H : Heap) (locs : List Loc) (cells slots : Nat) (Q : State → Prop) (g : JFrame) (q : Addr) : Prop :=
  ∀ T : State, T.heap = H → Stand p l e R s m args below meth c T locs cells slots → ∃ t, Steps p.tables e below ((T.setTop g).pushFrame (.throwing q)) t ∧ Q t
def vx_Run (p : Program) (l : Launch) (e : Env) (R : Room) (s : State) (m : MethodId) (args : Array Value) (below : List Frame) (meth : Method) (c : Code) (H : Heap) (locs : List Loc) (cells slots mc ms : Nat) (g : JFrame) (rest : List Value) (Qa : State → Outcome → State → Prop) (XC : String → State → State → Prop) (free : Addr → Prop) : Prop :=
  ∀ T : State, T.heap = H → Stand p l e R s m args below meth c T locs cells slots →
    (∃ (v : Option Value) (st₀ t T' : State) (L : List Loc), st₀.heap = H ∧ Stand p l e R s m args below meth c T' (locs ++ L) (cells + mc) (slots + ms) ∧ (∀ q ∈ L, free q.base) ∧ T'.heap = t.heap ∧ T'.vm = t.vm ∧ Qa st₀ (.returned v) t ∧
      Goes p e below T g T' { g with pc := g.pc + 3, stack := v.toList ++ rest }) ∨
    (∃ (q : Addr) (st₀ t T' : State) (L : List Loc) (E : String) (ce : Cell), st₀.heap = H ∧ Stand p l e R s m args below meth c T' (locs ++ L) (cells + mc) (slots + ms) ∧ (∀ z ∈ L, free z.base) ∧ T'.heap = t.heap ∧ T'.vm = t.vm ∧ XC E st₀ t ∧ t.heap[q]? = some ce ∧ ce.vm = .none ∧ s.vm.findClass E = some ce.cls ∧
      Steps p.tables e below (T.setTop g) ((T'.setTop { g with stack := rest }).pushFrame (.throwing q)))
def vx_X {S : Type} (px : S → Prop) (B : String → S → State → Prop) (A : Nat → Prop) : String → State → State → Prop := fun E st t => ∃ u : S, px u ∧ B E u t ∧ va_F A st t
section Runs
variable {p : Program} {l : Launch} {e : Env} {R : Room} {s : State} {m : MethodId} {args : Array Value} {below : List Frame} {meth : Method} {c : Code} {H : Heap} {locs : List Loc} {cells slots : Nat}
variable {y : MethodName} {bytes cc : ByteArray} {maxL nL mc ms n index : Nat} {ret : Option FieldType} {ws : List Cond} {rm : Room} {Pc : Array Value → State → Prop} {Qc : Array Value → State → Outcome → State → Prop} {XC : String → State → State → Prop} {free : Addr → Prop} {Ts : List Cond} {own C : String} {b : Addr} {As rest : List Value} {g : JFrame}
theorem vx_callBack (cb : CallB R s args own index y bytes maxL ret ws rm mc ms n) (hM : vx_Met l y ws rm Pc Qc XC mc ms free) (hbl : FrameBlind Pc) : vx_Back l R p e below s args y 3 8 (PreOf R mc ms Pc) (PostOf Qc mc ms free) (vx_Post XC mc ms free) := by
  obtain ⟨hrc, hrs, hfr, hlo, hws, hcw, -, hini, -⟩ := cb
  exact vx_back (bytes := bytes) (maxL := maxL) (ret := ret) hM hbl hrc hrs hfr hlo hws hcw (fun a' U hW => word_at hW (Or.inl (by first | rfl | simp [Cond.onTables, Cond.keeps, Cond.steady])) hini)
theorem vx_runV (S : CallFix p m c cc nL s args Ts own) (hM : vx_Met l y ws rm Pc Qc XC mc ms free) (cw : CallW R s args own C index y bytes maxL ret ws rm mc ms n) (hp : PreV s H C b Pc As)
    (hg : g.method = m) (hn : As.length = n) (hsize : g.locals.size = nL) (hstack : g.stack = As.reverse ++ .ref b :: rest) (hW : 2 * g.monitorRoom + (rest.map fun v => v.category).sum ≤ 8) (hdg : decode cc g.pc = .ok (.invokevirtual index, 3)) (hf : cells + mc ≤ R.cells ∧ slots + ms ≤ R.slots) :
    vx_Run p l e R s m args below meth c H locs cells slots mc ms g rest (Qc (Value.ref b :: As).toArray) XC free := by
  have hK : vx_Back l R p e below s args y 3 8 (PreOf R mc ms Pc) (PostOf Qc mc ms free) (vx_Post XC mc ms free) := vx_callBack cw.1 hM hp.1
  obtain ⟨⟨-, -, -, -, -, -, hcode, -, hy, hlen, hl⟩, hin, hse⟩ := cw
  obtain ⟨hx, hb, hml, ho, -⟩ := S
  obtain ⟨-, ⟨cellB, hcB, hoB, hclB⟩, hPc⟩ := hp
  intro T hT X
  rcases vx_callV X hx (C := C) (bytes := bytes) (maxL := maxL) (ret := ret) ho hl hin hse hcode hy hK (by rw [hT]; exact hcB) hoB hclB hg (hsize.trans hml.symm) (argsL := As) (rest := rest) (fun sig h => hn.trans (hlen sig h)) hstack hW (by rw [hb]; exact hdg)
    (fun vm₁ hW₁ => ⟨hf.1, hf.2, hPc (T.setVm vm₁) hT hW₁⟩) with ⟨v, vm₁, ⟨U', l2, c2, s2⟩, hW₁, X', ⟨g', mk, t, L, e1, e2, hq, h1, hL, h2, h3⟩, st⟩ | ⟨q, vm₁, ⟨U', l2, c2, s2⟩, hW₁, X', ⟨g', mk, t, L, E, ce, e1, e2, hq, hce, hcv, hcl, h1, hL, h2, h3⟩, st⟩
  · dsimp only [Pt.U, Pt.locs, Pt.cells, Pt.slots] at X' e1 e2 h1 h2 h3 st
    subst h1; subst h2; subst h3
    exact Or.inl ⟨v, (T.setVm vm₁).calling g' mk (Value.ref b :: As).toArray, t, U', L, hT, X', hL, e1, e2, hq, st⟩
  · dsimp only [Pt.U, Pt.locs, Pt.cells, Pt.slots] at X' e1 e2 h1 h2 h3 st hcl
    subst h1; subst h2; subst h3
    exact Or.inr ⟨q, (T.setVm vm₁).calling g' mk (Value.ref b :: As).toArray, t, U', L, E, ce, hT, X', hL, e1, e2, hq, hce, hcv, vx_cls hW₁ hcl, st⟩
theorem vx_runS (S : CallFix p m c cc nL s args Ts own) (hM : vx_Met l y ws rm Pc Qc XC mc ms free) (cw : CallB R s args own index y bytes maxL ret ws rm mc ms n ∧ (Cond.static y).before args s = true) (hp : PreS s H Pc As)
    (hg : g.method = m) (hn : As.length = n) (hsize : g.locals.size = nL) (hstack : g.stack = As.reverse ++ rest) (hW : 2 * g.monitorRoom + (rest.map fun v => v.category).sum ≤ 8) (hdg : decode cc g.pc = .ok (.invokestatic index, 3)) (hf : cells + mc ≤ R.cells ∧ slots + ms ≤ R.slots) :
    vx_Run p l e R s m args below meth c H locs cells slots mc ms g rest (Qc As.toArray) XC free := by
  have hK : vx_Back l R p e below s args y 3 8 (PreOf R mc ms Pc) (PostOf Qc mc ms free) (vx_Post XC mc ms free) := vx_callBack cw.1 hM hp.1
  obtain ⟨⟨-, -, -, -, -, -, hcode, hini, hy, hlen, hl⟩, hstt⟩ := cw
  obtain ⟨hx, hb, hml, ho, -⟩ := S
  intro T hT X
  rcases vx_callS X hx (bytes := bytes) (maxL := maxL) (ret := ret) ho hl hstt hini hcode hy hK hg (hsize.trans hml.symm) (argsL := As) (rest := rest) (fun sig h => hn.trans (hlen sig h)) hstack hW (by rw [hb]; exact hdg)
    (fun vm₁ hW₁ => ⟨hf.1, hf.2, hp.2 (T.setVm vm₁) hT hW₁⟩) with ⟨v, vm₁, ⟨U', l2, c2, s2⟩, hW₁, X', ⟨g', mk, t, L, e1, e2, hq, h1, hL, h2, h3⟩, st⟩ | ⟨q, vm₁, ⟨U', l2, c2, s2⟩, hW₁, X', ⟨g', mk, t, L, E, ce, e1, e2, hq, hce, hcv, hcl, h1, hL, h2, h3⟩, st⟩
  · dsimp only [Pt.U, Pt.locs, Pt.cells, Pt.slots] at X' e1 e2 h1 h2 h3 st
    subst h1; subst h2; subst h3
    exact Or.inl ⟨v, (T.setVm vm₁).calling g' mk As.toArray, t, U', L, hT, X', hL, e1, e2, hq, st⟩
  · dsimp only [Pt.U, Pt.locs, Pt.cells, Pt.slots] at X' e1 e2 h1 h2 h3 st hcl
    subst h1; subst h2; subst h3
    exact Or.inr ⟨q, (T.setVm vm₁).calling g' mk As.toArray, t, U', L, E, ce, hT, X', hL, e1, e2, hq, hce, hcv, vx_cls hW₁ hcl, st⟩
end Runs
section Rows
variable {p : Program} {l : Launch} {e : Env} {R : Room} {s : State} {m : MethodId} {args : Array Value} {below : List Frame} {meth : Method} {c : Code} {H : Heap} {locs : List Loc} {cells slots : Nat} {Q : State → Prop}
variable {mc ms : Nat} {free : Addr → Prop} {A0 A1 : Nat → Prop} {H0 : Heap} {a : Array Value} {pc : Nat} {ls : Array Slot} {st0 rest : List Value}
theorem vx_keep {st₀ t T' : State} {L : List Loc} (h0 : st₀.heap = H) (e1 : T'.heap = t.heap) (hS : va_S A0 H0 H locs) (hA : ∀ q, q < H.size → A1 q → A0 q) (hf : ∀ q, free q → A0 q) (hL : ∀ q ∈ L, free q.base) (hF : va_F A1 st₀ t) :
    H.size ≤ T'.heap.size ∧ (∀ q : Nat, q < H.size → ¬ A1 q → T'.heap[q]? = H[q]?) ∧ va_S A0 H0 T'.heap (locs ++ L) := by
  obtain ⟨hz, hk⟩ := hF
  rw [h0] at hz hk
  exact ⟨by rw [e1]; exact hz, fun q h1 h2 => by rw [e1]; exact hk q h1 h2,
    ⟨Nat.le_trans hS.1 (by rw [e1]; exact hz), fun q h1 h2 => by rw [e1, hk q (Nat.lt_of_lt_of_le h1 hS.1) (fun z => h2 (hA q (Nat.lt_of_lt_of_le h1 hS.1) z))]; exact hS.2.1 q h1 h2, fun q hq => by
      rcases List.mem_append.mp hq with h | h
      · exact hS.2.2 q h
      · exact hf _ (hL q h)⟩⟩
theorem vx_calli {S SX : Type} {post : Int32 → S → Prop} {px : SX → Prop} {B : S → State → Prop} {BX : String → SX → State → Prop} {AX : Nat → Prop} (hr : vx_Run p l e R s m args below meth c H locs cells slots mc ms (F0 m pc ls st0) rest (va_Qi post B A1 a) (vx_X px BX AX) free) (hS : va_S A0 H0 H locs) (hA : ∀ q, q < H.size → A1 q → A0 q) (hf : ∀ q, free q → A0 q) (hAX : ∀ q, q < H.size → AX q → A0 q)
    (kx : ∀ (E : String) (ce : Cell) (q9 : Addr) (u : SX) (t : State) (H1 : Heap) (locs1 : List Loc), t.heap = H1 → s.vm.Alike t.vm → px u → BX E u t → H.size ≤ H1.size → (∀ q : Nat, q < H.size → ¬ AX q → H1[q]? = H[q]?) → va_S A0 H0 H1 locs1 → H1[q9]? = some ce → ce.vm = .none → s.vm.findClass E = some ce.cls → vx_W p l e R s m args below meth c H1 locs1 (cells + mc) (slots + ms) Q (F0 m pc ls rest) q9)
    (kk : ∀ (r : Int32) (u : S) (t : State) (H1 : Heap) (locs1 : List Loc), t.heap = H1 → s.vm.Alike t.vm → post r u → B u t → H.size ≤ H1.size → (∀ q : Nat, q < H.size → ¬ A1 q → H1[q]? = H[q]?) → va_S A0 H0 H1 locs1 → W p l e R s m args below meth c H1 locs1 (cells + mc) (slots + ms) Q (F0 m (pc + 3) ls (.int r :: rest))) : W p l e R s m args below meth c H locs cells slots Q (F0 m pc ls st0) := by
  intro T hT X
  rcases hr T hT X with ⟨v, st₀, t, T', L, h0, X', hL, e1, e2, ⟨⟨r, u, hv, hp, hb⟩, hF⟩, st⟩ | ⟨q, st₀, t, T', L, E, ce, h0, X', hL, e1, e2, ⟨u, hp, hb, hF⟩, hce, hcv, hcl, st⟩
  · cases hv
    obtain ⟨k1, k2, k3⟩ := vx_keep h0 e1 hS hA hf hL hF
    obtain ⟨t2, a1, b1⟩ := kk r u t T'.heap (locs ++ L) e1.symm (by rw [← e2]; exact X'.warmed.alike) hp hb k1 k2 k3 T' rfl X'
    exact ⟨t2, st t2 a1, b1⟩
  · obtain ⟨k1, k2, k3⟩ := vx_keep h0 e1 hS hAX hf hL hF
    obtain ⟨t2, a1, b1⟩ := kx E ce q u t T'.heap (locs ++ L) e1.symm (by rw [← e2]; exact X'.warmed.alike) hp hb k1 k2 k3 (by rw [e1]; exact hce) hcv hcl T' rfl X'
    exact ⟨t2, st.trans a1, b1⟩
theorem vx_calll {S SX : Type} {post : Int64 → S → Prop} {px : SX → Prop} {B : S → State → Prop} {BX : String → SX → State → Prop} {AX : Nat → Prop} (hr : vx_Run p l e R s m args below meth c H locs cells slots mc ms (F0 m pc ls st0) rest (va_Ql post B A1 a) (vx_X px BX AX) free) (hS : va_S A0 H0 H locs) (hA : ∀ q, q < H.size → A1 q → A0 q) (hf : ∀ q, free q → A0 q) (hAX : ∀ q, q < H.size → AX q → A0 q)
    (kx : ∀ (E : String) (ce : Cell) (q9 : Addr) (u : SX) (t : State) (H1 : Heap) (locs1 : List Loc), t.heap = H1 → s.vm.Alike t.vm → px u → BX E u t → H.size ≤ H1.size → (∀ q : Nat, q < H.size → ¬ AX q → H1[q]? = H[q]?) → va_S A0 H0 H1 locs1 → H1[q9]? = some ce → ce.vm = .none → s.vm.findClass E = some ce.cls → vx_W p l e R s m args below meth c H1 locs1 (cells + mc) (slots + ms) Q (F0 m pc ls rest) q9)
    (kk : ∀ (r : Int64) (u : S) (t : State) (H1 : Heap) (locs1 : List Loc), t.heap = H1 → s.vm.Alike t.vm → post r u → B u t → H.size ≤ H1.size → (∀ q : Nat, q < H.size → ¬ A1 q → H1[q]? = H[q]?) → va_S A0 H0 H1 locs1 → W p l e R s m args below meth c H1 locs1 (cells + mc) (slots + ms) Q (F0 m (pc + 3) ls (.long r :: rest))) : W p l e R s m args below meth c H locs cells slots Q (F0 m pc ls st0) := by
  intro T hT X
  rcases hr T hT X with ⟨v, st₀, t, T', L, h0, X', hL, e1, e2, ⟨⟨r, u, hv, hp, hb⟩, hF⟩, st⟩ | ⟨q, st₀, t, T', L, E, ce, h0, X', hL, e1, e2, ⟨u, hp, hb, hF⟩, hce, hcv, hcl, st⟩
  · cases hv
    obtain ⟨k1, k2, k3⟩ := vx_keep h0 e1 hS hA hf hL hF
    obtain ⟨t2, a1, b1⟩ := kk r u t T'.heap (locs ++ L) e1.symm (by rw [← e2]; exact X'.warmed.alike) hp hb k1 k2 k3 T' rfl X'
    exact ⟨t2, st t2 a1, b1⟩
  · obtain ⟨k1, k2, k3⟩ := vx_keep h0 e1 hS hAX hf hL hF
    obtain ⟨t2, a1, b1⟩ := kx E ce q u t T'.heap (locs ++ L) e1.symm (by rw [← e2]; exact X'.warmed.alike) hp hb k1 k2 k3 (by rw [e1]; exact hce) hcv hcl T' rfl X'
    exact ⟨t2, st.trans a1, b1⟩
theorem vx_callf {S SX : Type} {post : UInt32 → S → Prop} {px : SX → Prop} {B : S → State → Prop} {BX : String → SX → State → Prop} {AX : Nat → Prop} (hr : vx_Run p l e R s m args below meth c H locs cells slots mc ms (F0 m pc ls st0) rest (va_Qf post B A1 a) (vx_X px BX AX) free) (hS : va_S A0 H0 H locs) (hA : ∀ q, q < H.size → A1 q → A0 q) (hf : ∀ q, free q → A0 q) (hAX : ∀ q, q < H.size → AX q → A0 q)
    (kx : ∀ (E : String) (ce : Cell) (q9 : Addr) (u : SX) (t : State) (H1 : Heap) (locs1 : List Loc), t.heap = H1 → s.vm.Alike t.vm → px u → BX E u t → H.size ≤ H1.size → (∀ q : Nat, q < H.size → ¬ AX q → H1[q]? = H[q]?) → va_S A0 H0 H1 locs1 → H1[q9]? = some ce → ce.vm = .none → s.vm.findClass E = some ce.cls → vx_W p l e R s m args below meth c H1 locs1 (cells + mc) (slots + ms) Q (F0 m pc ls rest) q9)
    (kk : ∀ (r : UInt32) (u : S) (t : State) (H1 : Heap) (locs1 : List Loc), t.heap = H1 → s.vm.Alike t.vm → post r u → B u t → H.size ≤ H1.size → (∀ q : Nat, q < H.size → ¬ A1 q → H1[q]? = H[q]?) → va_S A0 H0 H1 locs1 → W p l e R s m args below meth c H1 locs1 (cells + mc) (slots + ms) Q (F0 m (pc + 3) ls (.float r :: rest))) : W p l e R s m args below meth c H locs cells slots Q (F0 m pc ls st0) := by
  intro T hT X
  rcases hr T hT X with ⟨v, st₀, t, T', L, h0, X', hL, e1, e2, ⟨⟨r, u, hv, hp, hb⟩, hF⟩, st⟩ | ⟨q, st₀, t, T', L, E, ce, h0, X', hL, e1, e2, ⟨u, hp, hb, hF⟩, hce, hcv, hcl, st⟩
  · cases hv
    obtain ⟨k1, k2, k3⟩ := vx_keep h0 e1 hS hA hf hL hF
    obtain ⟨t2, a1, b1⟩ := kk r u t T'.heap (locs ++ L) e1.symm (by rw [← e2]; exact X'.warmed.alike) hp hb k1 k2 k3 T' rfl X'
    exact ⟨t2, st t2 a1, b1⟩
  · obtain ⟨k1, k2, k3⟩ := vx_keep h0 e1 hS hAX hf hL hF
    obtain ⟨t2, a1, b1⟩ := kx E ce q u t T'.heap (locs ++ L) e1.symm (by rw [← e2]; exact X'.warmed.alike) hp hb k1 k2 k3 (by rw [e1]; exact hce) hcv hcl T' rfl X'
    exact ⟨t2, st.trans a1, b1⟩
theorem vx_calld {S SX : Type} {post : UInt64 → S → Prop} {px : SX → Prop} {B : S → State → Prop} {BX : String → SX → State → Prop} {AX : Nat → Prop} (hr : vx_Run p l e R s m args below meth c H locs cells slots mc ms (F0 m pc ls st0) rest (va_Qd post B A1 a) (vx_X px BX AX) free) (hS : va_S A0 H0 H locs) (hA : ∀ q, q < H.size → A1 q → A0 q) (hf : ∀ q, free q → A0 q) (hAX : ∀ q, q < H.size → AX q → A0 q)
    (kx : ∀ (E : String) (ce : Cell) (q9 : Addr) (u : SX) (t : State) (H1 : Heap) (locs1 : List Loc), t.heap = H1 → s.vm.Alike t.vm → px u → BX E u t → H.size ≤ H1.size → (∀ q : Nat, q < H.size → ¬ AX q → H1[q]? = H[q]?) → va_S A0 H0 H1 locs1 → H1[q9]? = some ce → ce.vm = .none → s.vm.findClass E = some ce.cls → vx_W p l e R s m args below meth c H1 locs1 (cells + mc) (slots + ms) Q (F0 m pc ls rest) q9)
    (kk : ∀ (r : UInt64) (u : S) (t : State) (H1 : Heap) (locs1 : List Loc), t.heap = H1 → s.vm.Alike t.vm → post r u → B u t → H.size ≤ H1.size → (∀ q : Nat, q < H.size → ¬ A1 q → H1[q]? = H[q]?) → va_S A0 H0 H1 locs1 → W p l e R s m args below meth c H1 locs1 (cells + mc) (slots + ms) Q (F0 m (pc + 3) ls (.double r :: rest))) : W p l e R s m args below meth c H locs cells slots Q (F0 m pc ls st0) := by
  intro T hT X
  rcases hr T hT X with ⟨v, st₀, t, T', L, h0, X', hL, e1, e2, ⟨⟨r, u, hv, hp, hb⟩, hF⟩, st⟩ | ⟨q, st₀, t, T', L, E, ce, h0, X', hL, e1, e2, ⟨u, hp, hb, hF⟩, hce, hcv, hcl, st⟩
  · cases hv
    obtain ⟨k1, k2, k3⟩ := vx_keep h0 e1 hS hA hf hL hF
    obtain ⟨t2, a1, b1⟩ := kk r u t T'.heap (locs ++ L) e1.symm (by rw [← e2]; exact X'.warmed.alike) hp hb k1 k2 k3 T' rfl X'
    exact ⟨t2, st t2 a1, b1⟩
  · obtain ⟨k1, k2, k3⟩ := vx_keep h0 e1 hS hAX hf hL hF
    obtain ⟨t2, a1, b1⟩ := kx E ce q u t T'.heap (locs ++ L) e1.symm (by rw [← e2]; exact X'.warmed.alike) hp hb k1 k2 k3 (by rw [e1]; exact hce) hcv hcl T' rfl X'
    exact ⟨t2, st.trans a1, b1⟩
theorem vx_callv {S SX : Type} {post : S → Prop} {px : SX → Prop} {B : S → State → Prop} {BX : String → SX → State → Prop} {AX : Nat → Prop} (hr : vx_Run p l e R s m args below meth c H locs cells slots mc ms (F0 m pc ls st0) rest (va_Qv post B A1 a) (vx_X px BX AX) free) (hS : va_S A0 H0 H locs) (hA : ∀ q, q < H.size → A1 q → A0 q) (hf : ∀ q, free q → A0 q) (hAX : ∀ q, q < H.size → AX q → A0 q)
    (kx : ∀ (E : String) (ce : Cell) (q9 : Addr) (u : SX) (t : State) (H1 : Heap) (locs1 : List Loc), t.heap = H1 → s.vm.Alike t.vm → px u → BX E u t → H.size ≤ H1.size → (∀ q : Nat, q < H.size → ¬ AX q → H1[q]? = H[q]?) → va_S A0 H0 H1 locs1 → H1[q9]? = some ce → ce.vm = .none → s.vm.findClass E = some ce.cls → vx_W p l e R s m args below meth c H1 locs1 (cells + mc) (slots + ms) Q (F0 m pc ls rest) q9)
    (kk : ∀ (u : S) (t : State) (H1 : Heap) (locs1 : List Loc), t.heap = H1 → s.vm.Alike t.vm → post u → B u t → H.size ≤ H1.size → (∀ q : Nat, q < H.size → ¬ A1 q → H1[q]? = H[q]?) → va_S A0 H0 H1 locs1 → W p l e R s m args below meth c H1 locs1 (cells + mc) (slots + ms) Q (F0 m (pc + 3) ls (rest))) : W p l e R s m args below meth c H locs cells slots Q (F0 m pc ls st0) := by
  intro T hT X
  rcases hr T hT X with ⟨v, st₀, t, T', L, h0, X', hL, e1, e2, ⟨⟨u, hv, hp, hb⟩, hF⟩, st⟩ | ⟨q, st₀, t, T', L, E, ce, h0, X', hL, e1, e2, ⟨u, hp, hb, hF⟩, hce, hcv, hcl, st⟩
  · cases hv
    obtain ⟨k1, k2, k3⟩ := vx_keep h0 e1 hS hA hf hL hF
    obtain ⟨t2, a1, b1⟩ := kk u t T'.heap (locs ++ L) e1.symm (by rw [← e2]; exact X'.warmed.alike) hp hb k1 k2 k3 T' rfl X'
    exact ⟨t2, st t2 a1, b1⟩
  · obtain ⟨k1, k2, k3⟩ := vx_keep h0 e1 hS hAX hf hL hF
    obtain ⟨t2, a1, b1⟩ := kx E ce q u t T'.heap (locs ++ L) e1.symm (by rw [← e2]; exact X'.warmed.alike) hp hb k1 k2 k3 (by rw [e1]; exact hce) hcv hcl T' rfl X'
    exact ⟨t2, st.trans a1, b1⟩
/-- caught by the row x of this method's table; the rows ahead don't take it -/
theorem vx_catch {own name : String} {E : String} {ce : Cell} {q : Addr} (hown : s.vm.findClass own = some m.cls) (pre : List ExceptionTableEntry) (x : ExceptionTableEntry) (suf : List ExceptionTableEntry) (hsplit : c.exceptionTable.toList = pre ++ x :: suf)
    (hpass : ∀ z ∈ pre, covers z pc = false ∨ (z.catchType ≠ 0 ∧ ∃ nm : String, (Cond.classLink own z.catchType nm).before args s = true ∧ va_Nc E nm s)) (hx : covers x pc = true) (h0 : x.catchType ≠ 0)
    (hlink : (Cond.classLink own x.catchType name).before args s = true) (hcast : (Cond.castable E name).before args s = true) (hcell : H[q]? = some ce) (hv : ce.vm = .none) (hcl : s.vm.findClass E = some ce.cls)
    (kk : W p l e R s m args below meth c H locs cells slots Q (F0 m x.handlerPc ls [.ref q])) : vx_W p l e R s m args below meth c H locs cells slots Q (F0 m pc ls rest) q := by
  intro T hT X
  have hpl : e.platform.magicAccessors = ({} : Platform).magicAccessors := by rw [X.admits.platform]
  obtain ⟨c3, c4, hc3, hc4, hasg⟩ := Cond.castable_spec hcast
  cases Option.some.inj (hc3.symm.trans hcl)
  obtain ⟨c5, hc5, hcl5⟩ := Cond.classLink_spec hown hlink e.platform hpl
  cases Option.some.inj (hc4.symm.trans hc5)
  obtain ⟨vm', X', st⟩ := X.thenCaughtThrough q (g := F0 m pc ls rest) rfl (Steps.refl _) (by rw [hT]; exact hcell) (by rw [hv]; rfl) (by obtain ⟨k9, h9, -⟩ := Vm.findClass_spec hcl; exact ⟨k9, h9⟩) pre x suf hsplit
    (fun z hz => by
      rcases hpass z hz with h | ⟨hz0, nm, hl1, hn1⟩
      · exact Or.inl h
      · obtain ⟨c6, hc6, hcl6⟩ := Cond.classLink_spec hown hl1 e.platform hpl
        obtain ⟨a8, b8, h1, h2, h3⟩ := hn1
        cases Option.some.inj (h1.symm.trans hcl)
        cases Option.some.inj (h2.symm.trans hc6)
        exact Or.inr ⟨hz0, _, hcl6, h3⟩) hx (Or.inr ⟨h0, c4, hcl5, hasg⟩)
  obtain ⟨t, a1, b1⟩ := kk (T.setVm vm') hT X'
  exact ⟨t, st.trans a1, b1⟩
end Rows
section Ends
variable {p : Program} {l : Launch} {e : Env} {R : Room} {s : State} {m : MethodId} {args : Array Value} {below : List Frame} {meth : Method} {c : Code} {H : Heap} {locs : List Loc} {cells slots : Nat} {Q : State → Prop}
variable {mc ms : Nat} {free : Addr → Prop} {A0 A1 : Nat → Prop} {H0 : Heap} {a : Array Value} {ls : Array Slot} {st0 rest : List Value}
variable {Qc : Array Value → State → Outcome → State → Prop} {XC : String → State → State → Prop}
/-- what a body that may throw owes at its end -/
def vx_MQ (below : List Frame) (Qc : Array Value → State → Outcome → State → Prop) (XC : String → State → State → Prop) (a : Array Value) (s : State) (mc ms : Nat) (free : Addr → Prop) : State → Prop := fun t =>
  ∃ o, t.status = .running ∧ Ended t below o ∧ vx_Q Qc XC mc ms free a s o t
theorem vx_ret {g : JFrame} {mc ms : Nat} (k : W p l e R s m args below meth c H locs cells slots (MQ below Qc args s mc ms free) g) : W p l e R s m args below meth c H locs cells slots (vx_MQ below Qc XC args s mc ms free) g := by
  intro T hT X
  obtain ⟨t, a1, o, b1, b2, b3, b4⟩ := k T hT X
  exact ⟨t, a1, o, b1, b2, Or.inl ⟨b3, b4⟩⟩
/-- not caught here: it goes on to the caller -/
theorem vx_widen {g : JFrame} {q : Addr} {k n : Nat} (h1 : cells ≤ k) (h2 : slots ≤ n) (kk : vx_W p l e R s m args below meth c H locs k n Q g q) : vx_W p l e R s m args below meth c H locs cells slots Q g q := fun T hT X => kk T hT (stand_widen X h1 h2)
theorem vx_out {pc : Nat} {E : String} {ce : Cell} {q : Addr} {mc ms : Nat} (hout : ∀ x ∈ c.exceptionTable.toList, covers x pc = false) (hlocks : meth.locks = false) (hcell : H[q]? = some ce) (hv : ce.vm = .none) (hcl : s.vm.findClass E = some ce.cls)
    (hx : ∀ t : State, t.heap = H → s.vm.Alike t.vm → XC E s t) (hf : ∀ z ∈ locs, free z.base) (hc : cells ≤ mc) (hs : slots ≤ ms) :
    vx_W p l e R s m args below meth c H locs cells slots (vx_MQ below Qc XC args s mc ms free) (F0 m pc ls rest) q := by
  intro T hT X
  obtain ⟨st1, hrun, hend, hW, hsm⟩ := X.leaveThrown q (g := F0 m pc ls rest) rfl rfl rfl hout hlocks
  have hcell9 : (T.setFrames (.throwing q :: below)).heap[q]? = some ce := by
    show T.heap[q]? = some ce
    rw [hT]; exact hcell
  exact ⟨_, st1, .threw q, hrun, hend, Or.inr ⟨q, rfl, E, ce, locs, hx _ hT hW.alike, hcell9, hv, hcl, hW, hsm.mono hc hs, hf⟩⟩
theorem vx_frame {U : State} {k n : Nat} (h : s.sameButNew ({ U with vm := s.vm } : State) locs k n) : s.heap.size ≤ U.heap.size ∧ ∀ q : Nat, q < s.heap.size → (∀ z ∈ locs, z.base ≠ q) → U.heap[q]? = s.heap[q]? := by
  obtain ⟨-, h2, -, -, -, h6⟩ := h
  refine ⟨h2, fun q hq hz => ?_⟩
  obtain ⟨c9, e1, e2, e3, e4⟩ := h6 q _ (Array.getElem?_eq_getElem hq)
  have hs : c9.slots = (s.heap[q]).slots := Array.ext_getElem? fun i => e4 i fun hm => hz _ hm rfl
  have h9 : c9 = s.heap[q] := by
    rw [hs] at e2
    exact e2
  have e5 : U.heap[q]? = some c9 := e1
  rw [e5, h9, Array.getElem?_eq_getElem hq]
/-- the words of a throw but the four that speak of the heap -/
def vx_no (w : Cond) : Bool := decide (w ≠ .isRef (.static Bundle.tN "UNASSIGNED_STACK" Bundle.steD)) && decide (w ≠ .isRef (.static Bundle.tN "SUPPRESSED_SENTINEL" Bundle.listD)) && decide (w ≠ .laysStatic Bundle.tN "UNASSIGNED_STACK" Bundle.steD) && decide (w ≠ .laysStatic Bundle.tN "SUPPRESSED_SENTINEL" Bundle.listD)
def vx_at0 (own : String) (ic : Nat) (X : String) (names : List String) : List Cond := (Bundle.ownAtoms0 own ic X names).filter vx_no
def vx_atS (own : String) (ic : Nat) (X : String) (names : List String) : List Cond := (Bundle.ownAtoms own ic X names).filter vx_no
/-- a word that the tables alone decide, or a good one -/
def vx_ot (w : Cond) : Bool := w.onTables || goodWord w
theorem vx_ot_at {args a' : Array Value} {s U : State} {w : Cond} (hW : s.WarmedH U.vm) (hvm : s.vm = U.vm) (hg : vx_ot w = true) (h : w.before args s = true) : w.before a' U = true := by
  simp only [vx_ot, Bool.or_eq_true] at hg
  rcases hg with hg | hg
  · exact va_tabs hg hvm h
  · exact word_at hW (good_of_word hg) h
/-- a list's words: the good ones out of the method's own list, the others by premises of their own -/
theorem vx_hat {args : Array Value} {s : State} {L B : List Cond} (h1 : ∀ w ∈ L.filter goodWord, w.before args s = true) (h2 : ∀ w ∈ L.filter (fun w => !goodWord w), w ∈ B) (h3 : ∀ w ∈ B, w.before args s = true) : ∀ w ∈ L, w.before args s = true := by
  intro w hw
  by_cases g : goodWord w = true
  · exact h1 w (List.mem_filter.mpr ⟨hw, g⟩)
  · refine h3 w (h2 w (List.mem_filter.mpr ⟨hw, ?_⟩))
    show (!goodWord w) = true
    cases hgw : goodWord w
    · rfl
    · exact absurd hgw g
theorem vx_c {args : Array Value} {s : State} {w : Cond} {B : List Cond} (h : w.before args s = true) (t : ∀ w ∈ B, w.before args s = true) : ∀ w' ∈ w :: B, w'.before args s = true := fun w' h' => (List.mem_cons.mp h').elim (fun e => by rw [e]; exact h) (t w')
theorem vx_n {args : Array Value} {s : State} : ∀ w ∈ ([] : List Cond), w.before args s = true := fun _ h => nomatch h
theorem vx_own {args : Array Value} {s : State} {L : List Cond} (h1 : ∀ w ∈ L.filter vx_no, w.before args s = true)
    (hU : (Cond.isRef (.static Bundle.tN "UNASSIGNED_STACK" Bundle.steD)).before args s = true) (hN : (Cond.isRef (.static Bundle.tN "SUPPRESSED_SENTINEL" Bundle.listD)).before args s = true)
    (lU : (Cond.laysStatic Bundle.tN "UNASSIGNED_STACK" Bundle.steD).before args s = true) (lN : (Cond.laysStatic Bundle.tN "SUPPRESSED_SENTINEL" Bundle.listD).before args s = true) : ∀ w ∈ L, w.before args s = true := by
  intro w hw
  by_cases e1 : w = .isRef (.static Bundle.tN "UNASSIGNED_STACK" Bundle.steD)
  · rw [e1]; exact hU
  · by_cases e2 : w = .isRef (.static Bundle.tN "SUPPRESSED_SENTINEL" Bundle.listD)
    · rw [e2]; exact hN
    · by_cases e3 : w = .laysStatic Bundle.tN "UNASSIGNED_STACK" Bundle.steD
      · rw [e3]; exact lU
      · by_cases e4 : w = .laysStatic Bundle.tN "SUPPRESSED_SENTINEL" Bundle.listD
        · rw [e4]; exact lN
        · exact h1 w (List.mem_filter.mpr ⟨hw, by unfold vx_no; rw [decide_eq_true e1, decide_eq_true e2, decide_eq_true e3, decide_eq_true e4]; rfl⟩)
/-- where a static field lies, its class's statics cell in H -/
def vx_L (C n d : String) (A : Nat → Prop) (U : State) (H : Heap) : Prop := ∃ (c : ClassId) (k : Class) (i : Nat) (f : Field) (a : Nat) (cell : Cell), U.vm.findClass C = some c ∧ U.fieldFound? C n d = some (c, k, i, f) ∧ f.isStatic = true ∧ k.statics = some a ∧ H[a]? = some cell ∧ cell.vm.isStatics = true ∧ cell.cls = c ∧ f.slot < cell.slots.size ∧ k.staticTypes[f.slot]? = some f.type ∧ ¬ A a
theorem vx_L.moved {C n d : String} {A : Nat → Prop} {u U : State} {H : Heap} (hvm : u.vm.Alike U.vm) (h : vx_L C n d A u H) : vx_L C n d A U H := by
  obtain ⟨c, k, i, f, a, cell, h1, h2, h3, h4, h5, h6, h7, h8, h9, h10⟩ := h
  obtain ⟨k', hi', he⟩ := State.fieldFound?_setVm hvm h2
  exact ⟨c, k', i, f, a, cell, by rw [hvm.findClass]; exact h1, hi', h3, by rw [he]; exact h4, h5, h6, h7, h8, by rw [he]; exact h9, h10⟩
theorem vx_L.kept {C n d : String} {A : Nat → Prop} {U : State} {H H1 : Heap} (h : vx_L C n d A U H) (hq : ∀ a : Nat, a < H.size → ¬ A a → H1[a]? = H[a]?) : vx_L C n d A U H1 := by
  obtain ⟨c, k, i, f, a, cell, h1, h2, h3, h4, h5, h6, h7, h8, h9, h10⟩ := h
  exact ⟨c, k, i, f, a, cell, h1, h2, h3, h4, by rw [hq a (Array.getElem?_eq_some_iff.mp h5).1 h10]; exact h5, h6, h7, h8, h9, h10⟩
theorem vx_L.narrow {C n d : String} {A B : Nat → Prop} {U : State} {H : Heap} (h : vx_L C n d A U H) (hAB : ∀ q, B q → A q) : vx_L C n d B U H := by
  obtain ⟨c, k, i, f, a, cell, h1, h2, h3, h4, h5, h6, h7, h8, h9, h10⟩ := h
  exact ⟨c, k, i, f, a, cell, h1, h2, h3, h4, h5, h6, h7, h8, h9, fun z => h10 (hAB _ z)⟩
theorem vx_L.word {C n d : String} {A : Nat → Prop} {s : State} {args : Array Value} (h : vx_L C n d A s s.heap) : (Cond.laysStatic C n d).before args s = true := by
  obtain ⟨c, k, i, f, a, cell, h1, h2, h3, h4, h5, h6, h7, h8, h9, -⟩ := h
  show (Cond.laysStatic C n d).holds args s none s [] = true
  exact Cond.laysStatic_of h1 h2 h3 h4 h5 h6 h7 h8 h9
/-- .. and what it holds: null or some reference -/
def vx_Zq (C n d : String) (A : Nat → Prop) (U : State) (H : Heap) : Prop := va_Zq C n d A U H ∧ vx_L C n d A U H
theorem vx_Zq.moved {C n d : String} {A : Nat → Prop} {u U : State} {H : Heap} (hvm : u.vm.Alike U.vm) (h : vx_Zq C n d A u H) : vx_Zq C n d A U H := ⟨va_Zq.moved hvm h.1, vx_L.moved hvm h.2⟩
theorem vx_Zq.kept {C n d : String} {A : Nat → Prop} {U : State} {H H1 : Heap} (h : vx_Zq C n d A U H) (hq : ∀ a : Nat, a < H.size → ¬ A a → H1[a]? = H[a]?) : vx_Zq C n d A U H1 := ⟨va_Zq.kept h.1 hq, vx_L.kept h.2 hq⟩
theorem vx_Zq.narrow {C n d : String} {A B : Nat → Prop} {U : State} {H : Heap} (h : vx_Zq C n d A U H) (hAB : ∀ q, B q → A q) : vx_Zq C n d B U H := ⟨va_Zq.narrow h.1 hAB, vx_L.narrow h.2 hAB⟩
theorem vx_Zqof {args : Array Value} {s : State} {C n d : String} {A : Nat → Prop} (hl : (Cond.laysStatic C n d).before args s = true) (hini : (Cond.initialized C).before args s = true) (h : (Cond.isRef (.static C n d)).before args s = true) (hA : ∀ a : Nat, a < s.heap.size → ¬ A a) : vx_Zq C n d A s s.heap := by
  refine ⟨va_Zqof hl hini h hA, ?_⟩
  obtain ⟨c, k, i, f, a, cell, h1, h2, h3, h4, h5, h6, h7, h8, h9⟩ := Cond.laysStatic_spec hl
  exact ⟨c, k, i, f, a, cell, h1, h2, h3, h4, h5, h6, h7, h8, h9, hA a (Array.getElem?_eq_some_iff.mp h5).1⟩
theorem vx_isRef {C n d : String} {v : Value} {A : Nat → Prop} {s : State} {args : Array Value} (h : va_Z C n d v A s s.heap) (hv : v.isRef = true) : (Cond.isRef (.static C n d)).before args s = true := by
  obtain ⟨cf, kf, fi, f, a, cell, h1, h2, h3, h4, h5, h6, h7, -⟩ := h
  have he : (Term.static C n d).eval args s none [] s = some v := by
    simp [Term.eval, State.fieldNamed?, h1, h2, h4, h5, h6, h7]
  simp only [Cond.before, Cond.holds, Cond.value, he]
  cases v <;> simp_all [Value.isRef]
theorem vx_isRefq {C n d : String} {A : Nat → Prop} {s : State} {args : Array Value} (h : va_Zq C n d A s s.heap) : (Cond.isRef (.static C n d)).before args s = true := by
  rcases h with h | ⟨t, h⟩
  · exact vx_isRef h rfl
  · exact vx_isRef h rfl
/-- the same frame, seen from here: as if the method were called anew in this heap -/
theorem vx_rebase {T : State} (X : Stand p l e R s m args below meth c T locs cells slots) {R' : Room} (hf : R'.frames ≤ R.frames) (hl : R'.locals ≤ R.locals) (hc : cells + R'.cells ≤ R.cells) (hs : slots + R'.slots ≤ R.slots) :
    Stand p l e R' ((T.setVm s.vm).setFrames (.invoking m args :: below)) m args below meth c T [] 0 0 := by
  have htop : (T.setVm s.vm).topJava?.isSome := X.here.top
  have hF : ((T.setVm s.vm).setFrames (.invoking m args :: below)).frames = .invoking m args :: below := State.frames_setFrames _ (State.cur_lt_of_top htop)
  obtain ⟨g₀, hg0⟩ := Option.isSome_iff_exists.mp htop
  obtain ⟨r, hr⟩ := State.topJava?_eq_some.mp hg0
  have hl9 : e.platform.stackLimits (T.setVm s.vm).me = e.platform.stackLimits s.me := X.limits
  have hb9 : (T.setVm s.vm).me.stackBytes = s.me.stackBytes := X.bytes
  refine ⟨X.admits, X.cas, X.clock, hF, ?_, X.hears, X.method, X.code, X.here, X.tail, X.warmed, ?_, ?_, ?_⟩
  · have h := X.room
    have hU : ((T.setVm s.vm).setFrames (.invoking m args :: below)).localsInUse = s.localsInUse := by
      rw [State.localsInUse_invoking hF (meth := meth) (c := c) X.method X.code, State.localsInUse_invoking X.frames X.method X.code]
    simp only [State.hasRoom, Bool.and_eq_true, decide_eq_true_eq] at h ⊢
    obtain ⟨⟨⟨⟨h1, h2, h3, h4, h5, h6⟩, h7⟩, h8⟩, h9⟩ := h
    rw [X.frames, List.length_cons] at h2 h3
    have q1 := X.heapSize
    have q2 := X.used
    simp only [hF, hU, List.length_cons, State.stackLimits_setFrames, State.stackBytes_setFrames, hl9, hb9]
    refine ⟨⟨⟨⟨by omega, by omega, by omega, by omega, by omega, h6⟩, ?_⟩, ?_⟩, X.book⟩
    · show T.heap.size + R'.cells ≤ e.platform.maxCells
      omega
    · show T.slotsUsed + R'.slots ≤ e.platform.maxSlots
      omega
  · rw [State.stackLimits_setFrames]; rfl
  · rw [State.stackBytes_setFrames]; rfl
  · refine ⟨?_, Nat.le_refl _, Nat.le_refl _, ?_, ?_, fun a c9 h9 => ⟨c9, h9, rfl, rfl, fun _ _ => rfl⟩⟩
    · obtain ⟨t, ht, -⟩ := State.frames_cons hr
      show T.setVm s.vm = { ((T.setVm s.vm).setFrames (.invoking m args :: below)).setFrames (T.setVm s.vm).frames with heap := T.heap, slotsUsed := T.slotsUsed }
      rw [State.setFrames_setFrames, State.setFrames_self ht]
      rfl
    · show T.slotsUsed = T.slotsUsed + ((T.heap.toList.drop T.heap.size).map (·.slots.size)).sum
      rw [List.drop_eq_nil_of_le (Nat.le_of_eq Array.length_toList)]
      rfl
    · show ((T.heap.toList.drop T.heap.size).map (·.slots.size)).sum ≤ 0
      rw [List.drop_eq_nil_of_le (Nat.le_of_eq Array.length_toList)]
      exact Nat.le_refl _
/-- 'throw new E()': new; dup; invokespecial; athrow -/
theorem vx_throw0 {cc : ByteArray} {pc : Nat} (hexec : p.tables.exec = Jvm.exec) (hb : c.code = cc) (hl : l.stackTraces = false) {own cls : String} {names : List String} {ik ic mc ms : Nat} {A : Nat → Prop}
    (hown : s.vm.findClass own = some m.cls) (hcls : Bundle.fit cls = true) (hnames : ∀ n ∈ names, Bundle.fit n = true)
    (hk : (Cond.classLink own ik cls).before args s = true) (hini : (Cond.initialized cls).before args s = true) (hat : ∀ w ∈ vx_at0 own ic cls names, w.before args s = true)
    (hgood : ∀ w ∈ Cond.classLink own ik cls :: Cond.initialized cls :: vx_at0 own ic cls names, vx_ot w = true)
    (hU : vx_Zq Bundle.tN "UNASSIGNED_STACK" Bundle.steD A s s.heap) (hN : vx_Zq Bundle.tN "SUPPRESSED_SENTINEL" Bundle.listD A s s.heap) (hS : va_S A s.heap H locs) (hsize : ls.size = c.maxLocals)
    (d0 : decode cc pc = .ok (.new ik, 3)) (d3 : decode cc (pc + 3) = .ok (.dup, 1)) (d4 : decode cc (pc + 4) = .ok (.invokespecial ic, 3)) (d7 : decode cc (pc + 7) = .ok (.athrow, 1))
    (hout : ∀ x ∈ c.exceptionTable.toList, covers x (pc + 7) = false)
    (hRframes : names.length + 3 < R.frames) (hRlocals : (rest.map fun v => v.category).sum + (13 * (names.length + 1) + 42) ≤ R.locals) (hRcells : cells + 1 ≤ R.cells) (hRslots : slots + 6 ≤ R.slots) (hlocks : meth.locks = false)
    (hx : ∀ t : State, s.vm.Alike t.vm → H.size ≤ t.heap.size → (∀ q : Nat, q < H.size → t.heap[q]? = H[q]?) → XC cls s t)
    (hf : ∀ z ∈ locs, free z.base) (hc : cells + 1 ≤ mc) (hs : slots + 6 ≤ ms) :
    W p l e R s m args below meth c H locs cells slots (vx_MQ below Qc XC args s mc ms free) (F0 m pc ls rest) := by
  intro T hT X
  have htr : e.platform.stackTraces = false := (show e.platform.stackTraces = l.stackTraces by rw [X.admits.platform]).trans hl
  have Y := vx_rebase X (R' := { frames := R.frames, locals := R.locals, cells := 1, slots := 6 }) (Nat.le_refl _) (Nat.le_refl _) hRcells hRslots
  obtain ⟨s', hA⟩ : ∃ z, z = (T.setVm s.vm).setFrames (.invoking m args :: below) := ⟨_, rfl⟩
  rw [← hA] at Y
  have hvm : s'.vm = s.vm := by rw [hA]; rfl
  have hhp : s'.heap = H := by rw [hA]; exact hT
  have hW0 : s.WarmedH s'.vm := by rw [hvm]; exact State.WarmedH.refl s
  have hat' : ∀ w ∈ vx_at0 own ic cls names, w.before args s' = true := fun w hw => vx_ot_at hW0 hvm.symm (hgood w (List.mem_cons_of_mem _ (List.mem_cons_of_mem _ hw))) (hat w hw)
  have hk' : (Cond.classLink own ik cls).before args s' = true := vx_ot_at hW0 hvm.symm (hgood _ List.mem_cons_self) hk
  have hini' : (Cond.initialized cls).before args s' = true := vx_ot_at hW0 hvm.symm (hgood _ (List.mem_cons_of_mem _ List.mem_cons_self)) hini
  have hU' : vx_Zq Bundle.tN "UNASSIGNED_STACK" Bundle.steD A s' s'.heap := by rw [hhp]; exact vx_Zq.moved hW0.alike (hU.kept hS.2.1)
  have hN' : vx_Zq Bundle.tN "SUPPRESSED_SENTINEL" Bundle.listD A s' s'.heap := by rw [hhp]; exact vx_Zq.moved hW0.alike (hN.kept hS.2.1)
  have h : ∀ w ∈ Bundle.ownAtoms0 own ic cls names, w.before args s' = true := vx_own hat' (vx_isRefq hU'.1) (vx_isRefq hN'.1) hU'.2.word hN'.2.word
  have hown' : s'.vm.findClass own = some m.cls := by rw [hvm]; exact hown
  have hins : (Cond.instantiable cls 6).before args s' = true := h _ (by simp [Bundle.ownAtoms0])
  obtain ⟨vm₁, cX, kX, hfX, hkX, -, -, X₁, st1⟩ := Y.newCold hexec (own := own) (C := cls) (index := ik) (n := 6) hown' hk' hins hini'
    (g := F0 m pc ls rest) rfl (by rw [hb]; exact d0) (Nat.le_refl _) (Nat.le_refl _)
  generalize hT1 : (T.setVm vm₁).pushCell { cls := cX, slots := kX.instanceTypes.map defaultValue, vm := .none } = T1 at X₁ st1
  have hcat : (Value.ref T.heap.size).category = 1 := rfl
  have hcellA : T1.heap[T.heap.size]? = some (freshCell cX kX) := by rw [← hT1]; exact State.heap_pushCell_size _ _
  have d3' : decode c.code (pc + 3) = .ok (.dup, 1) := by rw [hb]; exact d3
  obtain ⟨U, hsteps, hrun, hend, hW, hsame, ce, hce, hO⟩ := X₁.ctorThrow0 hexec htr (own := own) (cls := cls) (names := names) (ic := ic) hown' hcls hnames h (fun x hx => nomatch hx) hfX hkX hcellA (by rw [hhp, hT]; exact Nat.le_refl _)
    (g := { method := m, pc := pc + 4, locals := ls, stack := .ref T.heap.size :: .ref T.heap.size :: rest, locked := none }) rfl hsize rfl rfl (rest := rest) rfl
    (by rw [hb]; exact d4) (by rw [hb]; exact d7) hout hRframes (by simp only [List.map_cons, List.sum_cons, hcat]; omega) hlocks
  obtain ⟨f1, f2⟩ := vx_frame hsame
  rw [hhp] at f1 f2
  have hWs : s.WarmedH U.vm := State.WarmedH.trans hW0 hW
  have hcl : s.vm.findClass cls = some ce.cls := by
    have h9 := hO.cls
    rw [hvm] at h9
    exact h9
  have hall : s.sameButNew ({ U with vm := s.vm } : State) locs mc ms := by
    subst hA
    obtain ⟨e1, e2⟩ := hsame
    rw [State.setFrames_setFrames] at e1
    have h2 : (T.setVm s.vm).sameButNew ({ U with vm := s.vm } : State) [] (0 + 1) (0 + 6) := ⟨e1, e2⟩
    have h3 := X.same.trans h2
    rw [List.append_nil] at h3
    exact h3.mono hc hs
  refine ⟨U, ?_, .threw T.heap.size, hrun, hend, Or.inr ⟨T.heap.size, rfl, cls, ce, locs, hx U hWs.alike f1 (fun q hq => f2 q hq (fun z hz => nomatch hz)), hce, hO.vm, hcl, hWs, hall, hf⟩⟩
  refine st1 _ ?_
  show Steps p.tables e below (T1.setTop { method := m, pc := pc + 3, locals := ls, stack := .ref T.heap.size :: rest, locked := none }) _
  jvm_step X₁.here [X₁.here.top, hexec, d3', Value.category]
  exact hsteps
/-- 'throw new E("text")': new; dup; ldc; invokespecial; athrow -/
theorem vx_throwS {cc : ByteArray} {pc : Nat} (hexec : p.tables.exec = Jvm.exec) (hb : c.code = cc) (hl : l.stackTraces = false) {own cls text : String} {names : List String} {ik is ic mc ms sa : Nat} {A : Nat → Prop}
    (hown : s.vm.findClass own = some m.cls) (hcls : Bundle.fit cls = true) (hnames : ∀ n ∈ names, Bundle.fit n = true)
    (hk : (Cond.classLink own ik cls).before args s = true) (hini : (Cond.initialized cls).before args s = true) (hstr : vk_R own is text sa s) (hat : ∀ w ∈ vx_atS own ic cls names, w.before args s = true)
    (hgood : ∀ w ∈ Cond.classLink own ik cls :: Cond.initialized cls :: vx_atS own ic cls names, vx_ot w = true)
    (hU : vx_Zq Bundle.tN "UNASSIGNED_STACK" Bundle.steD A s s.heap) (hN : vx_Zq Bundle.tN "SUPPRESSED_SENTINEL" Bundle.listD A s s.heap) (hS : va_S A s.heap H locs) (hsize : ls.size = c.maxLocals)
    (d0 : decode cc pc = .ok (.new ik, 3)) (d3 : decode cc (pc + 3) = .ok (.dup, 1)) (d4 : decode cc (pc + 4) = .ok (.ldc is, 2)) (d6 : decode cc (pc + 6) = .ok (.invokespecial ic, 3)) (d9 : decode cc (pc + 9) = .ok (.athrow, 1))
    (hout : ∀ x ∈ c.exceptionTable.toList, covers x (pc + 9) = false)
    (hRframes : names.length + 3 < R.frames) (hRlocals : (rest.map fun v => v.category).sum + (13 * (names.length + 1) + 43) ≤ R.locals) (hRcells : cells + 1 ≤ R.cells) (hRslots : slots + 6 ≤ R.slots) (hlocks : meth.locks = false)
    (hx : ∀ t : State, s.vm.Alike t.vm → H.size ≤ t.heap.size → (∀ q : Nat, q < H.size → t.heap[q]? = H[q]?) → XC cls s t)
    (hf : ∀ z ∈ locs, free z.base) (hc : cells + 1 ≤ mc) (hs : slots + 6 ≤ ms) :
    W p l e R s m args below meth c H locs cells slots (vx_MQ below Qc XC args s mc ms free) (F0 m pc ls rest) := by
  intro T hT X
  have htr : e.platform.stackTraces = false := (show e.platform.stackTraces = l.stackTraces by rw [X.admits.platform]).trans hl
  have Y := vx_rebase X (R' := { frames := R.frames, locals := R.locals, cells := 1, slots := 6 }) (Nat.le_refl _) (Nat.le_refl _) hRcells hRslots
  obtain ⟨s', hA⟩ : ∃ z, z = (T.setVm s.vm).setFrames (.invoking m args :: below) := ⟨_, rfl⟩
  rw [← hA] at Y
  have hvm : s'.vm = s.vm := by rw [hA]; rfl
  have hhp : s'.heap = H := by rw [hA]; exact hT
  have hW0 : s.WarmedH s'.vm := by rw [hvm]; exact State.WarmedH.refl s
  have hat' : ∀ w ∈ vx_atS own ic cls names, w.before args s' = true := fun w hw => vx_ot_at hW0 hvm.symm (hgood w (List.mem_cons_of_mem _ (List.mem_cons_of_mem _ hw))) (hat w hw)
  have hk' : (Cond.classLink own ik cls).before args s' = true := vx_ot_at hW0 hvm.symm (hgood _ List.mem_cons_self) hk
  have hini' : (Cond.initialized cls).before args s' = true := vx_ot_at hW0 hvm.symm (hgood _ (List.mem_cons_of_mem _ List.mem_cons_self)) hini
  have hU' : vx_Zq Bundle.tN "UNASSIGNED_STACK" Bundle.steD A s' s'.heap := by rw [hhp]; exact vx_Zq.moved hW0.alike (hU.kept hS.2.1)
  have hN' : vx_Zq Bundle.tN "SUPPRESSED_SENTINEL" Bundle.listD A s' s'.heap := by rw [hhp]; exact vx_Zq.moved hW0.alike (hN.kept hS.2.1)
  have h : ∀ w ∈ Bundle.ownAtoms own ic cls names, w.before args s' = true := vx_own hat' (vx_isRefq hU'.1) (vx_isRefq hN'.1) hU'.2.word hN'.2.word
  have hown' : s'.vm.findClass own = some m.cls := by rw [hvm]; exact hown
  have hins : (Cond.instantiable cls 6).before args s' = true := h _ (by simp [Bundle.ownAtoms])
  obtain ⟨vm₁, cX, kX, hfX, hkX, -, -, X₁, st1⟩ := Y.newCold hexec (own := own) (C := cls) (index := ik) (n := 6) hown' hk' hins hini'
    (g := F0 m pc ls rest) rfl (by rw [hb]; exact d0) (Nat.le_refl _) (Nat.le_refl _)
  generalize hT1 : (T.setVm vm₁).pushCell { cls := cX, slots := kX.instanceTypes.map defaultValue, vm := .none } = T1 at X₁ st1
  have hcat : (Value.ref T.heap.size).category = 1 := rfl
  have hcellA : T1.heap[T.heap.size]? = some (freshCell cX kX) := by rw [← hT1]; exact State.heap_pushCell_size _ _
  have d3' : decode c.code (pc + 3) = .ok (.dup, 1) := by rw [hb]; exact d3
  have d4' : decode c.code (pc + 4) = .ok (.ldc is, 2) := by rw [hb]; exact d4
  have hstr' : vk_R own is text sa s' := vk_R.warm hW0 hstr
  obtain ⟨U, hsteps, hrun, hend, hW, hsame, ce, hce, hO⟩ := X₁.ctorThrowS hexec htr (own := own) (cls := cls) (names := names) (ic := ic) hown' hcls hnames h (fun x hx => nomatch hx) hfX hkX hcellA (by rw [hhp, hT]; exact Nat.le_refl _) (msg := .ref sa) rfl
    (g := { method := m, pc := pc + 6, locals := ls, stack := .ref sa :: .ref T.heap.size :: .ref T.heap.size :: rest, locked := none }) rfl hsize rfl rfl (rest := rest) rfl
    (by rw [hb]; exact d6) (by rw [hb]; exact d9) hout hRframes (by simp only [List.map_cons, List.sum_cons, hcat]; omega) hlocks
  obtain ⟨f1, f2⟩ := vx_frame hsame
  rw [hhp] at f1 f2
  have hWs : s.WarmedH U.vm := State.WarmedH.trans hW0 hW
  have hcl : s.vm.findClass cls = some ce.cls := by
    have h9 := hO.cls
    rw [hvm] at h9
    exact h9
  have hall : s.sameButNew ({ U with vm := s.vm } : State) locs mc ms := by
    subst hA
    obtain ⟨e1, e2⟩ := hsame
    rw [State.setFrames_setFrames] at e1
    have h2 : (T.setVm s.vm).sameButNew ({ U with vm := s.vm } : State) [] (0 + 1) (0 + 6) := ⟨e1, e2⟩
    have h3 := X.same.trans h2
    rw [List.append_nil] at h3
    exact h3.mono hc hs
  refine ⟨U, ?_, .threw T.heap.size, hrun, hend, Or.inr ⟨T.heap.size, rfl, cls, ce, locs, hx U hWs.alike f1 (fun q hq => f2 q hq (fun z hz => nomatch hz)), hce, hO.vm, hcl, hWs, hall, hf⟩⟩
  refine st1 _ ?_
  show Steps p.tables e below (T1.setTop { method := m, pc := pc + 3, locals := ls, stack := .ref T.heap.size :: rest, locked := none }) _
  jvm_step X₁.here [X₁.here.top, hexec, d3', Value.category]
  exact X₁.ldcString hexec (own := own) (text := text) (index := is) (a := sa) hown' hstr'.1 hstr'.2
    (g := { method := m, pc := pc + 4, locals := ls, stack := .ref T.heap.size :: .ref T.heap.size :: rest, locked := none }) rfl d4' _ hsteps
/-- 'throw new E("text")', the text by a wide index -/
theorem vx_throwSW {cc : ByteArray} {pc : Nat} (hexec : p.tables.exec = Jvm.exec) (hb : c.code = cc) (hl : l.stackTraces = false) {own cls text : String} {names : List String} {ik is ic mc ms sa : Nat} {A : Nat → Prop}
    (hown : s.vm.findClass own = some m.cls) (hcls : Bundle.fit cls = true) (hnames : ∀ n ∈ names, Bundle.fit n = true)
    (hk : (Cond.classLink own ik cls).before args s = true) (hini : (Cond.initialized cls).before args s = true) (hstr : vk_R own is text sa s) (hat : ∀ w ∈ vx_atS own ic cls names, w.before args s = true)
    (hgood : ∀ w ∈ Cond.classLink own ik cls :: Cond.initialized cls :: vx_atS own ic cls names, vx_ot w = true)
    (hU : vx_Zq Bundle.tN "UNASSIGNED_STACK" Bundle.steD A s s.heap) (hN : vx_Zq Bundle.tN "SUPPRESSED_SENTINEL" Bundle.listD A s s.heap) (hS : va_S A s.heap H locs) (hsize : ls.size = c.maxLocals)
    (d0 : decode cc pc = .ok (.new ik, 3)) (d3 : decode cc (pc + 3) = .ok (.dup, 1)) (d4 : decode cc (pc + 4) = .ok (.ldc_w is, 3)) (d7 : decode cc (pc + 7) = .ok (.invokespecial ic, 3)) (d10 : decode cc (pc + 10) = .ok (.athrow, 1))
    (hout : ∀ x ∈ c.exceptionTable.toList, covers x (pc + 10) = false)
    (hRframes : names.length + 3 < R.frames) (hRlocals : (rest.map fun v => v.category).sum + (13 * (names.length + 1) + 43) ≤ R.locals) (hRcells : cells + 1 ≤ R.cells) (hRslots : slots + 6 ≤ R.slots) (hlocks : meth.locks = false)
    (hx : ∀ t : State, s.vm.Alike t.vm → H.size ≤ t.heap.size → (∀ q : Nat, q < H.size → t.heap[q]? = H[q]?) → XC cls s t)
    (hf : ∀ z ∈ locs, free z.base) (hc : cells + 1 ≤ mc) (hs : slots + 6 ≤ ms) :
    W p l e R s m args below meth c H locs cells slots (vx_MQ below Qc XC args s mc ms free) (F0 m pc ls rest) := by
  intro T hT X
  have htr : e.platform.stackTraces = false := (show e.platform.stackTraces = l.stackTraces by rw [X.admits.platform]).trans hl
  have Y := vx_rebase X (R' := { frames := R.frames, locals := R.locals, cells := 1, slots := 6 }) (Nat.le_refl _) (Nat.le_refl _) hRcells hRslots
  obtain ⟨s', hA⟩ : ∃ z, z = (T.setVm s.vm).setFrames (.invoking m args :: below) := ⟨_, rfl⟩
  rw [← hA] at Y
  have hvm : s'.vm = s.vm := by rw [hA]; rfl
  have hhp : s'.heap = H := by rw [hA]; exact hT
  have hW0 : s.WarmedH s'.vm := by rw [hvm]; exact State.WarmedH.refl s
  have hat' : ∀ w ∈ vx_atS own ic cls names, w.before args s' = true := fun w hw => vx_ot_at hW0 hvm.symm (hgood w (List.mem_cons_of_mem _ (List.mem_cons_of_mem _ hw))) (hat w hw)
  have hk' : (Cond.classLink own ik cls).before args s' = true := vx_ot_at hW0 hvm.symm (hgood _ List.mem_cons_self) hk
  have hini' : (Cond.initialized cls).before args s' = true := vx_ot_at hW0 hvm.symm (hgood _ (List.mem_cons_of_mem _ List.mem_cons_self)) hini
  have hU' : vx_Zq Bundle.tN "UNASSIGNED_STACK" Bundle.steD A s' s'.heap := by rw [hhp]; exact vx_Zq.moved hW0.alike (hU.kept hS.2.1)
  have hN' : vx_Zq Bundle.tN "SUPPRESSED_SENTINEL" Bundle.listD A s' s'.heap := by rw [hhp]; exact vx_Zq.moved hW0.alike (hN.kept hS.2.1)
  have h : ∀ w ∈ Bundle.ownAtoms own ic cls names, w.before args s' = true := vx_own hat' (vx_isRefq hU'.1) (vx_isRefq hN'.1) hU'.2.word hN'.2.word
  have hown' : s'.vm.findClass own = some m.cls := by rw [hvm]; exact hown
  have hins : (Cond.instantiable cls 6).before args s' = true := h _ (by simp [Bundle.ownAtoms])
  obtain ⟨vm₁, cX, kX, hfX, hkX, -, -, X₁, st1⟩ := Y.newCold hexec (own := own) (C := cls) (index := ik) (n := 6) hown' hk' hins hini'
    (g := F0 m pc ls rest) rfl (by rw [hb]; exact d0) (Nat.le_refl _) (Nat.le_refl _)
  generalize hT1 : (T.setVm vm₁).pushCell { cls := cX, slots := kX.instanceTypes.map defaultValue, vm := .none } = T1 at X₁ st1
  have hcat : (Value.ref T.heap.size).category = 1 := rfl
  have hcellA : T1.heap[T.heap.size]? = some (freshCell cX kX) := by rw [← hT1]; exact State.heap_pushCell_size _ _
  have d3' : decode c.code (pc + 3) = .ok (.dup, 1) := by rw [hb]; exact d3
  have d4' : decode c.code (pc + 4) = .ok (.ldc_w is, 3) := by rw [hb]; exact d4
  have hstr' : vk_R own is text sa s' := vk_R.warm hW0 hstr
  obtain ⟨U, hsteps, hrun, hend, hW, hsame, ce, hce, hO⟩ := X₁.ctorThrowS hexec htr (own := own) (cls := cls) (names := names) (ic := ic) hown' hcls hnames h (fun x hx => nomatch hx) hfX hkX hcellA (by rw [hhp, hT]; exact Nat.le_refl _) (msg := .ref sa) rfl
    (g := { method := m, pc := pc + 7, locals := ls, stack := .ref sa :: .ref T.heap.size :: .ref T.heap.size :: rest, locked := none }) rfl hsize rfl rfl (rest := rest) rfl
    (by rw [hb]; exact d7) (by rw [hb]; exact d10) hout hRframes (by simp only [List.map_cons, List.sum_cons, hcat]; omega) hlocks
  obtain ⟨f1, f2⟩ := vx_frame hsame
  rw [hhp] at f1 f2
  have hWs : s.WarmedH U.vm := State.WarmedH.trans hW0 hW
  have hcl : s.vm.findClass cls = some ce.cls := by
    have h9 := hO.cls
    rw [hvm] at h9
    exact h9
  have hall : s.sameButNew ({ U with vm := s.vm } : State) locs mc ms := by
    subst hA
    obtain ⟨e1, e2⟩ := hsame
    rw [State.setFrames_setFrames] at e1
    have h2 : (T.setVm s.vm).sameButNew ({ U with vm := s.vm } : State) [] (0 + 1) (0 + 6) := ⟨e1, e2⟩
    have h3 := X.same.trans h2
    rw [List.append_nil] at h3
    exact h3.mono hc hs
  refine ⟨U, ?_, .threw T.heap.size, hrun, hend, Or.inr ⟨T.heap.size, rfl, cls, ce, locs, hx U hWs.alike f1 (fun q hq => f2 q hq (fun z hz => nomatch hz)), hce, hO.vm, hcl, hWs, hall, hf⟩⟩
  refine st1 _ ?_
  show Steps p.tables e below (T1.setTop { method := m, pc := pc + 3, locals := ls, stack := .ref T.heap.size :: rest, locked := none }) _
  jvm_step X₁.here [X₁.here.top, hexec, d3', Value.category]
  exact X₁.ldcStringW hexec (own := own) (text := text) (index := is) (a := sa) hown' hstr'.1 hstr'.2
    (g := { method := m, pc := pc + 4, locals := ls, stack := .ref T.heap.size :: .ref T.heap.size :: rest, locked := none }) rfl d4' _ hsteps
end Ends
section Bodies
variable {l : Launch}
theorem vx_ofW {y : MethodName} {ws ws' : List Cond} {rm : Room} {Pc : Array Value → State → Prop} {Qc : Array Value → State → Outcome → State → Prop} {XC : String → State → State → Prop} {mc ms : Nat} {free : Addr → Prop} {cc : ByteArray} {maxL : Nat} {ret : Option FieldType}
    (hy : plainName y.cls = true) (hw : ws = Cond.code y cc maxL ret :: ws')
    (body : ∀ p e s m args below meth c s₁, BodyLoose p l y (headSpec ws rm) cc maxL ret e s m args below meth c s₁ → c.maxLocals = maxL → (∀ x ∈ c.exceptionTable.toList, False) → Pc args s →
      W p l e (headSpec ws rm).room s m args below meth c s.heap [] 0 0 (vx_MQ below Qc XC args s mc ms free) (entryFrame m args maxL)) : vx_Met l y ws rm Pc Qc XC mc ms free := by
  refine MetFree.of_bodyS (code := cc) (maxLocals := maxL) (ret := ret) hy ?_ ?_
  · intro args s m h hn
    obtain ⟨meth, c, h1, h2, h3, h4, h5, h6, -, -⟩ := Cond.code_spec hn (atoms_spec (ws := ws) h _ (by rw [hw]; exact List.mem_cons_self))
    exact ⟨meth, c, h1, h2, h3, h4, h5, h6⟩
  · intro p e s m args below meth c s₁ B hml hP _
    have hh0 : s₁.heap = s.heap := by rw [B.state]; rfl
    have ht : ∀ x ∈ c.exceptionTable.toList, False := by
      obtain ⟨meth9, c9, h1, h2, -, -, -, -, h7, -⟩ := Cond.code_spec B.named (atoms_spec (ws := ws) B.pre _ (by rw [hw]; exact List.mem_cons_self))
      cases Option.some.inj (h1.symm.trans B.method)
      cases Option.some.inj (h2.symm.trans (Stand.of_body B).code)
      intro x hx
      rw [Array.isEmpty_iff.mp h7] at hx
      cases hx
    obtain ⟨t, a1, o, b1, b2, b3⟩ := body p e s m args below meth c s₁ B hml ht hP s₁ hh0 (Stand.of_body B)
    exact ⟨t, o, a1, b1, b2, b3⟩
/-- the table of a body with handlers -/
theorem vx_table {p : Program} {x y : MethodName} {S : Spec} {cc bytes : ByteArray} {maxL maxL' : Nat} {ret ret' : Option FieldType} {e : Env} {s s₁ : State} {m : MethodId} {args : Array Value} {below : List Frame} {meth : Method} {c : Code} {hh : List (Nat × Nat × Nat × Nat)}
    (B : BodyLoose p l y S cc maxL ret e s m args below meth c s₁) (h : (Cond.codeWith y bytes maxL' ret' hh).before args s = true) : c.exceptionTable.toList = tableOf hh := by
  obtain ⟨m9, meth9, c9, hn9, h1, h2, -, -, h6, -⟩ := Cond.codeWith_spec h
  cases Option.some.inj (hn9.symm.trans B.named)
  cases Option.some.inj (h1.symm.trans B.method)
  cases Option.some.inj (h2.symm.trans (Stand.of_body B).code)
  rw [← h6, table_eq]
end Bodies
end VXA
/-! ===== END ===== -/
/-! ===== BEGIN a static call of a method with an exception table ===== -/
section VXS
variable {p : Program} {l : Launch} {e : Env} {R : Room} {s : State} {m : MethodId} {args : Array Value} {below : List Frame} {meth : Method} {c : Code} {T : State} {H : Heap} {locs : List Loc} {cells slots : Nat}
abbrev vx_CSW (R : Room) (s : State) (args : Array Value) (own : String) (index : Nat) (y : MethodName) (bytes : ByteArray) (maxL : Nat) (ret : Option FieldType) (hh : List (Nat × Nat × Nat × Nat)) (ws : List Cond) (rm : Room) (mc ms n : Nat) : Prop :=
  (rm.cells = mc ∧ rm.slots = ms ∧ rm.frames + 1 ≤ R.frames ∧ 8 + (maxL + 11) + rm.locals ≤ R.locals ∧ (∀ w ∈ ws, ∀ (a' : Array Value) (U : State), s.WarmedH U.vm → w.before a' U = true) ∧ Cond.codeWith y bytes maxL ret hh ∈ ws) ∧
  (Cond.codeWith y bytes maxL ret hh).before args s = true ∧ (Cond.initialized y.cls).before args s = true ∧ (y.cls ≠ "java/lang/invoke/MethodHandle" ∧ y.cls ≠ "java/lang/invoke/VarHandle") ∧
  (∀ sig, parseMethodDescriptor y.desc = some sig → n = sig.parameters.length) ∧ (Cond.methodLink own index y).before args s = true ∧ (Cond.static y).before args s = true
theorem vx_cwSW {own : String} {index maxL mc ms : Nat} {y : MethodName} {bytes : ByteArray} {ret : Option FieldType} {hh : List (Nat × Nat × Nat × Nat)} {Ts ws ws' : List Cond} {rm : Room} (n : Nat) (ht : ∀ w ∈ Ts, w.before args s = true) (hT : GoodIn Ts (va_wsS own index y ws)) (hw : ws = Cond.codeWith y bytes maxL ret hh :: ws') (hrc : rm.cells = mc) (hrs : rm.slots = ms)
    (hd : y.cls ≠ "java/lang/invoke/MethodHandle" ∧ y.cls ≠ "java/lang/invoke/VarHandle" ∧ (parseMethodDescriptor y.desc).map (fun d => d.parameters.length) = some n) (hR : rm.frames + 1 ≤ R.frames ∧ 8 + (maxL + 11) + rm.locals ≤ R.locals) :
    vx_CSW R s args own index y bytes maxL ret hh ws rm mc ms n := by
  have ok : ∀ w ∈ va_wsS own index y ws, w.before args s = true := fun w h => ht w (hT w h).1
  have hG : GoodIn Ts ws := fun w h => hT w (by unfold va_wsS; exact List.mem_append_right _ h)
  have hc : Cond.codeWith y bytes maxL ret hh ∈ ws := by rw [hw]; exact List.mem_cons_self
  refine ⟨⟨hrc, hrs, hR.1, hR.2, pay_in ht hG, hc⟩, ht _ (hG _ hc).1, ok _ (by simp [va_wsS]), ⟨hd.1, hd.2.1⟩, fun sig h => ?_, ok _ (by simp [va_wsS]), ok _ (by simp [va_wsS])⟩
  have h2 := hd.2.2
  rw [h] at h2
  exact (Option.some.inj h2).symm
theorem vx_callSW (X : Stand p l e R s m args below meth c T locs cells slots) (hexec : p.tables.exec = Jvm.exec) {own : String} {index : Nat} {y : MethodName} {bytes : ByteArray} {maxL : Nat} {ret : Option FieldType} {hh : List (Nat × Nat × Nat × Nat)}
    (hown : s.vm.findClass own = some m.cls) (hlink : (Cond.methodLink own index y).before args s = true) (hstat : (Cond.static y).before args s = true) (hinit : (Cond.initialized y.cls).before args s = true)
    (hcode : (Cond.codeWith y bytes maxL ret hh).before args s = true) (hy : y.cls ≠ "java/lang/invoke/MethodHandle" ∧ y.cls ≠ "java/lang/invoke/VarHandle")
    {W9 : Nat} {Pre : Pt → Array Value → Prop} {Post : Pt → Array Value → Option Value → Pt → Prop} (hK : Back l R p e below s args y 3 W9 Pre Post)
    {g : JFrame} (hg : g.method = m) (hsize : g.locals.size = c.maxLocals) {argsL rest : List Value} (hlen : ∀ sig, parseMethodDescriptor y.desc = some sig → argsL.length = sig.parameters.length)
    (hstack : g.stack = argsL.reverse ++ rest) (hW : 2 * g.monitorRoom + (rest.map fun v => v.category).sum ≤ W9) (hdg : decode c.code g.pc = .ok (.invokestatic index, 3))
    (hpre : ∀ vm₁, s.WarmedH vm₁ → Pre ⟨T.setVm vm₁, locs, cells, slots⟩ argsL.toArray) :
    ∃ (v : Option Value) (vm₁ : Vm) (B : Pt), s.WarmedH vm₁ ∧ Stand p l e R s m args below meth c B.U B.locs B.cells B.slots ∧ Post ⟨T.setVm vm₁, locs, cells, slots⟩ argsL.toArray v B ∧
      ∀ target, Steps p.tables e below (B.U.setTop { g with pc := g.pc + 3, stack := v.toList ++ rest }) target → Steps p.tables e below (T.setTop g) target := by
  obtain ⟨mk, methM, cM, hnamed, hmethM, -, -, -, -, -, -, hsigM⟩ := Cond.codeWith_spec hcode
  have hstatic : methM.isStatic = true := Cond.static_spec hnamed hmethM hstat
  obtain ⟨kP, hkP, -⟩ := className_of_methodNamed hnamed
  have hinitP : kP.init = .initialized := Cond.initialized_spec (findClass_of_methodNamed hnamed) hkP hinit
  obtain ⟨vm₁, X₁, hstep₁⟩ := X.invokestatic hexec hown hlink hnamed hmethM hstatic hkP hinitP hy (g := g) hg (argsL := argsL) (rest := rest) (hlen _ hsigM) hstack hdg
  obtain ⟨v, B, X', hpost, hsteps⟩ := hK m meth c ⟨T.setVm vm₁, locs, cells, slots⟩ { g with stack := rest } (.invokestatic index) mk argsL.toArray X₁ hg hsize hdg hW (X₁.named hnamed) (hpre vm₁ X₁.warmed)
  exact ⟨v, vm₁, B, X₁.warmed, X', hpost, fun target h => hstep₁ _ fun acts => by rw [doInvoke_state]; exact hsteps.trans h⟩
theorem vx_runSW {y : MethodName} {bytes cc : ByteArray} {maxL nL mc ms n index : Nat} {ret : Option FieldType} {hh : List (Nat × Nat × Nat × Nat)} {ws : List Cond} {rm : Room} {Pc : Array Value → State → Prop} {Qc : Array Value → State → Outcome → State → Prop} {free : Addr → Prop} {Ts : List Cond} {own : String} {As rest : List Value} {g : JFrame}
    (S : CallFix p m c cc nL s args Ts own) (hM : Met l y ws rm Pc Qc mc ms free) (cw : vx_CSW R s args own index y bytes maxL ret hh ws rm mc ms n) (hp : PreS s H Pc As)
    (hg : g.method = m) (hn : As.length = n) (hsize : g.locals.size = nL) (hstack : g.stack = As.reverse ++ rest) (hW : 2 * g.monitorRoom + (rest.map fun v => v.category).sum ≤ 8) (hdg : decode cc g.pc = .ok (.invokestatic index, 3)) (hf : cells + mc ≤ R.cells ∧ slots + ms ≤ R.slots) :
    va_Run p l e R s m args below meth c H locs cells slots mc ms g rest (Qc As.toArray) (free) := by
  obtain ⟨⟨hrc, hrs, hfr, hlo, hws, hcw⟩, hcode, hini, hy, hlen, hl, hstt⟩ := cw
  have hK : Back l R p e below s args y 3 8 (PreOf R mc ms Pc) (PostOf Qc mc ms free) := va_backW (hh := hh) (bytes := bytes) (maxL := maxL) (ret := ret) hM hp.1 hrc hrs hfr hlo hws hcw (fun a' U hW => word_at hW (Or.inl (by first | rfl | simp [Cond.onTables, Cond.keeps, Cond.steady])) hini)
  obtain ⟨hx, hb, hml, ho, -⟩ := S
  intro T hT X
  obtain ⟨v, vm₁, ⟨U', l2, c2, s2⟩, hW₁, X', ⟨g', mk, t, L, e1, e2, hq, h1, hL, h2, h3⟩, st⟩ := vx_callSW X hx (hh := hh) (bytes := bytes) (maxL := maxL) (ret := ret) ho hl hstt hini hcode hy hK hg (hsize.trans hml.symm) (argsL := As) (rest := rest) (fun sig h => hn.trans (hlen sig h)) hstack hW (by rw [hb]; exact hdg)
    (fun vm₁ hW₁ => ⟨hf.1, hf.2, hp.2 (T.setVm vm₁) hT hW₁⟩)
  dsimp only [Pt.U, Pt.locs, Pt.cells, Pt.slots] at X' e1 e2 h1 h2 h3 st
  subst h1; subst h2; subst h3
  exact ⟨v, (T.setVm vm₁).calling g' mk As.toArray, t, U', L, hT, X', hL, e1, e2, hq, st⟩
/-- not caught here, past rows that name other classes: it goes on to the caller -/
theorem vx_outP {p : Program} {l : Launch} {e : Env} {R : Room} {s : State} {m : MethodId} {args : Array Value} {below : List Frame} {meth : Method} {c : Code} {H : Heap} {locs : List Loc} {cells slots : Nat} {free : Addr → Prop} {ls : Array Slot} {rest : List Value} {Qc : Array Value → State → Outcome → State → Prop} {XC : String → State → State → Prop}
    {pc : Nat} {own E : String} {ce : Cell} {q : Addr} {mc ms : Nat} (hown : s.vm.findClass own = some m.cls) (hlocks : meth.locks = false)
    (hpass : ∀ z ∈ c.exceptionTable.toList, covers z pc = false ∨ (z.catchType ≠ 0 ∧ ∃ nm : String, (Cond.classLink own z.catchType nm).before args s = true ∧ va_Nc E nm s)) (hcell : H[q]? = some ce) (hv : ce.vm = .none) (hcl : s.vm.findClass E = some ce.cls)
    (hx : ∀ t : State, t.heap = H → s.vm.Alike t.vm → XC E s t) (hf : ∀ z ∈ locs, free z.base) (hc : cells ≤ mc) (hs : slots ≤ ms) :
    vx_W p l e R s m args below meth c H locs cells slots (vx_MQ below Qc XC args s mc ms free) (F0 m pc ls rest) q := by
  intro T hT X
  have hpl : e.platform.magicAccessors = ({} : Platform).magicAccessors := by rw [X.admits.platform]
  obtain ⟨vm', hW', X', st⟩ := X.outThrough hlocks q (g := F0 m pc ls rest) rfl rfl rfl (cell := ce) (by rw [hT]; exact hcell) (by rw [hv]; rfl)
    (by obtain ⟨k9, h9, -⟩ := Vm.findClass_spec hcl; exact ⟨k9, h9⟩) (fun z hz => by
      rcases hpass z hz with h | ⟨hz0, nm, hl1, hn1⟩
      · exact Or.inl h
      · obtain ⟨c6, hc6, hcl6⟩ := Cond.classLink_spec hown hl1 e.platform hpl
        obtain ⟨a8, b8, h1, h2, h3⟩ := hn1
        cases Option.some.inj (h1.symm.trans hcl)
        cases Option.some.inj (h2.symm.trans hc6)
        exact Or.inr ⟨hz0, _, hcl6, h3⟩)
  obtain ⟨g₀, hfr⟩ := X'.frames_eq
  have hcell9 : ((T.setVm vm').setFrames (.throwing q :: below)).heap[q]? = some ce := by
    show T.heap[q]? = some ce
    rw [hT]; exact hcell
  have hend : Ended ((T.setVm vm').setFrames (.throwing q :: below)) below (.threw q) := State.frames_setFrames _ (State.cur_lt_of_frames hfr)
  refine ⟨(T.setVm vm').setFrames (.throwing q :: below), ?_, .threw q, X'.here.running, hend, Or.inr ⟨q, rfl, E, ce, locs, hx _ hT (X'.ends _).1.alike, hcell9, hv, hcl, (X'.ends _).1, (X'.ends _).2.mono hc hs, hf⟩⟩
  rw [X.pushThrowing_eq]
  exact st
/-- a thing of a world lies in the heap -/
theorem vx_lt {D : va_G} {cl : List vw_C} {ws : va_W} {H1 : Heap} (h : va_P D cl ws H1) {k : Nat} {q : Nat × va_E} (hk : ws[k]? = some q) : q.1 < H1.size := (h k q hk).lt
end VXS
/-! ===== END ===== -/
/-! ===== BEGIN methods with a table of their own: called by a name, returning or throwing ===== -/
section VXH
/-! vx_backW, vx_callVX, vx_callSX, vx_callVW, vx_runVW, vx_runVX, vx_runSX, vx_ofWH follow the same proofs as their sisters above (Free/Laws.lean, Shelf42/LK1.lean); vx_outP calls Shelf42/NT130.lean (outThrough). -/
section
variable {l : Launch} {R : Room} {p : Program} {e : Env} {below : List Frame} {s : State} {sargs : Array Value} {y : MethodName} {len W9 : Nat}
theorem vx_backW {ws : List Cond} {rm : Room} {Pc : Array Value → State → Prop} {Qc : Array Value → State → Outcome → State → Prop} {XC : String → State → State → Prop} {mc ms : Nat} {free : Addr → Prop} {bytes : ByteArray} {maxL : Nat} {ret : Option FieldType} {hh : List (Nat × Nat × Nat × Nat)}
    (hM : vx_Met l y ws rm Pc Qc XC mc ms free) (hblind : FrameBlind Pc) (hrc : rm.cells = mc) (hrs : rm.slots = ms)
    (hframes : rm.frames + 1 ≤ R.frames) (hlocals : W9 + (maxL + 11) + rm.locals ≤ R.locals)
    (hws : ∀ w ∈ ws, ∀ a' U, s.WarmedH U.vm → w.before a' U = true) (hcode : Cond.codeWith y bytes maxL ret hh ∈ ws) (hinit : ∀ a' U, s.WarmedH U.vm → (Cond.initialized y.cls).before a' U = true) :
    vx_Back l R p e below s sargs y len W9 (PreOf R mc ms Pc) (PostOf Qc mc ms free) (vx_Post XC mc ms free) := by
  intro m meth c A g ig mk a X hg hsize hdg hW hn hp
  have h1 : (headSpec ws rm).pre.before a A.U = true := atoms_intro fun w hw => hws w hw _ _ X.warmed
  have h2 : (Cond.codeWith y bytes maxL ret hh).before a A.U = true := hws _ hcode _ _ X.warmed
  have h3 : (Cond.initialized y.cls).before a A.U = true := hinit _ _ X.warmed
  have h4 : A.cells + (headSpec ws rm).room.cells ≤ R.cells := by rw [show (headSpec ws rm).room.cells = mc from hrc]; exact hp.1
  have h5 : A.slots + (headSpec ws rm).room.slots ≤ R.slots := by rw [show (headSpec ws rm).room.slots = ms from hrs]; exact hp.2.1
  have hPc : Pc a (A.U.calling g mk a) := hblind _ _ _ _ hp.2.2
  obtain ⟨U, Ls, c0, s0⟩ := A
  dsimp only [Pt.U, Pt.locs, Pt.cells, Pt.slots] at h1 h2 h3 h4 h5 X hn hPc ⊢
  obtain ⟨m9, methY, cY, hn9, hmY, hcY, -, hlY, -⟩ := Cond.codeWith_spec h2
  cases Option.some.inj (hn9.symm.trans hn)
  obtain ⟨kY, hkY, -⟩ := className_of_methodNamed hn
  have hinitY : kY.init = .initialized := Cond.initialized_spec (findClass_of_methodNamed hn) hkY h3
  have h : At U g.method c below := by rw [hg]; exact X.here
  have hlocals9 : W9 + (maxL + 11) + (headSpec ws rm).room.locals ≤ R.locals := hlocals
  have happ : (headSpec ws rm).appliesLoose y e.platform (U.calling g mk a) = true :=
    Spec.appliesLoose_calling (g := g) h hdg hn hkY hinitY
      (X.room_calling (g := g) (R' := (headSpec ws rm).room) hsize hmY hcY hframes (by rw [hlY]; omega) h4 h5) h1
  obtain ⟨mid, hmid⟩ := h.above
  have hfr : (U.setTop g).frames = (.java g :: mid) ++ below := by rw [State.frames_setTop' g h.top, hmid]; rfl
  obtain ⟨o, s₂, hsteps, -, hend, hq⟩ := Steps.callFree hM p X.admits X.cas X.clock (acts := []) hfr happ hPc trivial
  have hq' : vx_Q Qc XC mc ms free a (U.calling g mk a) o s₂ := hq
  rw [State.frames_setTop' g h.top] at hend
  obtain ⟨g₀, hg0⟩ := Option.isSome_iff_exists.mp h.top
  obtain ⟨r, hr⟩ := State.topJava?_eq_some.mp hg0
  have hr' : (({ U with heap := s₂.heap, slotsUsed := s₂.slotsUsed } : State).setVm s₂.vm).frames = .java g₀ :: r := hr
  rcases hq' with ⟨hqc, L, hfe, hL⟩ | ⟨q, rfl, E, ce, L, hx, hce, hcv, hcl, hW₂, hsm, hL⟩
  · obtain ⟨⟨v, rfl⟩, hW₂, e2, q2, q3, q4, q5, q6⟩ := id hfe
    have e3 : s₂ = ({ (U.calling g mk a).setFrames s₂.frames with heap := s₂.heap, slotsUsed := s₂.slotsUsed } : State).setVm s₂.vm := by
      have : s₂ = ({ s₂ with vm := (U.calling g mk a).vm } : State).setVm s₂.vm := rfl
      rw [e2] at this
      exact this
    obtain ⟨c₂, i₂, len₂, hc₂, hd₂, hf₂⟩ := hend
    have hW' : U.WarmedH s₂.vm := hW₂
    have hcc : c₂ = c := by
      have h1 : s₂.code? g.method = U.code? g.method := by
        rw [State.code?_eq, State.code?_eq, hW'.alike.method?]
      exact Option.some.inj (hc₂.symm.trans (h1.trans h.code))
    subst hcc
    have hlen : len₂ = len := by rw [hdg] at hd₂; cases hd₂; rfl
    subst hlen
    have hs₂ : s₂ = (({ U with heap := s₂.heap, slotsUsed := s₂.slotsUsed } : State).setVm s₂.vm).setTop { g with pc := g.pc + len₂, stack := v.toList ++ g.stack } := by
      refine e3.trans ?_
      rw [hf₂, State.calling_eq h.top, State.setFrames_setFrames, State.setTop_of_frames _ hr', hr]
      rfl
    have hsame : U.sameButNew ({ U with heap := s₂.heap, slotsUsed := s₂.slotsUsed } : State) L mc ms := by
      refine ⟨?_, q2, q3, q4, q5, q6⟩
      obtain ⟨t, ht, -⟩ := State.frames_cons hr
      show ({ U with heap := s₂.heap, slotsUsed := s₂.slotsUsed } : State) = { U.setFrames U.frames with heap := s₂.heap, slotsUsed := s₂.slotsUsed }
      rw [State.setFrames_self ht]
    subst hg
    refine Or.inl ⟨v, ⟨(({ U with heap := s₂.heap, slotsUsed := s₂.slotsUsed } : State).setVm s₂.vm), Ls ++ L, c0 + mc, s0 + ms⟩,
      ⟨X.admits, X.cas, X.clock, X.frames, X.room, X.hears, X.method, X.code, (X.here.setHeapUsed s₂.heap s₂.slotsUsed).setVm hW'.alike, X.tail, State.WarmedH.trans X.warmed hW', X.limits, X.bytes, X.same.trans (hsame.setVm s.vm)⟩,
      ⟨g, mk, s₂, L, rfl, rfl, hqc, rfl, hL, rfl, rfl⟩, ?_⟩
    show Steps p.tables e below _ ((({ U with heap := s₂.heap, slotsUsed := s₂.slotsUsed } : State).setVm s₂.vm).setTop { g with pc := g.pc + len₂, stack := v.toList ++ g.stack })
    rw [← hs₂]
    exact hsteps
  · obtain ⟨e2, q2, q3, q4, q5, q6⟩ := id hsm
    have e3 : s₂ = ({ (U.calling g mk a).setFrames s₂.frames with heap := s₂.heap, slotsUsed := s₂.slotsUsed } : State).setVm s₂.vm := by
      have : s₂ = ({ s₂ with vm := (U.calling g mk a).vm } : State).setVm s₂.vm := rfl
      rw [e2] at this
      exact this
    have hf₂ : s₂.frames = .throwing q :: .java g :: U.frames.tail := hend
    have hW' : U.WarmedH s₂.vm := hW₂
    have hs₂ : s₂ = ((({ U with heap := s₂.heap, slotsUsed := s₂.slotsUsed } : State).setVm s₂.vm).setTop g).pushFrame (.throwing q) := by
      refine e3.trans ?_
      rw [hf₂, State.calling_eq h.top, State.setFrames_setFrames, State.pushFrame, State.frames_setTop _ hr', State.setTop_of_frames _ hr', State.setFrames_setFrames, hr]
      rfl
    have hsame : U.sameButNew ({ U with heap := s₂.heap, slotsUsed := s₂.slotsUsed } : State) L mc ms := by
      refine ⟨?_, q2, q3, q4, q5, q6⟩
      obtain ⟨t, ht, -⟩ := State.frames_cons hr
      show ({ U with heap := s₂.heap, slotsUsed := s₂.slotsUsed } : State) = { U.setFrames U.frames with heap := s₂.heap, slotsUsed := s₂.slotsUsed }
      rw [State.setFrames_self ht]
    subst hg
    refine Or.inr ⟨q, ⟨(({ U with heap := s₂.heap, slotsUsed := s₂.slotsUsed } : State).setVm s₂.vm), Ls ++ L, c0 + mc, s0 + ms⟩,
      ⟨X.admits, X.cas, X.clock, X.frames, X.room, X.hears, X.method, X.code, (X.here.setHeapUsed s₂.heap s₂.slotsUsed).setVm hW'.alike, X.tail, State.WarmedH.trans X.warmed hW', X.limits, X.bytes, X.same.trans (hsame.setVm s.vm)⟩,
      ⟨g, mk, s₂, L, E, ce, rfl, rfl, hx, hce, hcv, hcl, rfl, hL, rfl, rfl⟩, ?_⟩
    show Steps p.tables e below _ (((({ U with heap := s₂.heap, slotsUsed := s₂.slotsUsed } : State).setVm s₂.vm).setTop g).pushFrame (.throwing q))
    rw [← hs₂]
    exact hsteps
end
variable {p : Program} {l : Launch} {e : Env} {R : Room} {s : State} {m : MethodId} {args : Array Value} {below : List Frame} {meth : Method} {c : Code} {T : State} {H : Heap} {locs : List Loc} {cells slots : Nat}
theorem vx_callVX (X : Stand p l e R s m args below meth c T locs cells slots) (hexec : p.tables.exec = Jvm.exec) {own C : String} {index : Nat} {y : MethodName} {bytes : ByteArray} {maxL : Nat} {ret : Option FieldType} {hh : List (Nat × Nat × Nat × Nat)}
    (hown : s.vm.findClass own = some m.cls) (hlink : (Cond.methodLink own index y).before args s = true) (hinst : (Cond.instanceMethod y).before args s = true) (hsel : (Cond.selects C y y).before args s = true)
    (hcode : (Cond.codeWith y bytes maxL ret hh).before args s = true) (hy : y.cls ≠ "java/lang/invoke/MethodHandle" ∧ y.cls ≠ "java/lang/invoke/VarHandle")
    {W9 : Nat} {Pre : Pt → Array Value → Prop} {Post : Pt → Array Value → Option Value → Pt → Prop} {PostX : Pt → Array Value → Addr → Pt → Prop} (hK : vx_Back l R p e below s args y 3 W9 Pre Post PostX)
    {b : Addr} {cellB : Cell} (hcell : T.heap[b]? = some cellB) (hobj : cellB.vm.isStatics = false) (hcls : s.vm.findClass C = some cellB.cls)
    {g : JFrame} (hg : g.method = m) (hsize : g.locals.size = c.maxLocals) {argsL rest : List Value} (hlen : ∀ sig, parseMethodDescriptor y.desc = some sig → argsL.length = sig.parameters.length)
    (hstack : g.stack = argsL.reverse ++ .ref b :: rest) (hW : 2 * g.monitorRoom + (rest.map fun v => v.category).sum ≤ W9) (hdg : decode c.code g.pc = .ok (.invokevirtual index, 3))
    (hpre : ∀ vm₁, s.WarmedH vm₁ → Pre ⟨T.setVm vm₁, locs, cells, slots⟩ (Value.ref b :: argsL).toArray) :
    (∃ (v : Option Value) (vm₁ : Vm) (B : Pt), s.WarmedH vm₁ ∧ Stand p l e R s m args below meth c B.U B.locs B.cells B.slots ∧ Post ⟨T.setVm vm₁, locs, cells, slots⟩ (Value.ref b :: argsL).toArray v B ∧
      ∀ target, Steps p.tables e below (B.U.setTop { g with pc := g.pc + 3, stack := v.toList ++ rest }) target → Steps p.tables e below (T.setTop g) target) ∨
    (∃ (q : Addr) (vm₁ : Vm) (B : Pt), s.WarmedH vm₁ ∧ Stand p l e R s m args below meth c B.U B.locs B.cells B.slots ∧ PostX ⟨T.setVm vm₁, locs, cells, slots⟩ (Value.ref b :: argsL).toArray q B ∧
      Steps p.tables e below (T.setTop g) ((B.U.setTop { g with stack := rest }).pushFrame (.throwing q))) := by
  obtain ⟨mk, methM, hnamed, hmethM, hstM, habM⟩ := Cond.instanceMethod_spec hinst
  obtain ⟨m8, methM', cM, hn8, hmethM', -, -, -, -, -, -, hsigM⟩ := Cond.codeWith_spec hcode
  cases Option.some.inj (hn8.symm.trans hnamed)
  cases hmethM.symm.trans hmethM'
  obtain ⟨c2, r2, m2, q1, q2, q3, q4, kP, hkP, hkPi⟩ := Cond.selects_spec hsel
  cases hcls.symm.trans q1
  cases (State.methodFound?_of_named hnamed hy).symm.trans q2
  cases hnamed.symm.trans q3
  have hselP : selectMethod e.platform s.vm cellB.cls mk = .method mk := by rw [Launch.admits_selectMethod X.admits]; exact q4
  obtain ⟨vm₁, X₁, hstep₁⟩ := X.invokevirtual hexec hown hlink hnamed hmethM hstM hkP hkPi hy (a := b) (cell := cellB) hcell
    (fun z h => by rw [h] at hobj; cases hobj) hselP hmethM habM hkP hkPi (g := g) hg (argsL := argsL) (rest := rest) (hlen _ hsigM) hstack hdg
  rcases hK m meth c ⟨T.setVm vm₁, locs, cells, slots⟩ { g with stack := rest } (.invokevirtual index) mk (Value.ref b :: argsL).toArray X₁ hg hsize hdg hW (X₁.named hnamed) (hpre vm₁ X₁.warmed) with ⟨v, B, X', hpost, hsteps⟩ | ⟨q, B, X', hpost, hsteps⟩
  · exact Or.inl ⟨v, vm₁, B, X₁.warmed, X', hpost, fun target h => hstep₁ _ fun acts => by rw [doInvoke_state]; exact hsteps.trans h⟩
  · exact Or.inr ⟨q, vm₁, B, X₁.warmed, X', hpost, hstep₁ _ fun acts => by rw [doInvoke_state]; exact hsteps⟩
theorem vx_callSX (X : Stand p l e R s m args below meth c T locs cells slots) (hexec : p.tables.exec = Jvm.exec) {own : String} {index : Nat} {y : MethodName} {bytes : ByteArray} {maxL : Nat} {ret : Option FieldType} {hh : List (Nat × Nat × Nat × Nat)}
    (hown : s.vm.findClass own = some m.cls) (hlink : (Cond.methodLink own index y).before args s = true) (hstat : (Cond.static y).before args s = true) (hinit : (Cond.initialized y.cls).before args s = true)
    (hcode : (Cond.codeWith y bytes maxL ret hh).before args s = true) (hy : y.cls ≠ "java/lang/invoke/MethodHandle" ∧ y.cls ≠ "java/lang/invoke/VarHandle")
    {W9 : Nat} {Pre : Pt → Array Value → Prop} {Post : Pt → Array Value → Option Value → Pt → Prop} {PostX : Pt → Array Value → Addr → Pt → Prop} (hK : vx_Back l R p e below s args y 3 W9 Pre Post PostX)
    {g : JFrame} (hg : g.method = m) (hsize : g.locals.size = c.maxLocals) {argsL rest : List Value} (hlen : ∀ sig, parseMethodDescriptor y.desc = some sig → argsL.length = sig.parameters.length)
    (hstack : g.stack = argsL.reverse ++ rest) (hW : 2 * g.monitorRoom + (rest.map fun v => v.category).sum ≤ W9) (hdg : decode c.code g.pc = .ok (.invokestatic index, 3))
    (hpre : ∀ vm₁, s.WarmedH vm₁ → Pre ⟨T.setVm vm₁, locs, cells, slots⟩ argsL.toArray) :
    (∃ (v : Option Value) (vm₁ : Vm) (B : Pt), s.WarmedH vm₁ ∧ Stand p l e R s m args below meth c B.U B.locs B.cells B.slots ∧ Post ⟨T.setVm vm₁, locs, cells, slots⟩ argsL.toArray v B ∧
      ∀ target, Steps p.tables e below (B.U.setTop { g with pc := g.pc + 3, stack := v.toList ++ rest }) target → Steps p.tables e below (T.setTop g) target) ∨
    (∃ (q : Addr) (vm₁ : Vm) (B : Pt), s.WarmedH vm₁ ∧ Stand p l e R s m args below meth c B.U B.locs B.cells B.slots ∧ PostX ⟨T.setVm vm₁, locs, cells, slots⟩ argsL.toArray q B ∧
      Steps p.tables e below (T.setTop g) ((B.U.setTop { g with stack := rest }).pushFrame (.throwing q))) := by
  obtain ⟨mk, methM, cM, hnamed, hmethM, -, -, -, -, -, -, hsigM⟩ := Cond.codeWith_spec hcode
  have hstatic : methM.isStatic = true := Cond.static_spec hnamed hmethM hstat
  obtain ⟨kP, hkP, -⟩ := className_of_methodNamed hnamed
  have hinitP : kP.init = .initialized := Cond.initialized_spec (findClass_of_methodNamed hnamed) hkP hinit
  obtain ⟨vm₁, X₁, hstep₁⟩ := X.invokestatic hexec hown hlink hnamed hmethM hstatic hkP hinitP hy (g := g) hg (argsL := argsL) (rest := rest) (hlen _ hsigM) hstack hdg
  rcases hK m meth c ⟨T.setVm vm₁, locs, cells, slots⟩ { g with stack := rest } (.invokestatic index) mk argsL.toArray X₁ hg hsize hdg hW (X₁.named hnamed) (hpre vm₁ X₁.warmed) with ⟨v, B, X', hpost, hsteps⟩ | ⟨q, B, X', hpost, hsteps⟩
  · exact Or.inl ⟨v, vm₁, B, X₁.warmed, X', hpost, fun target h => hstep₁ _ fun acts => by rw [doInvoke_state]; exact hsteps.trans h⟩
  · exact Or.inr ⟨q, vm₁, B, X₁.warmed, X', hpost, hstep₁ _ fun acts => by rw [doInvoke_state]; exact hsteps⟩
theorem vx_callVW (X : Stand p l e R s m args below meth c T locs cells slots) (hexec : p.tables.exec = Jvm.exec) {own C : String} {index : Nat} {y : MethodName} {bytes : ByteArray} {maxL : Nat} {ret : Option FieldType} {hh : List (Nat × Nat × Nat × Nat)}
    (hown : s.vm.findClass own = some m.cls) (hlink : (Cond.methodLink own index y).before args s = true) (hinst : (Cond.instanceMethod y).before args s = true) (hsel : (Cond.selects C y y).before args s = true)
    (hcode : (Cond.codeWith y bytes maxL ret hh).before args s = true) (hy : y.cls ≠ "java/lang/invoke/MethodHandle" ∧ y.cls ≠ "java/lang/invoke/VarHandle")
    {W9 : Nat} {Pre : Pt → Array Value → Prop} {Post : Pt → Array Value → Option Value → Pt → Prop} (hK : Back l R p e below s args y 3 W9 Pre Post)
    {b : Addr} {cellB : Cell} (hcell : T.heap[b]? = some cellB) (hobj : cellB.vm.isStatics = false) (hcls : s.vm.findClass C = some cellB.cls)
    {g : JFrame} (hg : g.method = m) (hsize : g.locals.size = c.maxLocals) {argsL rest : List Value} (hlen : ∀ sig, parseMethodDescriptor y.desc = some sig → argsL.length = sig.parameters.length)
    (hstack : g.stack = argsL.reverse ++ .ref b :: rest) (hW : 2 * g.monitorRoom + (rest.map fun v => v.category).sum ≤ W9) (hdg : decode c.code g.pc = .ok (.invokevirtual index, 3))
    (hpre : ∀ vm₁, s.WarmedH vm₁ → Pre ⟨T.setVm vm₁, locs, cells, slots⟩ (Value.ref b :: argsL).toArray) :
    ∃ (v : Option Value) (vm₁ : Vm) (B : Pt), s.WarmedH vm₁ ∧ Stand p l e R s m args below meth c B.U B.locs B.cells B.slots ∧ Post ⟨T.setVm vm₁, locs, cells, slots⟩ (Value.ref b :: argsL).toArray v B ∧
      ∀ target, Steps p.tables e below (B.U.setTop { g with pc := g.pc + 3, stack := v.toList ++ rest }) target → Steps p.tables e below (T.setTop g) target := by
  obtain ⟨mk, methM, hnamed, hmethM, hstM, habM⟩ := Cond.instanceMethod_spec hinst
  obtain ⟨m8, methM', cM, hn8, hmethM', -, -, -, -, -, -, hsigM⟩ := Cond.codeWith_spec hcode
  cases Option.some.inj (hn8.symm.trans hnamed)
  cases hmethM.symm.trans hmethM'
  obtain ⟨c2, r2, m2, q1, q2, q3, q4, kP, hkP, hkPi⟩ := Cond.selects_spec hsel
  cases hcls.symm.trans q1
  cases (State.methodFound?_of_named hnamed hy).symm.trans q2
  cases hnamed.symm.trans q3
  have hselP : selectMethod e.platform s.vm cellB.cls mk = .method mk := by rw [Launch.admits_selectMethod X.admits]; exact q4
  obtain ⟨vm₁, X₁, hstep₁⟩ := X.invokevirtual hexec hown hlink hnamed hmethM hstM hkP hkPi hy (a := b) (cell := cellB) hcell
    (fun z h => by rw [h] at hobj; cases hobj) hselP hmethM habM hkP hkPi (g := g) hg (argsL := argsL) (rest := rest) (hlen _ hsigM) hstack hdg
  obtain ⟨v, B, X', hpost, hsteps⟩ := hK m meth c ⟨T.setVm vm₁, locs, cells, slots⟩ { g with stack := rest } (.invokevirtual index) mk (Value.ref b :: argsL).toArray X₁ hg hsize hdg hW (X₁.named hnamed) (hpre vm₁ X₁.warmed)
  exact ⟨v, vm₁, B, X₁.warmed, X', hpost, fun target h => hstep₁ _ fun acts => by rw [doInvoke_state]; exact hsteps.trans h⟩
abbrev vx_CVW (R : Room) (s : State) (args : Array Value) (own C : String) (index : Nat) (y : MethodName) (bytes : ByteArray) (maxL : Nat) (ret : Option FieldType) (hh : List (Nat × Nat × Nat × Nat)) (ws : List Cond) (rm : Room) (mc ms n : Nat) : Prop :=
  (rm.cells = mc ∧ rm.slots = ms ∧ rm.frames + 1 ≤ R.frames ∧ 8 + (maxL + 11) + rm.locals ≤ R.locals ∧ (∀ w ∈ ws, ∀ (a' : Array Value) (U : State), s.WarmedH U.vm → w.before a' U = true) ∧ Cond.codeWith y bytes maxL ret hh ∈ ws) ∧
  (Cond.codeWith y bytes maxL ret hh).before args s = true ∧ (Cond.initialized y.cls).before args s = true ∧ (y.cls ≠ "java/lang/invoke/MethodHandle" ∧ y.cls ≠ "java/lang/invoke/VarHandle") ∧
  (∀ sig, parseMethodDescriptor y.desc = some sig → n = sig.parameters.length) ∧ (Cond.methodLink own index y).before args s = true ∧ (Cond.instanceMethod y).before args s = true ∧ (Cond.selects C y y).before args s = true
theorem vx_cwVW {own C : String} {index maxL mc ms : Nat} {y : MethodName} {bytes : ByteArray} {ret : Option FieldType} {hh : List (Nat × Nat × Nat × Nat)} {Ts ws ws' : List Cond} {rm : Room} (n : Nat) (ht : ∀ w ∈ Ts, w.before args s = true) (hT : GoodIn Ts (wsV own index C y ws)) (hw : ws = Cond.codeWith y bytes maxL ret hh :: ws') (hrc : rm.cells = mc) (hrs : rm.slots = ms)
    (hd : y.cls = C ∧ y.cls ≠ "java/lang/invoke/MethodHandle" ∧ y.cls ≠ "java/lang/invoke/VarHandle" ∧ (parseMethodDescriptor y.desc).map (fun d => d.parameters.length) = some n) (hR : rm.frames + 1 ≤ R.frames ∧ 8 + (maxL + 11) + rm.locals ≤ R.locals) :
    vx_CVW R s args own C index y bytes maxL ret hh ws rm mc ms n := by
  obtain ⟨hC, hd⟩ := hd
  subst hC
  have ok : ∀ w ∈ wsV own index y.cls y ws, w.before args s = true := fun w h => ht w (hT w h).1
  have hG : GoodIn Ts ws := fun w h => hT w (by unfold wsV; exact List.mem_append_right _ h)
  have hc : Cond.codeWith y bytes maxL ret hh ∈ ws := by rw [hw]; exact List.mem_cons_self
  refine ⟨⟨hrc, hrs, hR.1, hR.2, pay_in ht hG, hc⟩, ht _ (hG _ hc).1, ok _ (by simp [wsV]), ⟨hd.1, hd.2.1⟩, fun sig h => ?_, ok _ (by simp [wsV]), ok _ (by simp [wsV]), ok _ (by simp [wsV])⟩
  have h2 := hd.2.2
  rw [h] at h2
  exact (Option.some.inj h2).symm
theorem vx_runVW {y : MethodName} {bytes cc : ByteArray} {maxL nL mc ms n index : Nat} {ret : Option FieldType} {hh : List (Nat × Nat × Nat × Nat)} {ws : List Cond} {rm : Room} {Pc : Array Value → State → Prop} {Qc : Array Value → State → Outcome → State → Prop} {free : Addr → Prop} {Ts : List Cond} {own C : String} {b : Addr} {As rest : List Value} {g : JFrame}
    (S : CallFix p m c cc nL s args Ts own) (hM : Met l y ws rm Pc Qc mc ms free) (cw : vx_CVW R s args own C index y bytes maxL ret hh ws rm mc ms n) (hp : PreV s H C b Pc As)
    (hg : g.method = m) (hn : As.length = n) (hsize : g.locals.size = nL) (hstack : g.stack = As.reverse ++ .ref b :: rest) (hW : 2 * g.monitorRoom + (rest.map fun v => v.category).sum ≤ 8) (hdg : decode cc g.pc = .ok (.invokevirtual index, 3)) (hf : cells + mc ≤ R.cells ∧ slots + ms ≤ R.slots) :
    va_Run p l e R s m args below meth c H locs cells slots mc ms g rest (Qc (Value.ref b :: As).toArray) free := by
  obtain ⟨⟨hrc, hrs, hfr, hlo, hws, hcw⟩, hcode, hini, hy, hlen, hl, hin, hse⟩ := cw
  have hK : Back l R p e below s args y 3 8 (PreOf R mc ms Pc) (PostOf Qc mc ms free) := va_backW (hh := hh) (bytes := bytes) (maxL := maxL) (ret := ret) hM hp.1 hrc hrs hfr hlo hws hcw (fun a' U hW => word_at hW (Or.inl (by first | rfl | simp [Cond.onTables, Cond.keeps, Cond.steady])) hini)
  obtain ⟨hx, hb, hml, ho, -⟩ := S
  obtain ⟨-, ⟨cellB, hcB, hoB, hclB⟩, hPc⟩ := hp
  intro T hT X
  obtain ⟨v, vm₁, ⟨U', l2, c2, s2⟩, hW₁, X', ⟨g', mk, t, L, e1, e2, hq, h1, hL, h2, h3⟩, st⟩ := vx_callVW X hx (C := C) (hh := hh) (bytes := bytes) (maxL := maxL) (ret := ret) ho hl hin hse hcode hy hK (by rw [hT]; exact hcB) hoB hclB hg (hsize.trans hml.symm) (argsL := As) (rest := rest) (fun sig h => hn.trans (hlen sig h)) hstack hW (by rw [hb]; exact hdg)
    (fun vm₁ hW₁ => ⟨hf.1, hf.2, hPc (T.setVm vm₁) hT hW₁⟩)
  dsimp only [Pt.U, Pt.locs, Pt.cells, Pt.slots] at X' e1 e2 h1 h2 h3 st
  subst h1; subst h2; subst h3
  exact ⟨v, (T.setVm vm₁).calling g' mk (Value.ref b :: As).toArray, t, U', L, hT, X', hL, e1, e2, hq, st⟩
section
variable {y : MethodName} {bytes cc : ByteArray} {maxL nL mc ms n index : Nat} {ret : Option FieldType} {ws : List Cond} {rm : Room} {Pc : Array Value → State → Prop} {Qc : Array Value → State → Outcome → State → Prop} {XC : String → State → State → Prop} {free : Addr → Prop} {Ts : List Cond} {own C : String} {b : Addr} {As rest : List Value} {g : JFrame}
theorem vx_runVX {hh : List (Nat × Nat × Nat × Nat)} (S : CallFix p m c cc nL s args Ts own) (hM : vx_Met l y ws rm Pc Qc XC mc ms free) (cw : vx_CVW R s args own C index y bytes maxL ret hh ws rm mc ms n) (hp : PreV s H C b Pc As)
    (hg : g.method = m) (hn : As.length = n) (hsize : g.locals.size = nL) (hstack : g.stack = As.reverse ++ .ref b :: rest) (hW : 2 * g.monitorRoom + (rest.map fun v => v.category).sum ≤ 8) (hdg : decode cc g.pc = .ok (.invokevirtual index, 3)) (hf : cells + mc ≤ R.cells ∧ slots + ms ≤ R.slots) :
    vx_Run p l e R s m args below meth c H locs cells slots mc ms g rest (Qc (Value.ref b :: As).toArray) XC free := by
  obtain ⟨⟨hrc, hrs, hfr, hlo, hws, hcw⟩, hcode, hini, hy, hlen, hl, hin, hse⟩ := cw
  have hK : vx_Back l R p e below s args y 3 8 (PreOf R mc ms Pc) (PostOf Qc mc ms free) (vx_Post XC mc ms free) := vx_backW (hh := hh) (bytes := bytes) (maxL := maxL) (ret := ret) hM hp.1 hrc hrs hfr hlo hws hcw (fun a' U hW => word_at hW (Or.inl (by first | rfl | simp [Cond.onTables, Cond.keeps, Cond.steady])) hini)
  obtain ⟨hx, hb, hml, ho, -⟩ := S
  obtain ⟨-, ⟨cellB, hcB, hoB, hclB⟩, hPc⟩ := hp
  intro T hT X
  rcases vx_callVX X hx (C := C) (hh := hh) (bytes := bytes) (maxL := maxL) (ret := ret) ho hl hin hse hcode hy hK (by rw [hT]; exact hcB) hoB hclB hg (hsize.trans hml.symm) (argsL := As) (rest := rest) (fun sig h => hn.trans (hlen sig h)) hstack hW (by rw [hb]; exact hdg)
    (fun vm₁ hW₁ => ⟨hf.1, hf.2, hPc (T.setVm vm₁) hT hW₁⟩) with ⟨v, vm₁, ⟨U', l2, c2, s2⟩, hW₁, X', ⟨g', mk, t, L, e1, e2, hq, h1, hL, h2, h3⟩, st⟩ | ⟨q, vm₁, ⟨U', l2, c2, s2⟩, hW₁, X', ⟨g', mk, t, L, E, ce, e1, e2, hq, hce, hcv, hcl, h1, hL, h2, h3⟩, st⟩
  · dsimp only [Pt.U, Pt.locs, Pt.cells, Pt.slots] at X' e1 e2 h1 h2 h3 st
    subst h1; subst h2; subst h3
    exact Or.inl ⟨v, (T.setVm vm₁).calling g' mk (Value.ref b :: As).toArray, t, U', L, hT, X', hL, e1, e2, hq, st⟩
  · dsimp only [Pt.U, Pt.locs, Pt.cells, Pt.slots] at X' e1 e2 h1 h2 h3 st hcl
    subst h1; subst h2; subst h3
    exact Or.inr ⟨q, (T.setVm vm₁).calling g' mk (Value.ref b :: As).toArray, t, U', L, E, ce, hT, X', hL, e1, e2, hq, hce, hcv, vx_cls hW₁ hcl, st⟩
theorem vx_runSX {hh : List (Nat × Nat × Nat × Nat)} (S : CallFix p m c cc nL s args Ts own) (hM : vx_Met l y ws rm Pc Qc XC mc ms free) (cw : vx_CSW R s args own index y bytes maxL ret hh ws rm mc ms n) (hp : PreS s H Pc As)
    (hg : g.method = m) (hn : As.length = n) (hsize : g.locals.size = nL) (hstack : g.stack = As.reverse ++ rest) (hW : 2 * g.monitorRoom + (rest.map fun v => v.category).sum ≤ 8) (hdg : decode cc g.pc = .ok (.invokestatic index, 3)) (hf : cells + mc ≤ R.cells ∧ slots + ms ≤ R.slots) :
    vx_Run p l e R s m args below meth c H locs cells slots mc ms g rest (Qc As.toArray) XC free := by
  obtain ⟨⟨hrc, hrs, hfr, hlo, hws, hcw⟩, hcode, hini, hy, hlen, hl, hstt⟩ := cw
  have hK : vx_Back l R p e below s args y 3 8 (PreOf R mc ms Pc) (PostOf Qc mc ms free) (vx_Post XC mc ms free) := vx_backW (hh := hh) (bytes := bytes) (maxL := maxL) (ret := ret) hM hp.1 hrc hrs hfr hlo hws hcw (fun a' U hW => word_at hW (Or.inl (by first | rfl | simp [Cond.onTables, Cond.keeps, Cond.steady])) hini)
  obtain ⟨hx, hb, hml, ho, -⟩ := S
  intro T hT X
  rcases vx_callSX X hx (hh := hh) (bytes := bytes) (maxL := maxL) (ret := ret) ho hl hstt hini hcode hy hK hg (hsize.trans hml.symm) (argsL := As) (rest := rest) (fun sig h => hn.trans (hlen sig h)) hstack hW (by rw [hb]; exact hdg)
    (fun vm₁ hW₁ => ⟨hf.1, hf.2, hp.2 (T.setVm vm₁) hT hW₁⟩) with ⟨v, vm₁, ⟨U', l2, c2, s2⟩, hW₁, X', ⟨g', mk, t, L, e1, e2, hq, h1, hL, h2, h3⟩, st⟩ | ⟨q, vm₁, ⟨U', l2, c2, s2⟩, hW₁, X', ⟨g', mk, t, L, E, ce, e1, e2, hq, hce, hcv, hcl, h1, hL, h2, h3⟩, st⟩
  · dsimp only [Pt.U, Pt.locs, Pt.cells, Pt.slots] at X' e1 e2 h1 h2 h3 st
    subst h1; subst h2; subst h3
    exact Or.inl ⟨v, (T.setVm vm₁).calling g' mk As.toArray, t, U', L, hT, X', hL, e1, e2, hq, st⟩
  · dsimp only [Pt.U, Pt.locs, Pt.cells, Pt.slots] at X' e1 e2 h1 h2 h3 st hcl
    subst h1; subst h2; subst h3
    exact Or.inr ⟨q, (T.setVm vm₁).calling g' mk As.toArray, t, U', L, E, ce, hT, X', hL, e1, e2, hq, hce, hcv, vx_cls hW₁ hcl, st⟩
end
end VXH
theorem vx_ofWH {l : Launch} {y : MethodName} {ws ws' : List Cond} {rm : Room} {Pc : Array Value → State → Prop} {Qc : Array Value → State → Outcome → State → Prop} {XC : String → State → State → Prop} {mc ms : Nat} {free : Addr → Prop} {cc : ByteArray} {maxL : Nat} {ret : Option FieldType} {hh : List (Nat × Nat × Nat × Nat)}
    (hy : plainName y.cls = true) (hw : ws = Cond.codeWith y cc maxL ret hh :: ws')
    (body : ∀ p e s m args below meth c s₁, BodyLoose p l y (headSpec ws rm) cc maxL ret e s m args below meth c s₁ → c.maxLocals = maxL → Pc args s →
      W p l e (headSpec ws rm).room s m args below meth c s.heap [] 0 0 (vx_MQ below Qc XC args s mc ms free) (entryFrame m args maxL)) : vx_Met l y ws rm Pc Qc XC mc ms free := by
  refine MetFree.of_bodyS (code := cc) (maxLocals := maxL) (ret := ret) hy ?_ ?_
  · intro args s m h hn
    obtain ⟨m9, meth, c, hn9, h1, h2, h3, h4, -, h5, h6, -⟩ := Cond.codeWith_spec (atoms_spec (ws := ws) h _ (by rw [hw]; exact List.mem_cons_self))
    cases hn.symm.trans hn9
    exact ⟨meth, c, h1, h2, h3, h4, h5, h6⟩
  · intro p e s m args below meth c s₁ B hml hP _
    have hh0 : s₁.heap = s.heap := by rw [B.state]; rfl
    obtain ⟨t, a1, o, b1, b2, b3⟩ := body p e s m args below meth c s₁ B hml hP s₁ hh0 (Stand.of_body B)
    exact ⟨t, o, a1, b1, b2, b3⟩
/-! ===== END ===== -/

/-! ===== BEGIN printed: names, fields, word lists, decode rows ===== -/
def RX0 : String := "FlipPolygons$FlipGraph"
def TX0 : u_T := fun k => match k with
  | 0 => ("FlipPolygons$FlipGraph", "polygon", "LFlipPolygons$Polygon;", true)
  | 1 => ("FlipPolygons$FlipGraph", "triangulations", "I", true)
  | 2 => ("FlipPolygons$FlipGraph", "classes", "I", true)
  | 3 => ("FlipPolygons$FlipGraph", "diameter", "I", true)
  | 4 => ("FlipPolygons$FlipGraph", "flipsOfEach", "I", true)
  | 5 => ("FlipPolygons$FlipGraph", "masks", "[I", true)
  | 6 => ("FlipPolygons$FlipGraph", "neighbors", "[I", true)
  | 7 => ("FlipPolygons$FlipGraph", "slots", "[I", true)
  | _ => ("FlipPolygons$FlipGraph", "found", "I", false)
def tyX0 : Nat → FieldType := fun k => match k with
  | 0 => .object "FlipPolygons$Polygon"
  | 1 => .int
  | 2 => .int
  | 3 => .int
  | 4 => .int
  | 5 => .array .int
  | 6 => .array .int
  | 7 => .array .int
  | _ => .int
abbrev wsX00 : List Cond := u_ws RX0 TX0 9
theorem nmX0 : ∀ a, a < 9 → ∀ b, b < 9 → a ≠ b → (TX0 a).2.1 ≠ (TX0 b).2.1 := by decide +kernel
theorem tyX0_ok : ∀ k, k < 9 → parseFieldDescriptor (TX0 k).2.2.1 = some (tyX0 k) := by decide +kernel
abbrev cX0_init : ByteArray := prog_2_method_1_code
def yX0_init : MethodName := ⟨RX0, "<init>", "(LFlipPolygons$Polygon;)V"⟩
abbrev cX0_slotsFor : ByteArray := prog_2_method_2_code
def yX0_slotsFor : MethodName := ⟨RX0, "slotsFor", "(I)I"⟩
abbrev cX0_build : ByteArray := prog_2_method_3_code
def yX0_build : MethodName := ⟨RX0, "build", "()V"⟩
abbrev cX0_indexOrNew : ByteArray := prog_2_method_4_code
def yX0_indexOrNew : MethodName := ⟨RX0, "indexOrNew", "(I)I"⟩
abbrev cX0_neighborOf : ByteArray := prog_2_method_5_code
def yX0_neighborOf : MethodName := ⟨RX0, "neighborOf", "(II)I"⟩
abbrev cX0_indexOf : ByteArray := prog_2_method_6_code
def yX0_indexOf : MethodName := ⟨RX0, "indexOf", "(I)I"⟩
abbrev cX0_slotOf : ByteArray := prog_2_method_7_code
def yX0_slotOf : MethodName := ⟨RX0, "slotOf", "(I)I"⟩
def RX1 : String := "FlipPolygons$Polygon"
def TX1 : u_T := fun k => match k with
  | 0 => ("FlipPolygons$Polygon", "corners", "I", true)
  | 1 => ("FlipPolygons$Polygon", "diagonals", "I", true)
  | 2 => ("FlipPolygons$Polygon", "lesser", "[I", true)
  | 3 => ("FlipPolygons$Polygon", "greater", "[I", true)
  | 4 => ("FlipPolygons$Polygon", "numbers", "[I", true)
  | 5 => ("FlipPolygons$Polygon", "fans", "[I", true)
  | 6 => ("FlipPolygons$Polygon", "crossing", "[I", true)
  | 7 => ("FlipPolygons$Polygon", "afterTurn", "[I", true)
  | _ => ("FlipPolygons$Polygon", "afterMirror", "[I", true)
def tyX1 : Nat → FieldType := fun k => match k with
  | 0 => .int
  | 1 => .int
  | 2 => .array .int
  | 3 => .array .int
  | 4 => .array .int
  | 5 => .array .int
  | 6 => .array .int
  | 7 => .array .int
  | _ => .array .int
abbrev wsX10 : List Cond := u_ws RX1 TX1 9
theorem nmX1 : ∀ a, a < 9 → ∀ b, b < 9 → a ≠ b → (TX1 a).2.1 ≠ (TX1 b).2.1 := by decide +kernel
theorem tyX1_ok : ∀ k, k < 9 → parseFieldDescriptor (TX1 k).2.2.1 = some (tyX1 k) := by decide +kernel
abbrev cX1_init : ByteArray := prog_3_method_1_code
def yX1_init : MethodName := ⟨RX1, "<init>", "(I)V"⟩
abbrev cX1_nameDiagonals : ByteArray := prog_3_method_2_code
def yX1_nameDiagonals : MethodName := ⟨RX1, "nameDiagonals", "()V"⟩
abbrev cX1_findCrossings : ByteArray := prog_3_method_3_code
def yX1_findCrossings : MethodName := ⟨RX1, "findCrossings", "()V"⟩
abbrev cX1_findImages : ByteArray := prog_3_method_4_code
def yX1_findImages : MethodName := ⟨RX1, "findImages", "()V"⟩
abbrev cX1_isCorner : ByteArray := prog_3_method_5_code
def yX1_isCorner : MethodName := ⟨RX1, "isCorner", "(I)Z"⟩
abbrev cX1_numberOf : ByteArray := prog_3_method_6_code
def yX1_numberOf : MethodName := ⟨RX1, "numberOf", "(II)I"⟩
abbrev cX1_fanOf : ByteArray := prog_3_method_7_code
def yX1_fanOf : MethodName := ⟨RX1, "fanOf", "(I)I"⟩
abbrev cX1_degreeIn : ByteArray := prog_3_method_8_code
def yX1_degreeIn : MethodName := ⟨RX1, "degreeIn", "(II)I"⟩
abbrev cX1_otherOf : ByteArray := prog_3_method_9_code
def yX1_otherOf : MethodName := ⟨RX1, "otherOf", "(II)I"⟩
abbrev cX1_flipped : ByteArray := prog_3_method_10_code
def yX1_flipped : MethodName := ⟨RX1, "flipped", "(II)I"⟩
abbrev cX1_turnedBy : ByteArray := prog_3_method_11_code
def yX1_turnedBy : MethodName := ⟨RX1, "turnedBy", "(II)I"⟩
abbrev cX1_mirrored : ByteArray := prog_3_method_12_code
def yX1_mirrored : MethodName := ⟨RX1, "mirrored", "(I)I"⟩
abbrev cX1_moved : ByteArray := prog_3_method_13_code
def yX1_moved : MethodName := ⟨RX1, "moved", "(I[I)I"⟩
abbrev cX1_leastImage : ByteArray := prog_3_method_14_code
def yX1_leastImage : MethodName := ⟨RX1, "leastImage", "(I)I"⟩
abbrev cX1_symmetries : ByteArray := prog_3_method_15_code
def yX1_symmetries : MethodName := ⟨RX1, "symmetries", "(I)I"⟩
abbrev cX1_nextImage : ByteArray := prog_3_method_16_code
def yX1_nextImage : MethodName := ⟨RX1, "nextImage", "(II)I"⟩
abbrev cX1_ears : ByteArray := prog_3_method_17_code
def yX1_ears : MethodName := ⟨RX1, "ears", "(I)I"⟩
abbrev cX1_greatestDegree : ByteArray := prog_3_method_18_code
def yX1_greatestDegree : MethodName := ⟨RX1, "greatestDegree", "(I)I"⟩
abbrev cX1_maskInPart : ByteArray := prog_3_method_19_code
def yX1_maskInPart : MethodName := ⟨RX1, "maskInPart", "(IILFlipPolygons$Polygon;)I"⟩
def RX2 : String := "FlipPolygons$Reach"
def TX2 : u_T := fun k => match k with
  | 0 => ("FlipPolygons$Reach", "flips", "[I", true)
  | 1 => ("FlipPolygons$Reach", "ways", "[I", true)
  | 2 => ("FlipPolygons$Reach", "queue", "[I", true)
  | 3 => ("FlipPolygons$Reach", "graph", "LFlipPolygons$FlipGraph;", false)
  | 4 => ("FlipPolygons$Reach", "source", "I", false)
  | _ => ("FlipPolygons$Reach", "barred", "I", false)
def tyX2 : Nat → FieldType := fun k => match k with
  | 0 => .array .int
  | 1 => .array .int
  | 2 => .array .int
  | 3 => .object "FlipPolygons$FlipGraph"
  | 4 => .int
  | _ => .int
abbrev wsX20 : List Cond := u_ws RX2 TX2 6
theorem nmX2 : ∀ a, a < 6 → ∀ b, b < 6 → a ≠ b → (TX2 a).2.1 ≠ (TX2 b).2.1 := by decide +kernel
theorem tyX2_ok : ∀ k, k < 6 → parseFieldDescriptor (TX2 k).2.2.1 = some (tyX2 k) := by decide +kernel
abbrev cX2_init : ByteArray := prog_4_method_1_code
def yX2_init : MethodName := ⟨RX2, "<init>", "(LFlipPolygons$FlipGraph;)V"⟩
abbrev cX2_measure : ByteArray := prog_4_method_2_code
def yX2_measure : MethodName := ⟨RX2, "measure", "(LFlipPolygons$FlipGraph;II)V"⟩
abbrev cX2_spreadOn : ByteArray := prog_4_method_3_code
def yX2_spreadOn : MethodName := ⟨RX2, "spreadOn", "(II)I"⟩
abbrev cX2_flipsTo : ByteArray := prog_4_method_4_code
def yX2_flipsTo : MethodName := ⟨RX2, "flipsTo", "(I)I"⟩
abbrev cX2_waysTo : ByteArray := prog_4_method_5_code
def yX2_waysTo : MethodName := ⟨RX2, "waysTo", "(I)I"⟩
abbrev cX2_farthest : ByteArray := prog_4_method_6_code
def yX2_farthest : MethodName := ⟨RX2, "farthest", "()I"⟩
abbrev cX2_leastFarthest : ByteArray := prog_4_method_7_code
def yX2_leastFarthest : MethodName := ⟨RX2, "leastFarthest", "()I"⟩
def RX3 : String := "FlipPolygons$State"
def TX3 : u_T := fun k => match k with
  | 0 => ("FlipPolygons$State", "graph", "LFlipPolygons$FlipGraph;", false)
  | 1 => ("FlipPolygons$State", "present", "I", false)
  | 2 => ("FlipPolygons$State", "goal", "I", false)
  | 3 => ("FlipPolygons$State", "locks", "I", false)
  | _ => ("FlipPolygons$State", "flips", "I", false)
def tyX3 : Nat → FieldType := fun k => match k with
  | 0 => .object "FlipPolygons$FlipGraph"
  | 1 => .int
  | 2 => .int
  | 3 => .int
  | _ => .int
abbrev wsX30 : List Cond := u_ws RX3 TX3 5
theorem nmX3 : ∀ a, a < 5 → ∀ b, b < 5 → a ≠ b → (TX3 a).2.1 ≠ (TX3 b).2.1 := by decide +kernel
theorem tyX3_ok : ∀ k, k < 5 → parseFieldDescriptor (TX3 k).2.2.1 = some (tyX3 k) := by decide +kernel
abbrev cX3_init : ByteArray := prog_5_method_1_code
def yX3_init : MethodName := ⟨RX3, "<init>", "()V"⟩
abbrev cX3_startWith : ByteArray := prog_5_method_2_code
def yX3_startWith : MethodName := ⟨RX3, "startWith", "(LFlipPolygons$FlipGraph;)V"⟩
abbrev cX3_copy : ByteArray := prog_5_method_3_code
def yX3_copy : MethodName := ⟨RX3, "copy", "(LFlipPolygons$State;)V"⟩
abbrev cX3_mask : ByteArray := prog_5_method_4_code
def yX3_mask : MethodName := ⟨RX3, "mask", "(I)I"⟩
abbrev cX3_put : ByteArray := prog_5_method_5_code
def yX3_put : MethodName := ⟨RX3, "put", "(II)V"⟩
def RX4 : String := "FlipPolygons$Text"
def TX4 : u_T := fun k => match k with
  | 0 => ("FlipPolygons$Text", "codes", "[I", true)
  | _ => ("FlipPolygons$Text", "length", "I", false)
def tyX4 : Nat → FieldType := fun k => match k with
  | 0 => .array .int
  | _ => .int
abbrev wsX40 : List Cond := u_ws RX4 TX4 2
theorem nmX4 : ∀ a, a < 2 → ∀ b, b < 2 → a ≠ b → (TX4 a).2.1 ≠ (TX4 b).2.1 := by decide +kernel
theorem tyX4_ok : ∀ k, k < 2 → parseFieldDescriptor (TX4 k).2.2.1 = some (tyX4 k) := by decide +kernel
abbrev cX4_init : ByteArray := prog_6_method_1_code
def yX4_init : MethodName := ⟨RX4, "<init>", "()V"⟩
abbrev cX4_isFull : ByteArray := prog_6_method_2_code
def yX4_isFull : MethodName := ⟨RX4, "isFull", "()Z"⟩
abbrev cX4_add : ByteArray := prog_6_method_3_code
def yX4_add : MethodName := ⟨RX4, "add", "(I)V"⟩
abbrev cX4_clear : ByteArray := prog_6_method_4_code
def yX4_clear : MethodName := ⟨RX4, "clear", "()V"⟩
abbrev cX4_fullLength : ByteArray := prog_6_method_5_code
def yX4_fullLength : MethodName := ⟨RX4, "fullLength", "(LFlipPolygons$Polygon;)I"⟩
abbrev cX4_cornerAt : ByteArray := prog_6_method_6_code
def yX4_cornerAt : MethodName := ⟨RX4, "cornerAt", "(I)I"⟩
abbrev cX4_firstWrong : ByteArray := prog_6_method_7_code
def yX4_firstWrong : MethodName := ⟨RX4, "firstWrong", "(LFlipPolygons$Polygon;)I"⟩
abbrev cX4_fits : ByteArray := prog_6_method_8_code
def yX4_fits : MethodName := ⟨RX4, "fits", "(LFlipPolygons$Polygon;I)Z"⟩
abbrev cX4_beginsDiagonal : ByteArray := prog_6_method_9_code
def yX4_beginsDiagonal : MethodName := ⟨RX4, "beginsDiagonal", "(LFlipPolygons$Polygon;I)Z"⟩
abbrev cX4_isComplete : ByteArray := prog_6_method_10_code
def yX4_isComplete : MethodName := ⟨RX4, "isComplete", "(LFlipPolygons$Polygon;)Z"⟩
abbrev cX4_maskIn : ByteArray := prog_6_method_11_code
def yX4_maskIn : MethodName := ⟨RX4, "maskIn", "(LFlipPolygons$Polygon;)I"⟩
abbrev cX4_mixInto : ByteArray := prog_6_method_12_code
def yX4_mixInto : MethodName := ⟨RX4, "mixInto", "(J)J"⟩
def RX5 : String := "FlipPolygons"
def TX5 : u_T := fun k => match k with
  | 0 => ("FlipPolygons", "graphs", "[LFlipPolygons$FlipGraph;", true)
  | 1 => ("FlipPolygons", "now", "LFlipPolygons$State;", true)
  | 2 => ("FlipPolygons", "saved", "[LFlipPolygons$State;", true)
  | 3 => ("FlipPolygons", "savedStates", "I", false)
  | 4 => ("FlipPolygons", "snapshots", "[LFlipPolygons$State;", true)
  | 5 => ("FlipPolygons", "text", "LFlipPolygons$Text;", true)
  | 6 => ("FlipPolygons", "fromPresent", "LFlipPolygons$Reach;", true)
  | 7 => ("FlipPolygons", "fromGoal", "LFlipPolygons$Reach;", true)
  | 8 => ("FlipPolygons", "fromGoalWithLocks", "LFlipPolygons$Reach;", true)
  | 9 => ("FlipPolygons", "fromPart", "LFlipPolygons$Reach;", true)
  | _ => ("FlipPolygons", "parts", "[I", true)
def tyX5 : Nat → FieldType := fun k => match k with
  | 0 => .array (.object "FlipPolygons$FlipGraph")
  | 1 => .object "FlipPolygons$State"
  | 2 => .array (.object "FlipPolygons$State")
  | 3 => .int
  | 4 => .array (.object "FlipPolygons$State")
  | 5 => .object "FlipPolygons$Text"
  | 6 => .object "FlipPolygons$Reach"
  | 7 => .object "FlipPolygons$Reach"
  | 8 => .object "FlipPolygons$Reach"
  | 9 => .object "FlipPolygons$Reach"
  | _ => .array .int
abbrev wsX50 : List Cond := u_ws RX5 TX5 11
theorem nmX5 : ∀ a, a < 11 → ∀ b, b < 11 → a ≠ b → (TX5 a).2.1 ≠ (TX5 b).2.1 := by decide +kernel
theorem tyX5_ok : ∀ k, k < 11 → parseFieldDescriptor (TX5 k).2.2.1 = some (tyX5 k) := by decide +kernel
abbrev cX5_init : ByteArray := prog_1_method_1_code
def yX5_init : MethodName := ⟨RX5, "<init>", "()V"⟩
abbrev cX5_begin : ByteArray := prog_1_method_2_code
def yX5_begin : MethodName := ⟨RX5, "begin", "(I)I"⟩
abbrev cX5_flip : ByteArray := prog_1_method_3_code
def yX5_flip : MethodName := ⟨RX5, "flip", "(III)I"⟩
abbrev cX5_fan : ByteArray := prog_1_method_4_code
def yX5_fan : MethodName := ⟨RX5, "fan", "(II)I"⟩
abbrev cX5_turn : ByteArray := prog_1_method_5_code
def yX5_turn : MethodName := ⟨RX5, "turn", "(II)I"⟩
abbrev cX5_mirror : ByteArray := prog_1_method_6_code
def yX5_mirror : MethodName := ⟨RX5, "mirror", "(I)I"⟩
abbrev cX5_exchange : ByteArray := prog_1_method_7_code
def yX5_exchange : MethodName := ⟨RX5, "exchange", "()I"⟩
abbrev cX5_lock : ByteArray := prog_1_method_8_code
def yX5_lock : MethodName := ⟨RX5, "lock", "(IIZ)I"⟩
abbrev cX5_walk : ByteArray := prog_1_method_9_code
def yX5_walk : MethodName := ⟨RX5, "walk", "(I)I"⟩
abbrev cX5_append : ByteArray := prog_1_method_10_code
def yX5_append : MethodName := ⟨RX5, "append", "(I)I"⟩
abbrev cX5_clearBuffer : ByteArray := prog_1_method_11_code
def yX5_clearBuffer : MethodName := ⟨RX5, "clearBuffer", "()I"⟩
abbrev cX5_firstError : ByteArray := prog_1_method_12_code
def yX5_firstError : MethodName := ⟨RX5, "firstError", "()I"⟩
abbrev cX5_read : ByteArray := prog_1_method_13_code
def yX5_read : MethodName := ⟨RX5, "read", "(I)I"⟩
abbrev cX5_take : ByteArray := prog_1_method_14_code
def yX5_take : MethodName := ⟨RX5, "take", "(I)I"⟩
abbrev cX5_restore : ByteArray := prog_1_method_15_code
def yX5_restore : MethodName := ⟨RX5, "restore", "(I)I"⟩
abbrev cX5_undo : ByteArray := prog_1_method_16_code
def yX5_undo : MethodName := ⟨RX5, "undo", "()I"⟩
abbrev cX5_number : ByteArray := prog_1_method_17_code
def yX5_number : MethodName := ⟨RX5, "number", "(II)I"⟩
abbrev cX5_triangulation : ByteArray := prog_1_method_18_code
def yX5_triangulation : MethodName := ⟨RX5, "triangulation", "(II)I"⟩
abbrev cX5_degree : ByteArray := prog_1_method_19_code
def yX5_degree : MethodName := ⟨RX5, "degree", "(II)I"⟩
abbrev cX5_other : ByteArray := prog_1_method_20_code
def yX5_other : MethodName := ⟨RX5, "other", "(III)I"⟩
abbrev cX5_whyNot : ByteArray := prog_1_method_21_code
def yX5_whyNot : MethodName := ⟨RX5, "whyNot", "(II)I"⟩
abbrev cX5_distance : ByteArray := prog_1_method_22_code
def yX5_distance : MethodName := ⟨RX5, "distance", "(I)I"⟩
abbrev cX5_ifFlipped : ByteArray := prog_1_method_23_code
def yX5_ifFlipped : MethodName := ⟨RX5, "ifFlipped", "(II)I"⟩
abbrev cX5_count : ByteArray := prog_1_method_24_code
def yX5_count : MethodName := ⟨RX5, "count", "(I)I"⟩
abbrev cX5_farShare : ByteArray := prog_1_method_25_code
def yX5_farShare : MethodName := ⟨RX5, "farShare", "()D"⟩
abbrev cX5_digest : ByteArray := prog_1_method_26_code
def yX5_digest : MethodName := ⟨RX5, "digest", "()J"⟩
abbrev cX5_buildUpTo : ByteArray := prog_1_method_27_code
def yX5_buildUpTo : MethodName := ⟨RX5, "buildUpTo", "([LFlipPolygons$FlipGraph;I)V"⟩
abbrev cX5_saveState : ByteArray := prog_1_method_28_code
def yX5_saveState : MethodName := ⟨RX5, "saveState", "()V"⟩
abbrev cX5_makeFlip : ByteArray := prog_1_method_29_code
def yX5_makeFlip : MethodName := ⟨RX5, "makeFlip", "(II)I"⟩
abbrev cX5_putNew : ByteArray := prog_1_method_30_code
def yX5_putNew : MethodName := ⟨RX5, "putNew", "(II)V"⟩
abbrev cX5_isWhich : ByteArray := prog_1_method_31_code
def yX5_isWhich : MethodName := ⟨RX5, "isWhich", "(I)Z"⟩
abbrev cX5_isSnapshot : ByteArray := prog_1_method_32_code
def yX5_isSnapshot : MethodName := ⟨RX5, "isSnapshot", "(I)Z"⟩
abbrev cX5_isIn : ByteArray := prog_1_method_33_code
def yX5_isIn : MethodName := ⟨RX5, "isIn", "(II)Z"⟩
abbrev cX5_numberOfTriangulation : ByteArray := prog_1_method_34_code
def yX5_numberOfTriangulation : MethodName := ⟨RX5, "numberOfTriangulation", "(II)I"⟩
abbrev cX5_reachFrom : ByteArray := prog_1_method_35_code
def yX5_reachFrom : MethodName := ⟨RX5, "reachFrom", "(I)LFlipPolygons$Reach;"⟩
abbrev cX5_reachWithLocks : ByteArray := prog_1_method_36_code
def yX5_reachWithLocks : MethodName := ⟨RX5, "reachWithLocks", "()LFlipPolygons$Reach;"⟩
abbrev cX5_hasDistance : ByteArray := prog_1_method_37_code
def yX5_hasDistance : MethodName := ⟨RX5, "hasDistance", "()Z"⟩
abbrev cX5_distanceWithLocks : ByteArray := prog_1_method_38_code
def yX5_distanceWithLocks : MethodName := ⟨RX5, "distanceWithLocks", "()I"⟩
abbrev cX5_shortestWays : ByteArray := prog_1_method_39_code
def yX5_shortestWays : MethodName := ⟨RX5, "shortestWays", "()I"⟩
abbrev cX5_freeDistance : ByteArray := prog_1_method_40_code
def yX5_freeDistance : MethodName := ⟨RX5, "freeDistance", "()I"⟩
abbrev cX5_nextFlip : ByteArray := prog_1_method_41_code
def yX5_nextFlip : MethodName := ⟨RX5, "nextFlip", "()I"⟩
abbrev cX5_hindrance : ByteArray := prog_1_method_42_code
def yX5_hindrance : MethodName := ⟨RX5, "hindrance", "(I)I"⟩
abbrev cX5_freeDistanceBehind : ByteArray := prog_1_method_43_code
def yX5_freeDistanceBehind : MethodName := ⟨RX5, "freeDistanceBehind", "(I)I"⟩
abbrev cX5_distanceNumber : ByteArray := prog_1_method_44_code
def yX5_distanceNumber : MethodName := ⟨RX5, "distanceNumber", "(I)I"⟩
abbrev cX5_countNumber : ByteArray := prog_1_method_45_code
def yX5_countNumber : MethodName := ⟨RX5, "countNumber", "(I)I"⟩
abbrev cX5_takenSnapshots : ByteArray := prog_1_method_46_code
def yX5_takenSnapshots : MethodName := ⟨RX5, "takenSnapshots", "()I"⟩
abbrev cX5_shareOfWay : ByteArray := prog_1_method_47_code
def yX5_shareOfWay : MethodName := ⟨RX5, "shareOfWay", "()D"⟩
abbrev cX5_freeDistanceByParts : ByteArray := prog_1_method_48_code
def yX5_freeDistanceByParts : MethodName := ⟨RX5, "freeDistanceByParts", "()I"⟩
abbrev cX5_cutIntoParts : ByteArray := prog_1_method_49_code
def yX5_cutIntoParts : MethodName := ⟨RX5, "cutIntoParts", "(I)I"⟩
abbrev cX5_cutOnePart : ByteArray := prog_1_method_50_code
def yX5_cutOnePart : MethodName := ⟨RX5, "cutOnePart", "(III)V"⟩
abbrev cX5_freeDistanceInPart : ByteArray := prog_1_method_51_code
def yX5_freeDistanceInPart : MethodName := ⟨RX5, "freeDistanceInPart", "(I)I"⟩
abbrev cX5_mixTriangulation : ByteArray := prog_1_method_52_code
def yX5_mixTriangulation : MethodName := ⟨RX5, "mixTriangulation", "(JI)J"⟩
abbrev cX5_mixDiagonals : ByteArray := prog_1_method_53_code
def yX5_mixDiagonals : MethodName := ⟨RX5, "mixDiagonals", "(J)J"⟩
abbrev cX5_bitsOf : ByteArray := prog_1_method_54_code
def yX5_bitsOf : MethodName := ⟨RX5, "bitsOf", "(D)J"⟩
def RX6 : String := "FlipPolygonsModel"
def TX6 : u_T := fun k => match k with
  | 0 => ("FlipPolygonsModel", "z", "[I", true)
  | 1 => ("FlipPolygonsModel", "states", "I", false)
  | 2 => ("FlipPolygonsModel", "history", "[I", true)
  | 3 => ("FlipPolygonsModel", "snaps", "[I", true)
  | 4 => ("FlipPolygonsModel", "taken", "[I", true)
  | 5 => ("FlipPolygonsModel", "length", "I", false)
  | 6 => ("FlipPolygonsModel", "text", "[I", true)
  | 7 => ("FlipPolygonsModel", "thrown", "I", false)
  | 8 => ("FlipPolygonsModel", "laid", "I", false)
  | 9 => ("FlipPolygonsModel", "diagonals", "I", false)
  | 10 => ("FlipPolygonsModel", "lesser", "[I", true)
  | 11 => ("FlipPolygonsModel", "greater", "[I", true)
  | 12 => ("FlipPolygonsModel", "numbers", "[I", true)
  | 13 => ("FlipPolygonsModel", "all", "I", false)
  | 14 => ("FlipPolygonsModel", "masks", "[I", true)
  | 15 => ("FlipPolygonsModel", "leads", "[I", true)
  | 16 => ("FlipPolygonsModel", "classes", "I", false)
  | 17 => ("FlipPolygonsModel", "widest", "I", false)
  | 18 => ("FlipPolygonsModel", "far", "[I", true)
  | 19 => ("FlipPolygonsModel", "ways", "[I", true)
  | 20 => ("FlipPolygonsModel", "order", "[I", true)
  | _ => ("FlipPolygonsModel", "hash", "J", false)
def tyX6 : Nat → FieldType := fun k => match k with
  | 0 => .array .int
  | 1 => .int
  | 2 => .array .int
  | 3 => .array .int
  | 4 => .array .int
  | 5 => .int
  | 6 => .array .int
  | 7 => .int
  | 8 => .int
  | 9 => .int
  | 10 => .array .int
  | 11 => .array .int
  | 12 => .array .int
  | 13 => .int
  | 14 => .array .int
  | 15 => .array .int
  | 16 => .int
  | 17 => .int
  | 18 => .array .int
  | 19 => .array .int
  | 20 => .array .int
  | _ => .long
abbrev wsX60 : List Cond := u_ws RX6 TX6 22
theorem nmX6 : ∀ a, a < 22 → ∀ b, b < 22 → a ≠ b → (TX6 a).2.1 ≠ (TX6 b).2.1 := by decide +kernel
theorem tyX6_ok : ∀ k, k < 22 → parseFieldDescriptor (TX6 k).2.2.1 = some (tyX6 k) := by decide +kernel
abbrev cX6_init : ByteArray := prog_8_method_1_code
def yX6_init : MethodName := ⟨RX6, "<init>", "()V"⟩
abbrev cX6_thrown : ByteArray := prog_8_method_2_code
def yX6_thrown : MethodName := ⟨RX6, "thrown", "()I"⟩
abbrev cX6_within : ByteArray := prog_8_method_3_code
def yX6_within : MethodName := ⟨RX6, "within", "(III)Z"⟩
abbrev cX6_save : ByteArray := prog_8_method_4_code
def yX6_save : MethodName := ⟨RX6, "save", "()V"⟩
abbrev cX6_has : ByteArray := prog_8_method_5_code
def yX6_has : MethodName := ⟨RX6, "has", "(II)Z"⟩
abbrev cX6_ones : ByteArray := prog_8_method_6_code
def yX6_ones : MethodName := ⟨RX6, "ones", "(I)I"⟩
abbrev cX6_layDiagonals : ByteArray := prog_8_method_7_code
def yX6_layDiagonals : MethodName := ⟨RX6, "layDiagonals", "()V"⟩
abbrev cX6_numberOf : ByteArray := prog_8_method_8_code
def yX6_numberOf : MethodName := ⟨RX6, "numberOf", "(II)I"⟩
abbrev cX6_isDiagonal : ByteArray := prog_8_method_9_code
def yX6_isDiagonal : MethodName := ⟨RX6, "isDiagonal", "(II)Z"⟩
abbrev cX6_cross : ByteArray := prog_8_method_10_code
def yX6_cross : MethodName := ⟨RX6, "cross", "(II)Z"⟩
abbrev cX6_fanOf : ByteArray := prog_8_method_11_code
def yX6_fanOf : MethodName := ⟨RX6, "fanOf", "(I)I"⟩
abbrev cX6_joined : ByteArray := prog_8_method_12_code
def yX6_joined : MethodName := ⟨RX6, "joined", "(III)Z"⟩
abbrev cX6_apex : ByteArray := prog_8_method_13_code
def yX6_apex : MethodName := ⟨RX6, "apex", "(III)I"⟩
abbrev cX6_flipped : ByteArray := prog_8_method_14_code
def yX6_flipped : MethodName := ⟨RX6, "flipped", "(II)I"⟩
abbrev cX6_behindFlip : ByteArray := prog_8_method_15_code
def yX6_behindFlip : MethodName := ⟨RX6, "behindFlip", "(II)I"⟩
abbrev cX6_indexOf : ByteArray := prog_8_method_16_code
def yX6_indexOf : MethodName := ⟨RX6, "indexOf", "(I)I"⟩
abbrev cX6_isKnown : ByteArray := prog_8_method_17_code
def yX6_isKnown : MethodName := ⟨RX6, "isKnown", "(I)Z"⟩
abbrev cX6_findAll : ByteArray := prog_8_method_18_code
def yX6_findAll : MethodName := ⟨RX6, "findAll", "()V"⟩
abbrev cX6_sortAll : ByteArray := prog_8_method_19_code
def yX6_sortAll : MethodName := ⟨RX6, "sortAll", "()V"⟩
abbrev cX6_layLeads : ByteArray := prog_8_method_20_code
def yX6_layLeads : MethodName := ⟨RX6, "layLeads", "()V"⟩
abbrev cX6_layAll : ByteArray := prog_8_method_21_code
def yX6_layAll : MethodName := ⟨RX6, "layAll", "()V"⟩
abbrev cX6_goFrom : ByteArray := prog_8_method_22_code
def yX6_goFrom : MethodName := ⟨RX6, "goFrom", "(II)V"⟩
abbrev cX6_freeFrom : ByteArray := prog_8_method_23_code
def yX6_freeFrom : MethodName := ⟨RX6, "freeFrom", "(I)I"⟩
abbrev cX6_lockedFrom : ByteArray := prog_8_method_24_code
def yX6_lockedFrom : MethodName := ⟨RX6, "lockedFrom", "(I)I"⟩
abbrev cX6_farthestFrom : ByteArray := prog_8_method_25_code
def yX6_farthestFrom : MethodName := ⟨RX6, "farthestFrom", "(I)I"⟩
abbrev cX6_leastSoFar : ByteArray := prog_8_method_26_code
def yX6_leastSoFar : MethodName := ⟨RX6, "leastSoFar", "(I)I"⟩
abbrev cX6_nextFlip : ByteArray := prog_8_method_27_code
def yX6_nextFlip : MethodName := ⟨RX6, "nextFlip", "()I"⟩
abbrev cX6_turned : ByteArray := prog_8_method_28_code
def yX6_turned : MethodName := ⟨RX6, "turned", "(II)I"⟩
abbrev cX6_mirrored : ByteArray := prog_8_method_29_code
def yX6_mirrored : MethodName := ⟨RX6, "mirrored", "(I)I"⟩
abbrev cX6_codeOf : ByteArray := prog_8_method_30_code
def yX6_codeOf : MethodName := ⟨RX6, "codeOf", "(I)I"⟩
abbrev cX6_likenesses : ByteArray := prog_8_method_31_code
def yX6_likenesses : MethodName := ⟨RX6, "likenesses", "(I)I"⟩
abbrev cX6_begin : ByteArray := prog_8_method_32_code
def yX6_begin : MethodName := ⟨RX6, "begin", "(I)I"⟩
abbrev cX6_isWhich : ByteArray := prog_8_method_33_code
def yX6_isWhich : MethodName := ⟨RX6, "isWhich", "(I)Z"⟩
abbrev cX6_canFlip : ByteArray := prog_8_method_34_code
def yX6_canFlip : MethodName := ⟨RX6, "canFlip", "(II)Z"⟩
abbrev cX6_flip : ByteArray := prog_8_method_35_code
def yX6_flip : MethodName := ⟨RX6, "flip", "(III)I"⟩
abbrev cX6_lay : ByteArray := prog_8_method_36_code
def yX6_lay : MethodName := ⟨RX6, "lay", "(II)V"⟩
abbrev cX6_isCorner : ByteArray := prog_8_method_37_code
def yX6_isCorner : MethodName := ⟨RX6, "isCorner", "(I)Z"⟩
abbrev cX6_fan : ByteArray := prog_8_method_38_code
def yX6_fan : MethodName := ⟨RX6, "fan", "(II)I"⟩
abbrev cX6_turn : ByteArray := prog_8_method_39_code
def yX6_turn : MethodName := ⟨RX6, "turn", "(II)I"⟩
abbrev cX6_mirror : ByteArray := prog_8_method_40_code
def yX6_mirror : MethodName := ⟨RX6, "mirror", "(I)I"⟩
abbrev cX6_exchange : ByteArray := prog_8_method_41_code
def yX6_exchange : MethodName := ⟨RX6, "exchange", "()I"⟩
abbrev cX6_lock : ByteArray := prog_8_method_42_code
def yX6_lock : MethodName := ⟨RX6, "lock", "(IIZ)I"⟩
abbrev cX6_walk : ByteArray := prog_8_method_43_code
def yX6_walk : MethodName := ⟨RX6, "walk", "(I)I"⟩
abbrev cX6_append : ByteArray := prog_8_method_44_code
def yX6_append : MethodName := ⟨RX6, "append", "(I)I"⟩
abbrev cX6_clearBuffer : ByteArray := prog_8_method_45_code
def yX6_clearBuffer : MethodName := ⟨RX6, "clearBuffer", "()I"⟩
abbrev cX6_canStand : ByteArray := prog_8_method_46_code
def yX6_canStand : MethodName := ⟨RX6, "canStand", "(I)Z"⟩
abbrev cX6_rightUpTo : ByteArray := prog_8_method_47_code
def yX6_rightUpTo : MethodName := ⟨RX6, "rightUpTo", "()I"⟩
abbrev cX6_firstError : ByteArray := prog_8_method_48_code
def yX6_firstError : MethodName := ⟨RX6, "firstError", "()I"⟩
abbrev cX6_toldAt : ByteArray := prog_8_method_49_code
def yX6_toldAt : MethodName := ⟨RX6, "toldAt", "(I)I"⟩
abbrev cX6_isTriangulation : ByteArray := prog_8_method_50_code
def yX6_isTriangulation : MethodName := ⟨RX6, "isTriangulation", "()Z"⟩
abbrev cX6_read : ByteArray := prog_8_method_51_code
def yX6_read : MethodName := ⟨RX6, "read", "(I)I"⟩
abbrev cX6_isSnapshot : ByteArray := prog_8_method_52_code
def yX6_isSnapshot : MethodName := ⟨RX6, "isSnapshot", "(I)Z"⟩
abbrev cX6_take : ByteArray := prog_8_method_53_code
def yX6_take : MethodName := ⟨RX6, "take", "(I)I"⟩
abbrev cX6_restore : ByteArray := prog_8_method_54_code
def yX6_restore : MethodName := ⟨RX6, "restore", "(I)I"⟩
abbrev cX6_undo : ByteArray := prog_8_method_55_code
def yX6_undo : MethodName := ⟨RX6, "undo", "()I"⟩
abbrev cX6_number : ByteArray := prog_8_method_56_code
def yX6_number : MethodName := ⟨RX6, "number", "(II)I"⟩
abbrev cX6_degreeOf : ByteArray := prog_8_method_57_code
def yX6_degreeOf : MethodName := ⟨RX6, "degreeOf", "(II)I"⟩
abbrev cX6_cornersOf : ByteArray := prog_8_method_58_code
def yX6_cornersOf : MethodName := ⟨RX6, "cornersOf", "(IZ)I"⟩
abbrev cX6_triangulationNow : ByteArray := prog_8_method_59_code
def yX6_triangulationNow : MethodName := ⟨RX6, "triangulationNow", "(II)I"⟩
abbrev cX6_triangulation : ByteArray := prog_8_method_60_code
def yX6_triangulation : MethodName := ⟨RX6, "triangulation", "(II)I"⟩
abbrev cX6_degree : ByteArray := prog_8_method_61_code
def yX6_degree : MethodName := ⟨RX6, "degree", "(II)I"⟩
abbrev cX6_otherNow : ByteArray := prog_8_method_62_code
def yX6_otherNow : MethodName := ⟨RX6, "otherNow", "(II)I"⟩
abbrev cX6_other : ByteArray := prog_8_method_63_code
def yX6_other : MethodName := ⟨RX6, "other", "(III)I"⟩
abbrev cX6_reason : ByteArray := prog_8_method_64_code
def yX6_reason : MethodName := ⟨RX6, "reason", "(I)I"⟩
abbrev cX6_whyNot : ByteArray := prog_8_method_65_code
def yX6_whyNot : MethodName := ⟨RX6, "whyNot", "(II)I"⟩
abbrev cX6_distanceNow : ByteArray := prog_8_method_66_code
def yX6_distanceNow : MethodName := ⟨RX6, "distanceNow", "(I)I"⟩
abbrev cX6_distance : ByteArray := prog_8_method_67_code
def yX6_distance : MethodName := ⟨RX6, "distance", "(I)I"⟩
abbrev cX6_flippedThen : ByteArray := prog_8_method_68_code
def yX6_flippedThen : MethodName := ⟨RX6, "flippedThen", "(I)I"⟩
abbrev cX6_ifFlipped : ByteArray := prog_8_method_69_code
def yX6_ifFlipped : MethodName := ⟨RX6, "ifFlipped", "(II)I"⟩
abbrev cX6_counted : ByteArray := prog_8_method_70_code
def yX6_counted : MethodName := ⟨RX6, "counted", "(I)I"⟩
abbrev cX6_count : ByteArray := prog_8_method_71_code
def yX6_count : MethodName := ⟨RX6, "count", "(I)I"⟩
abbrev cX6_share : ByteArray := prog_8_method_72_code
def yX6_share : MethodName := ⟨RX6, "share", "()D"⟩
abbrev cX6_farShare : ByteArray := prog_8_method_73_code
def yX6_farShare : MethodName := ⟨RX6, "farShare", "()D"⟩
abbrev cX6_mix : ByteArray := prog_8_method_74_code
def yX6_mix : MethodName := ⟨RX6, "mix", "(J)V"⟩
abbrev cX6_digest : ByteArray := prog_8_method_75_code
def yX6_digest : MethodName := ⟨RX6, "digest", "()J"⟩
def RJx145de : String := "java/io/Serializable"
def TJx145de : u_T := fun k => match k with
  | _ => ("", "", "", false)
def tyJx145de : Nat → FieldType := fun k => match k with
  | _ => .int
abbrev wsJx145de0 : List Cond := u_ws RJx145de TJx145de 0
theorem nmJx145de : ∀ a, a < 0 → ∀ b, b < 0 → a ≠ b → (TJx145de a).2.1 ≠ (TJx145de b).2.1 := by decide +kernel
theorem tyJx145de_ok : ∀ k, k < 0 → parseFieldDescriptor (TJx145de k).2.2.1 = some (tyJx145de k) := by decide +kernel
def RJxb160c : String := "java/lang/Comparable"
def TJxb160c : u_T := fun k => match k with
  | _ => ("", "", "", false)
def tyJxb160c : Nat → FieldType := fun k => match k with
  | _ => .int
abbrev wsJxb160c0 : List Cond := u_ws RJxb160c TJxb160c 0
theorem nmJxb160c : ∀ a, a < 0 → ∀ b, b < 0 → a ≠ b → (TJxb160c a).2.1 ≠ (TJxb160c b).2.1 := by decide +kernel
theorem tyJxb160c_ok : ∀ k, k < 0 → parseFieldDescriptor (TJxb160c k).2.2.1 = some (tyJxb160c k) := by decide +kernel
def RJxe99ae : String := "java/lang/Double"
def TJxe99ae : u_T := fun k => match k with
  | _ => ("", "", "", false)
def tyJxe99ae : Nat → FieldType := fun k => match k with
  | _ => .int
abbrev wsJxe99ae0 : List Cond := u_ws RJxe99ae TJxe99ae 0
theorem nmJxe99ae : ∀ a, a < 0 → ∀ b, b < 0 → a ≠ b → (TJxe99ae a).2.1 ≠ (TJxe99ae b).2.1 := by decide +kernel
theorem tyJxe99ae_ok : ∀ k, k < 0 → parseFieldDescriptor (TJxe99ae k).2.2.1 = some (tyJxe99ae k) := by decide +kernel
abbrev cJxe99ae_isNaN_b9ae7 : ByteArray := prog_9_method_6_code
def yJxe99ae_isNaN_b9ae7 : MethodName := ⟨RJxe99ae, "isNaN", "(D)Z"⟩
abbrev cJxe99ae_doubleToLongBits_ccdee : ByteArray := prog_9_method_23_code
def yJxe99ae_doubleToLongBits_ccdee : MethodName := ⟨RJxe99ae, "doubleToLongBits", "(D)J"⟩
def RJ6 : String := "java/lang/Integer"
def TJ6 : u_T := fun k => match k with
  | _ => ("", "", "", false)
def tyJ6 : Nat → FieldType := fun k => match k with
  | _ => .int
abbrev wsJ60 : List Cond := u_ws RJ6 TJ6 0
theorem nmJ6 : ∀ a, a < 0 → ∀ b, b < 0 → a ≠ b → (TJ6 a).2.1 ≠ (TJ6 b).2.1 := by decide +kernel
theorem tyJ6_ok : ∀ k, k < 0 → parseFieldDescriptor (TJ6 k).2.2.1 = some (tyJ6 k) := by decide +kernel
abbrev cJ6_bitCount_0f7a4 : ByteArray := prog_14_method_49_code
def yJ6_bitCount_0f7a4 : MethodName := ⟨RJ6, "bitCount", "(I)I"⟩
def RJ9 : String := "java/lang/Math"
def TJ9 : u_T := fun k => match k with
  | _ => ("", "", "", false)
def tyJ9 : Nat → FieldType := fun k => match k with
  | _ => .int
abbrev wsJ90 : List Cond := u_ws RJ9 TJ9 0
theorem nmJ9 : ∀ a, a < 0 → ∀ b, b < 0 → a ≠ b → (TJ9 a).2.1 ≠ (TJ9 b).2.1 := by decide +kernel
theorem tyJ9_ok : ∀ k, k < 0 → parseFieldDescriptor (TJ9 k).2.2.1 = some (tyJ9 k) := by decide +kernel
abbrev cJ9_max_7cf53 : ByteArray := prog_15_method_65_code
def yJ9_max_7cf53 : MethodName := ⟨RJ9, "max", "(II)I"⟩
abbrev cJ9_min_7cf53 : ByteArray := prog_15_method_69_code
def yJ9_min_7cf53 : MethodName := ⟨RJ9, "min", "(II)I"⟩
def RJxd2413 : String := "java/lang/Number"
def TJxd2413 : u_T := fun k => match k with
  | _ => ("", "", "", false)
def tyJxd2413 : Nat → FieldType := fun k => match k with
  | _ => .int
abbrev wsJxd24130 : List Cond := u_ws RJxd2413 TJxd2413 0
theorem nmJxd2413 : ∀ a, a < 0 → ∀ b, b < 0 → a ≠ b → (TJxd2413 a).2.1 ≠ (TJxd2413 b).2.1 := by decide +kernel
theorem tyJxd2413_ok : ∀ k, k < 0 → parseFieldDescriptor (TJxd2413 k).2.2.1 = some (tyJxd2413 k) := by decide +kernel
def RJ0 : String := "java/lang/String"
def TJ0 : u_T := fun k => match k with
  | _ => ("", "", "", false)
def tyJ0 : Nat → FieldType := fun k => match k with
  | _ => .int
abbrev wsJ00 : List Cond := u_ws RJ0 TJ0 0
theorem nmJ0 : ∀ a, a < 0 → ∀ b, b < 0 → a ≠ b → (TJ0 a).2.1 ≠ (TJ0 b).2.1 := by decide +kernel
theorem tyJ0_ok : ∀ k, k < 0 → parseFieldDescriptor (TJ0 k).2.2.1 = some (tyJ0 k) := by decide +kernel
def RJxfd54e : String := "java/lang/constant/Constable"
def TJxfd54e : u_T := fun k => match k with
  | _ => ("", "", "", false)
def tyJxfd54e : Nat → FieldType := fun k => match k with
  | _ => .int
abbrev wsJxfd54e0 : List Cond := u_ws RJxfd54e TJxfd54e 0
theorem nmJxfd54e : ∀ a, a < 0 → ∀ b, b < 0 → a ≠ b → (TJxfd54e a).2.1 ≠ (TJxfd54e b).2.1 := by decide +kernel
theorem tyJxfd54e_ok : ∀ k, k < 0 → parseFieldDescriptor (TJxfd54e k).2.2.1 = some (tyJxfd54e k) := by decide +kernel
def RJx3cf43 : String := "java/lang/constant/ConstantDesc"
def TJx3cf43 : u_T := fun k => match k with
  | _ => ("", "", "", false)
def tyJx3cf43 : Nat → FieldType := fun k => match k with
  | _ => .int
abbrev wsJx3cf430 : List Cond := u_ws RJx3cf43 TJx3cf43 0
theorem nmJx3cf43 : ∀ a, a < 0 → ∀ b, b < 0 → a ≠ b → (TJx3cf43 a).2.1 ≠ (TJx3cf43 b).2.1 := by decide +kernel
theorem tyJx3cf43_ok : ∀ k, k < 0 → parseFieldDescriptor (TJx3cf43 k).2.2.1 = some (tyJx3cf43 k) := by decide +kernel
def RJ7 : String := "java/util/Arrays"
def TJ7 : u_T := fun k => match k with
  | _ => ("", "", "", false)
def tyJ7 : Nat → FieldType := fun k => match k with
  | _ => .int
abbrev wsJ70 : List Cond := u_ws RJ7 TJ7 0
theorem nmJ7 : ∀ a, a < 0 → ∀ b, b < 0 → a ≠ b → (TJ7 a).2.1 ≠ (TJ7 b).2.1 := by decide +kernel
theorem tyJ7_ok : ∀ k, k < 0 → parseFieldDescriptor (TJ7 k).2.2.1 = some (tyJ7 k) := by decide +kernel
abbrev cJ7_fill_53178 : ByteArray := prog_20_method_103_code
def yJ7_fill_53178 : MethodName := ⟨RJ7, "fill", "([II)V"⟩
def RL : String := "FlipPolygonsLaw"
abbrev cL_begin : ByteArray := method_3_code
def yL_begin : MethodName := ⟨RL, "begin", "(LFlipPolygons;I[J)I"⟩
abbrev cL_flip : ByteArray := method_4_code
def yL_flip : MethodName := ⟨RL, "flip", "(LFlipPolygons;III[J)I"⟩
abbrev cL_fan : ByteArray := method_5_code
def yL_fan : MethodName := ⟨RL, "fan", "(LFlipPolygons;II[J)I"⟩
abbrev cL_turn : ByteArray := method_6_code
def yL_turn : MethodName := ⟨RL, "turn", "(LFlipPolygons;II[J)I"⟩
abbrev cL_mirror : ByteArray := method_7_code
def yL_mirror : MethodName := ⟨RL, "mirror", "(LFlipPolygons;I[J)I"⟩
abbrev cL_lock : ByteArray := method_8_code
def yL_lock : MethodName := ⟨RL, "lock", "(LFlipPolygons;IIZ[J)I"⟩
abbrev cL_walk : ByteArray := method_9_code
def yL_walk : MethodName := ⟨RL, "walk", "(LFlipPolygons;I[J)I"⟩
abbrev cL_append : ByteArray := method_10_code
def yL_append : MethodName := ⟨RL, "append", "(LFlipPolygons;I[J)I"⟩
abbrev cL_read : ByteArray := method_11_code
def yL_read : MethodName := ⟨RL, "read", "(LFlipPolygons;I[J)I"⟩
abbrev cL_take : ByteArray := method_12_code
def yL_take : MethodName := ⟨RL, "take", "(LFlipPolygons;I[J)I"⟩
abbrev cL_restore : ByteArray := method_13_code
def yL_restore : MethodName := ⟨RL, "restore", "(LFlipPolygons;I[J)I"⟩
abbrev cL_undo : ByteArray := method_14_code
def yL_undo : MethodName := ⟨RL, "undo", "(LFlipPolygons;[J)I"⟩
abbrev cL_number : ByteArray := method_15_code
def yL_number : MethodName := ⟨RL, "number", "(LFlipPolygons;II[J)I"⟩
abbrev cL_triangulation : ByteArray := method_16_code
def yL_triangulation : MethodName := ⟨RL, "triangulation", "(LFlipPolygons;II[J)I"⟩
abbrev cL_degree : ByteArray := method_17_code
def yL_degree : MethodName := ⟨RL, "degree", "(LFlipPolygons;II[J)I"⟩
abbrev cL_other : ByteArray := method_18_code
def yL_other : MethodName := ⟨RL, "other", "(LFlipPolygons;III[J)I"⟩
abbrev cL_whyNot : ByteArray := method_19_code
def yL_whyNot : MethodName := ⟨RL, "whyNot", "(LFlipPolygons;II[J)I"⟩
abbrev cL_distance : ByteArray := method_20_code
def yL_distance : MethodName := ⟨RL, "distance", "(LFlipPolygons;I[J)I"⟩
abbrev cL_ifFlipped : ByteArray := method_21_code
def yL_ifFlipped : MethodName := ⟨RL, "ifFlipped", "(LFlipPolygons;II[J)I"⟩
abbrev cL_count : ByteArray := method_22_code
def yL_count : MethodName := ⟨RL, "count", "(LFlipPolygons;I[J)I"⟩
abbrev cL_law : ByteArray := code
def yL_law : MethodName := ⟨RL, "law", "([I)Z"⟩
abbrev vwCl : List vw_C := [(RX0, TX0, 9), (RX1, TX1, 9), (RX2, TX2, 6), (RX3, TX3, 5), (RX4, TX4, 2), (RX5, TX5, 11), (RX6, TX6, 22)]
/-- all words of the tables that a callee may be handed -/
def zq_all : List Cond := lw_tbl.filter goodWord
theorem zq_all_ok {w : Cond} (h : w ∈ lw_tbl) (hg : goodWord w = true) : w ∈ zq_all := List.mem_filter.mpr ⟨h, hg⟩
theorem zq_in1 {i : Nat} {w : Cond} (h : tables_1_1[i]? = some w) (hg : goodWord w = true) : w ∈ zq_all := zq_all_ok (List.mem_append_right _ (List.mem_append_left _ (List.mem_of_getElem? h))) hg
theorem zq_in2 {i : Nat} {w : Cond} (h : tables_1_2[i]? = some w) (hg : goodWord w = true) : w ∈ zq_all := zq_all_ok (List.mem_append_right _ (List.mem_append_right _ (List.mem_append_left _ (List.mem_of_getElem? h)))) hg
theorem zq_in3 {i : Nat} {w : Cond} (h : tables_1_3[i]? = some w) (hg : goodWord w = true) : w ∈ zq_all := zq_all_ok (List.mem_append_right _ (List.mem_append_right _ (List.mem_append_right _ (List.mem_append_left _ (List.mem_of_getElem? h))))) hg
theorem zq_in4 {i : Nat} {w : Cond} (h : tables_1_4[i]? = some w) (hg : goodWord w = true) : w ∈ zq_all := zq_all_ok (List.mem_append_right _ (List.mem_append_right _ (List.mem_append_right _ (List.mem_append_right _ (List.mem_append_left _ (List.mem_of_getElem? h)))))) hg
theorem zq_in5 {i : Nat} {w : Cond} (h : tables_1_5[i]? = some w) (hg : goodWord w = true) : w ∈ zq_all := zq_all_ok (List.mem_append_right _ (List.mem_append_right _ (List.mem_append_right _ (List.mem_append_right _ (List.mem_append_right _ (List.mem_of_getElem? h)))))) hg
theorem zq_in0 {i : Nat} {w : Cond} (h : (k2_sels lw_privs)[i]? = some w) (hg : goodWord w = true) : w ∈ zq_all := zq_all_ok (List.mem_append_left _ (List.mem_of_getElem? h)) hg
theorem wd_0 : Cond.code yX0_slotsFor cX0_slotsFor 3 (some .int) ∈ zq_all := zq_in1 (i := 107) rfl rfl
theorem wd_1 : Cond.code yX0_init cX0_init 3 none ∈ zq_all := zq_in1 (i := 97) rfl rfl
theorem wd_2 : Cond.methodLink RX0 3 objectInit ∈ zq_all := zq_in1 (i := 98) rfl rfl
theorem wd_3 : Cond.instanceMethod objectInit ∈ zq_all := zq_in1 (i := 25) rfl rfl
theorem wd_4 : Cond.code objectInit ⟨#[0xb1]⟩ 1 none ∈ zq_all := zq_in1 (i := 26) rfl rfl
theorem wd_5 : Cond.fieldLink RX0 9 "FlipPolygons$FlipGraph" "polygon" "LFlipPolygons$Polygon;" ∈ zq_all := zq_in1 (i := 108) rfl rfl
theorem wd_6 : Cond.fieldLink RX0 25 "FlipPolygons$FlipGraph" "triangulations" "I" ∈ zq_all := zq_in1 (i := 111) rfl rfl
theorem wd_7 : Cond.fieldLink RX0 31 "FlipPolygons$FlipGraph" "classes" "I" ∈ zq_all := zq_in1 (i := 114) rfl rfl
theorem wd_8 : Cond.fieldLink RX0 37 "FlipPolygons$FlipGraph" "diameter" "I" ∈ zq_all := zq_in1 (i := 116) rfl rfl
theorem wd_9 : Cond.fieldLink RX0 40 "FlipPolygons$FlipGraph" "flipsOfEach" "I" ∈ zq_all := zq_in1 (i := 118) rfl rfl
theorem wd_10 : Cond.arrayClass .int ∈ zq_all := zq_in1 (i := 94) rfl rfl
theorem wd_11 : Cond.fieldLink RX0 43 "FlipPolygons$FlipGraph" "masks" "[I" ∈ zq_all := zq_in1 (i := 120) rfl rfl
theorem wd_12 : Cond.fieldLink RX0 46 "FlipPolygons$FlipGraph" "neighbors" "[I" ∈ zq_all := zq_in1 (i := 122) rfl rfl
theorem wd_13 : Cond.fieldLink RX0 53 "FlipPolygons$FlipGraph" "slots" "[I" ∈ zq_all := zq_in1 (i := 123) rfl rfl
theorem wd_14 : Cond.methodLink RX0 49 yX0_slotsFor ∈ zq_all := zq_in1 (i := 105) rfl rfl
theorem wd_15 : Cond.static yX0_slotsFor ∈ zq_all := zq_in1 (i := 106) rfl rfl
theorem wd_16 : Cond.initialized RX0 ∈ zq_all := zq_in1 (i := 2) rfl rfl
theorem wd_17 : Cond.code yX1_isCorner cX1_isCorner 2 (some .boolean) ∈ zq_all := zq_in1 (i := 58) rfl rfl
theorem wd_18 : Cond.fieldLink RX1 9 "FlipPolygons$Polygon" "corners" "I" ∈ zq_all := zq_in1 (i := 59) rfl rfl
theorem wd_19 : Cond.code yX1_fanOf cX1_fanOf 2 (some .int) ∈ zq_all := zq_in1 (i := 154) rfl rfl
theorem wd_20 : Cond.fieldLink RX1 28 "FlipPolygons$Polygon" "fans" "[I" ∈ zq_all := zq_in1 (i := 70) rfl rfl
theorem wd_21 : Cond.methodLink RX1 59 yX1_isCorner ∈ zq_all := zq_in1 (i := 55) rfl rfl
theorem wd_22 : Cond.instanceMethod yX1_isCorner ∈ zq_all := zq_in1 (i := 56) rfl rfl
theorem wd_23 : Cond.selects RX1 yX1_isCorner yX1_isCorner ∈ zq_all := zq_in1 (i := 57) rfl rfl
theorem wd_24 : Cond.initialized RX1 ∈ zq_all := zq_in1 (i := 3) rfl rfl
theorem wd_25 : Cond.code yX0_slotOf cX0_slotOf 5 (some .int) ∈ zq_all := zq_in1 (i := 162) rfl rfl
theorem wd_26 : Cond.constant RX0 77 (-1640531535) ∈ zq_all := zq_in1 (i := 163) rfl rfl
theorem wd_27 : Cond.code yX0_indexOrNew cX0_indexOrNew 3 (some .int) ∈ zq_all := zq_in1 (i := 158) rfl rfl
theorem wd_28 : Cond.fieldLink RX0 56 "FlipPolygons$FlipGraph" "found" "I" ∈ zq_all := zq_in1 (i := 124) rfl rfl
theorem wd_29 : Cond.methodLink RX0 74 yX0_slotOf ∈ zq_all := zq_in1 (i := 159) rfl rfl
theorem wd_30 : Cond.instanceMethod yX0_slotOf ∈ zq_all := zq_in1 (i := 161) rfl rfl
theorem wd_31 : Cond.selects RX0 yX0_slotOf yX0_slotOf ∈ zq_all := zq_in0 (i := 4) rfl rfl
theorem wd_32 : Cond.code yJ6_bitCount_0f7a4 cJ6_bitCount_0f7a4 1 (some .int) ∈ zq_all := zq_in1 (i := 166) rfl rfl
theorem wd_33 : Cond.constant RJ6 265 (1431655765) ∈ zq_all := zq_in1 (i := 167) rfl rfl
theorem wd_34 : Cond.constant RJ6 266 (858993459) ∈ zq_all := zq_in1 (i := 168) rfl rfl
theorem wd_35 : Cond.constant RJ6 267 (252645135) ∈ zq_all := zq_in1 (i := 169) rfl rfl
theorem wd_36 : Cond.code yX1_otherOf cX1_otherOf 5 (some .int) ∈ zq_all := zq_in1 (i := 177) rfl rfl
theorem wd_37 : Cond.fieldLink RX1 15 "FlipPolygons$Polygon" "diagonals" "I" ∈ zq_all := zq_in1 (i := 63) rfl rfl
theorem wd_38 : Cond.fieldLink RX1 31 "FlipPolygons$Polygon" "crossing" "[I" ∈ zq_all := zq_in1 (i := 71) rfl rfl
theorem wd_39 : Cond.code yX1_flipped cX1_flipped 4 (some .int) ∈ zq_all := zq_in1 (i := 173) rfl rfl
theorem wd_40 : Cond.methodLink RX1 72 yX1_otherOf ∈ zq_all := zq_in1 (i := 174) rfl rfl
theorem wd_41 : Cond.instanceMethod yX1_otherOf ∈ zq_all := zq_in1 (i := 175) rfl rfl
theorem wd_42 : Cond.selects RX1 yX1_otherOf yX1_otherOf ∈ zq_all := zq_in1 (i := 176) rfl rfl
theorem wd_43 : Cond.methodLink RX0 59 yX1_fanOf ∈ zq_all := zq_in1 (i := 151) rfl rfl
theorem wd_44 : Cond.instanceMethod yX1_fanOf ∈ zq_all := zq_in1 (i := 152) rfl rfl
theorem wd_45 : Cond.selects RX1 yX1_fanOf yX1_fanOf ∈ zq_all := zq_in1 (i := 153) rfl rfl
theorem wd_46 : Cond.methodLink RX0 62 yX0_indexOrNew ∈ zq_all := zq_in1 (i := 155) rfl rfl
theorem wd_47 : Cond.instanceMethod yX0_indexOrNew ∈ zq_all := zq_in1 (i := 157) rfl rfl
theorem wd_48 : Cond.selects RX0 yX0_indexOrNew yX0_indexOrNew ∈ zq_all := zq_in0 (i := 3) rfl rfl
theorem wd_49 : Cond.methodLink RX0 65 yJ6_bitCount_0f7a4 ∈ zq_all := zq_in1 (i := 164) rfl rfl
theorem wd_50 : Cond.static yJ6_bitCount_0f7a4 ∈ zq_all := zq_in1 (i := 165) rfl rfl
theorem wd_51 : Cond.initialized RJ6 ∈ zq_all := zq_in1 (i := 6) rfl rfl
theorem wd_52 : Cond.methodLink RX0 70 yX1_flipped ∈ zq_all := zq_in1 (i := 170) rfl rfl
theorem wd_53 : Cond.instanceMethod yX1_flipped ∈ zq_all := zq_in1 (i := 171) rfl rfl
theorem wd_54 : Cond.selects RX1 yX1_flipped yX1_flipped ∈ zq_all := zq_in1 (i := 172) rfl rfl
theorem wd_55 : Cond.code yX0_build cX0_build 5 none ∈ zq_all := zq_in1 (i := 150) rfl rfl
theorem wd_56 : Cond.code yX0_neighborOf cX0_neighborOf 3 (some .int) ∈ zq_all := zq_in2 (i := 123) rfl rfl
theorem wd_57 : Cond.code yX0_indexOf cX0_indexOf 2 (some .int) ∈ zq_all := zq_in2 (i := 115) rfl rfl
theorem wd_58 : Cond.code yJ7_fill_53178 cJ7_fill_53178 4 none ∈ zq_all := zq_in1 (i := 42) rfl rfl
theorem wd_59 : Cond.code yX1_nameDiagonals cX1_nameDiagonals 4 none ∈ zq_all := zq_in1 (i := 39) rfl rfl
theorem wd_60 : Cond.fieldLink RX1 25 "FlipPolygons$Polygon" "numbers" "[I" ∈ zq_all := zq_in1 (i := 69) rfl rfl
theorem wd_61 : Cond.fieldLink RX1 18 "FlipPolygons$Polygon" "lesser" "[I" ∈ zq_all := zq_in1 (i := 65) rfl rfl
theorem wd_62 : Cond.fieldLink RX1 22 "FlipPolygons$Polygon" "greater" "[I" ∈ zq_all := zq_in1 (i := 67) rfl rfl
theorem wd_63 : Cond.methodLink RX1 49 yJ7_fill_53178 ∈ zq_all := zq_in1 (i := 40) rfl rfl
theorem wd_64 : Cond.static yJ7_fill_53178 ∈ zq_all := zq_in1 (i := 41) rfl rfl
theorem wd_65 : Cond.initialized RJ7 ∈ zq_all := zq_in1 (i := 4) rfl rfl
theorem wd_66 : Cond.code yX1_findCrossings cX1_findCrossings 4 none ∈ zq_all := zq_in1 (i := 46) rfl rfl
theorem wd_67 : Cond.code yX1_numberOf cX1_numberOf 3 (some .int) ∈ zq_all := zq_in1 (i := 54) rfl rfl
theorem wd_68 : Cond.code yX1_findImages cX1_findImages 4 none ∈ zq_all := zq_in1 (i := 50) rfl rfl
theorem wd_69 : Cond.fieldLink RX1 34 "FlipPolygons$Polygon" "afterTurn" "[I" ∈ zq_all := zq_in1 (i := 73) rfl rfl
theorem wd_70 : Cond.fieldLink RX1 37 "FlipPolygons$Polygon" "afterMirror" "[I" ∈ zq_all := zq_in1 (i := 74) rfl rfl
theorem wd_71 : Cond.methodLink RX1 55 yX1_numberOf ∈ zq_all := zq_in1 (i := 51) rfl rfl
theorem wd_72 : Cond.instanceMethod yX1_numberOf ∈ zq_all := zq_in1 (i := 52) rfl rfl
theorem wd_73 : Cond.selects RX1 yX1_numberOf yX1_numberOf ∈ zq_all := zq_in1 (i := 53) rfl rfl
theorem wd_74 : Cond.methodLink RX1 3 objectInit ∈ zq_all := zq_in1 (i := 35) rfl rfl
theorem wd_75 : Cond.methodLink RX1 40 yX1_nameDiagonals ∈ zq_all := zq_in1 (i := 36) rfl rfl
theorem wd_76 : Cond.instanceMethod yX1_nameDiagonals ∈ zq_all := zq_in1 (i := 38) rfl rfl
theorem wd_77 : Cond.selects RX1 yX1_nameDiagonals yX1_nameDiagonals ∈ zq_all := zq_in0 (i := 0) rfl rfl
theorem wd_78 : Cond.methodLink RX1 43 yX1_findCrossings ∈ zq_all := zq_in1 (i := 43) rfl rfl
theorem wd_79 : Cond.instanceMethod yX1_findCrossings ∈ zq_all := zq_in1 (i := 45) rfl rfl
theorem wd_80 : Cond.selects RX1 yX1_findCrossings yX1_findCrossings ∈ zq_all := zq_in0 (i := 1) rfl rfl
theorem wd_81 : Cond.methodLink RX1 46 yX1_findImages ∈ zq_all := zq_in1 (i := 47) rfl rfl
theorem wd_82 : Cond.instanceMethod yX1_findImages ∈ zq_all := zq_in1 (i := 49) rfl rfl
theorem wd_83 : Cond.selects RX1 yX1_findImages yX1_findImages ∈ zq_all := zq_in0 (i := 2) rfl rfl
theorem wd_84 : Cond.code yX1_init cX1_init 2 none ∈ zq_all := zq_in1 (i := 34) rfl rfl
theorem wd_85 : Cond.code yX1_degreeIn cX1_degreeIn 3 (some .int) ∈ zq_all := zq_in2 (i := 183) rfl rfl
theorem wd_86 : Cond.methodLink RX1 63 yX1_fanOf ∈ zq_all := zq_in2 (i := 184) rfl rfl
theorem wd_87 : Cond.methodLink RX1 67 yJ6_bitCount_0f7a4 ∈ zq_all := zq_in2 (i := 185) rfl rfl
theorem wd_88 : Cond.code yX5_isIn cX5_isIn 2 (some .boolean) ∈ zq_all := zq_in2 (i := 168) rfl rfl
theorem wd_89 : Cond.code yX1_moved cX1_moved 4 (some .int) ∈ zq_all := zq_in2 (i := 165) rfl rfl
theorem wd_90 : Cond.static yX5_isIn ∈ zq_all := zq_in2 (i := 167) rfl rfl
theorem wd_91 : Cond.initialized RX5 ∈ zq_all := zq_in1 (i := 1) rfl rfl
theorem wd_92 : Cond.code yX1_turnedBy cX1_turnedBy 5 (some .int) ∈ zq_all := zq_in3 (i := 193) rfl rfl
theorem wd_93 : Cond.methodLink RX1 75 yX1_moved ∈ zq_all := zq_in2 (i := 163) rfl rfl
theorem wd_94 : Cond.static yX1_moved ∈ zq_all := zq_in2 (i := 164) rfl rfl
theorem wd_95 : Cond.code yX1_mirrored cX1_mirrored 2 (some .int) ∈ zq_all := zq_in2 (i := 162) rfl rfl
theorem wd_96 : Cond.code yX1_nextImage cX1_nextImage 3 (some .int) ∈ zq_all := zq_in2 (i := 158) rfl rfl
theorem wd_97 : Cond.methodLink RX1 91 yX1_mirrored ∈ zq_all := zq_in2 (i := 159) rfl rfl
theorem wd_98 : Cond.instanceMethod yX1_mirrored ∈ zq_all := zq_in2 (i := 160) rfl rfl
theorem wd_99 : Cond.selects RX1 yX1_mirrored yX1_mirrored ∈ zq_all := zq_in2 (i := 161) rfl rfl
theorem wd_100 : Cond.code yX1_leastImage cX1_leastImage 5 (some .int) ∈ zq_all := zq_in2 (i := 154) rfl rfl
theorem wd_101 : Cond.methodLink RX1 86 Lib.Math.min.name ∈ zq_all := zq_in2 (i := 169) rfl rfl
theorem wd_102 : Cond.static Lib.Math.min.name ∈ zq_all := zq_in2 (i := 170) rfl rfl
theorem wd_103 : Cond.initialized "java/lang/Math" ∈ zq_all := zq_in1 (i := 17) rfl rfl
theorem wd_104 : Cond.code Lib.Math.min.name Lib.Math.min.code 2 (some .int) ∈ zq_all := zq_in2 (i := 171) rfl rfl
theorem wd_105 : Cond.methodLink RX1 83 yX1_nextImage ∈ zq_all := zq_in2 (i := 155) rfl rfl
theorem wd_106 : Cond.instanceMethod yX1_nextImage ∈ zq_all := zq_in2 (i := 157) rfl rfl
theorem wd_107 : Cond.selects RX1 yX1_nextImage yX1_nextImage ∈ zq_all := zq_in0 (i := 16) rfl rfl
theorem wd_108 : Cond.code yX1_symmetries cX1_symmetries 5 (some .int) ∈ zq_all := zq_in2 (i := 175) rfl rfl
theorem wd_109 : Cond.code yX1_ears cX1_ears 4 (some .int) ∈ zq_all := zq_in2 (i := 179) rfl rfl
theorem wd_110 : Cond.methodLink RX1 94 yX1_degreeIn ∈ zq_all := zq_in2 (i := 180) rfl rfl
theorem wd_111 : Cond.instanceMethod yX1_degreeIn ∈ zq_all := zq_in2 (i := 181) rfl rfl
theorem wd_112 : Cond.selects RX1 yX1_degreeIn yX1_degreeIn ∈ zq_all := zq_in2 (i := 182) rfl rfl
theorem wd_113 : Cond.methodLink RX1 97 Lib.Math.max.name ∈ zq_all := zq_in2 (i := 190) rfl rfl
theorem wd_114 : Cond.static Lib.Math.max.name ∈ zq_all := zq_in2 (i := 191) rfl rfl
theorem wd_115 : Cond.code Lib.Math.max.name Lib.Math.max.code 2 (some .int) ∈ zq_all := zq_in2 (i := 192) rfl rfl
theorem wd_116 : Cond.code yX1_greatestDegree cX1_greatestDegree 4 (some .int) ∈ zq_all := zq_in2 (i := 189) rfl rfl
theorem wd_117 : Cond.code yX1_maskInPart cX1_maskInPart 10 (some .int) ∈ zq_all := zq_in3 (i := 0) rfl rfl
theorem wd_118 : Cond.code yX2_init cX2_init 2 none ∈ zq_all := zq_in1 (i := 229) rfl rfl
theorem wd_119 : Cond.methodLink RX2 3 objectInit ∈ zq_all := zq_in1 (i := 230) rfl rfl
theorem wd_120 : Cond.fieldLink RX2 9 "FlipPolygons$Reach" "flips" "[I" ∈ zq_all := zq_in1 (i := 231) rfl rfl
theorem wd_121 : Cond.fieldLink RX2 15 "FlipPolygons$Reach" "ways" "[I" ∈ zq_all := zq_in1 (i := 232) rfl rfl
theorem wd_122 : Cond.fieldLink RX2 18 "FlipPolygons$Reach" "queue" "[I" ∈ zq_all := zq_in1 (i := 233) rfl rfl
theorem wd_123 : Cond.fieldLink RX2 21 "FlipPolygons$Reach" "graph" "LFlipPolygons$FlipGraph;" ∈ zq_all := zq_in1 (i := 234) rfl rfl
theorem wd_124 : Cond.fieldLink RX2 25 "FlipPolygons$Reach" "source" "I" ∈ zq_all := zq_in1 (i := 235) rfl rfl
theorem wd_125 : Cond.code yX2_spreadOn cX2_spreadOn 8 (some .int) ∈ zq_all := zq_in2 (i := 119) rfl rfl
theorem wd_126 : Cond.fieldLink RX2 29 "FlipPolygons$Reach" "barred" "I" ∈ zq_all := zq_in1 (i := 236) rfl rfl
theorem wd_127 : Cond.methodLink RX2 54 yX0_neighborOf ∈ zq_all := zq_in2 (i := 120) rfl rfl
theorem wd_128 : Cond.instanceMethod yX0_neighborOf ∈ zq_all := zq_in2 (i := 121) rfl rfl
theorem wd_129 : Cond.selects RX0 yX0_neighborOf yX0_neighborOf ∈ zq_all := zq_in2 (i := 122) rfl rfl
theorem wd_130 : Cond.methodLink RX2 32 yJ7_fill_53178 ∈ zq_all := zq_in2 (i := 111) rfl rfl
theorem wd_131 : Cond.methodLink RX2 38 yX0_indexOf ∈ zq_all := zq_in2 (i := 112) rfl rfl
theorem wd_132 : Cond.instanceMethod yX0_indexOf ∈ zq_all := zq_in2 (i := 113) rfl rfl
theorem wd_133 : Cond.selects RX0 yX0_indexOf yX0_indexOf ∈ zq_all := zq_in2 (i := 114) rfl rfl
theorem wd_134 : Cond.methodLink RX2 44 yX2_spreadOn ∈ zq_all := zq_in2 (i := 116) rfl rfl
theorem wd_135 : Cond.instanceMethod yX2_spreadOn ∈ zq_all := zq_in2 (i := 118) rfl rfl
theorem wd_136 : Cond.selects RX2 yX2_spreadOn yX2_spreadOn ∈ zq_all := zq_in0 (i := 11) rfl rfl
theorem wd_137 : Cond.initialized RX2 ∈ zq_all := zq_in1 (i := 9) rfl rfl
theorem wd_138 : Cond.code yX2_measure cX2_measure 7 none ∈ zq_all := zq_in2 (i := 110) rfl rfl
theorem wd_139 : Cond.code yX2_flipsTo cX2_flipsTo 3 (some .int) ∈ zq_all := zq_in2 (i := 127) rfl rfl
theorem wd_140 : Cond.code yX2_waysTo cX2_waysTo 3 (some .int) ∈ zq_all := zq_in3 (i := 8) rfl rfl
theorem wd_141 : Cond.code yX2_farthest cX2_farthest 3 (some .int) ∈ zq_all := zq_in2 (i := 196) rfl rfl
theorem wd_142 : Cond.methodLink RX2 60 Lib.Math.max.name ∈ zq_all := zq_in2 (i := 197) rfl rfl
theorem wd_143 : Cond.code yX2_leastFarthest cX2_leastFarthest 4 (some .int) ∈ zq_all := zq_in2 (i := 201) rfl rfl
theorem wd_144 : Cond.methodLink RX2 65 yX2_farthest ∈ zq_all := zq_in2 (i := 202) rfl rfl
theorem wd_145 : Cond.instanceMethod yX2_farthest ∈ zq_all := zq_in2 (i := 194) rfl rfl
theorem wd_146 : Cond.selects RX2 yX2_farthest yX2_farthest ∈ zq_all := zq_in2 (i := 195) rfl rfl
theorem wd_147 : Cond.code yX3_init cX3_init 1 none ∈ zq_all := zq_in1 (i := 182) rfl rfl
theorem wd_148 : Cond.methodLink RX3 3 objectInit ∈ zq_all := zq_in1 (i := 183) rfl rfl
theorem wd_149 : Cond.code yX3_startWith cX3_startWith 2 none ∈ zq_all := zq_in1 (i := 208) rfl rfl
theorem wd_150 : Cond.fieldLink RX3 9 "FlipPolygons$State" "graph" "LFlipPolygons$FlipGraph;" ∈ zq_all := zq_in1 (i := 184) rfl rfl
theorem wd_151 : Cond.fieldLink RX3 27 "FlipPolygons$State" "present" "I" ∈ zq_all := zq_in1 (i := 186) rfl rfl
theorem wd_152 : Cond.fieldLink RX3 31 "FlipPolygons$State" "goal" "I" ∈ zq_all := zq_in1 (i := 188) rfl rfl
theorem wd_153 : Cond.fieldLink RX3 34 "FlipPolygons$State" "locks" "I" ∈ zq_all := zq_in1 (i := 190) rfl rfl
theorem wd_154 : Cond.methodLink RX3 21 yX1_fanOf ∈ zq_all := zq_in1 (i := 209) rfl rfl
theorem wd_155 : Cond.code yX3_copy cX3_copy 2 none ∈ zq_all := zq_in2 (i := 55) rfl rfl
theorem wd_156 : Cond.fieldLink RX3 37 "FlipPolygons$State" "flips" "I" ∈ zq_all := zq_in1 (i := 192) rfl rfl
theorem wd_157 : Cond.code yX3_mask cX3_mask 2 (some .int) ∈ zq_all := zq_in2 (i := 106) rfl rfl
theorem wd_158 : Cond.code yX3_put cX3_put 3 none ∈ zq_all := zq_in3 (i := 166) rfl rfl
theorem wd_159 : Cond.code yX4_init cX4_init 1 none ∈ zq_all := zq_in1 (i := 215) rfl rfl
theorem wd_160 : Cond.methodLink RX4 3 objectInit ∈ zq_all := zq_in1 (i := 216) rfl rfl
theorem wd_161 : Cond.fieldLink RX4 11 "FlipPolygons$Text" "codes" "[I" ∈ zq_all := zq_in1 (i := 217) rfl rfl
theorem wd_162 : Cond.code yX4_isFull cX4_isFull 1 (some .boolean) ∈ zq_all := zq_in3 (i := 231) rfl rfl
theorem wd_163 : Cond.fieldLink RX4 15 "FlipPolygons$Text" "length" "I" ∈ zq_all := zq_in1 (i := 218) rfl rfl
theorem wd_164 : Cond.code yX4_add cX4_add 2 none ∈ zq_all := zq_in3 (i := 236) rfl rfl
theorem wd_165 : Cond.code yX4_clear cX4_clear 1 none ∈ zq_all := zq_in2 (i := 63) rfl rfl
theorem wd_166 : Cond.code yX4_fullLength cX4_fullLength 1 (some .int) ∈ zq_all := zq_in2 (i := 74) rfl rfl
theorem wd_167 : Cond.code yX4_cornerAt cX4_cornerAt 2 (some .int) ∈ zq_all := zq_in2 (i := 82) rfl rfl
theorem wd_168 : Cond.code yX4_beginsDiagonal cX4_beginsDiagonal 2 (some .boolean) ∈ zq_all := zq_in2 (i := 85) rfl rfl
theorem wd_169 : Cond.code yX4_fits cX4_fits 3 (some .boolean) ∈ zq_all := zq_in2 (i := 78) rfl rfl
theorem wd_170 : Cond.methodLink RX4 32 yX4_cornerAt ∈ zq_all := zq_in2 (i := 79) rfl rfl
theorem wd_171 : Cond.instanceMethod yX4_cornerAt ∈ zq_all := zq_in2 (i := 81) rfl rfl
theorem wd_172 : Cond.selects RX4 yX4_cornerAt yX4_cornerAt ∈ zq_all := zq_in0 (i := 7) rfl rfl
theorem wd_173 : Cond.initialized RX4 ∈ zq_all := zq_in1 (i := 8) rfl rfl
theorem wd_174 : Cond.methodLink RX4 36 yX4_beginsDiagonal ∈ zq_all := zq_in2 (i := 83) rfl rfl
theorem wd_175 : Cond.static yX4_beginsDiagonal ∈ zq_all := zq_in2 (i := 84) rfl rfl
theorem wd_176 : Cond.methodLink RX4 39 yX1_numberOf ∈ zq_all := zq_in2 (i := 86) rfl rfl
theorem wd_177 : Cond.methodLink RX4 24 yX4_fullLength ∈ zq_all := zq_in2 (i := 72) rfl rfl
theorem wd_178 : Cond.static yX4_fullLength ∈ zq_all := zq_in2 (i := 73) rfl rfl
theorem wd_179 : Cond.methodLink RX4 28 yX4_fits ∈ zq_all := zq_in2 (i := 75) rfl rfl
theorem wd_180 : Cond.instanceMethod yX4_fits ∈ zq_all := zq_in2 (i := 77) rfl rfl
theorem wd_181 : Cond.selects RX4 yX4_fits yX4_fits ∈ zq_all := zq_in0 (i := 6) rfl rfl
theorem wd_182 : Cond.code yX4_firstWrong cX4_firstWrong 4 (some .int) ∈ zq_all := zq_in2 (i := 71) rfl rfl
theorem wd_183 : Cond.methodLink RX4 43 yX4_firstWrong ∈ zq_all := zq_in4 (i := 8) rfl rfl
theorem wd_184 : Cond.instanceMethod yX4_firstWrong ∈ zq_all := zq_in2 (i := 69) rfl rfl
theorem wd_185 : Cond.selects RX4 yX4_firstWrong yX4_firstWrong ∈ zq_all := zq_in2 (i := 70) rfl rfl
theorem wd_186 : Cond.code yX4_isComplete cX4_isComplete 2 (some .boolean) ∈ zq_all := zq_in4 (i := 7) rfl rfl
theorem wd_187 : Cond.code yX4_maskIn cX4_maskIn 5 (some .int) ∈ zq_all := zq_in4 (i := 13) rfl rfl
theorem wd_188 : Cond.code yX4_mixInto cX4_mixInto 6 (some .long) ∈ zq_all := zq_in3 (i := 36) rfl rfl
theorem wd_189 : Cond.constantLong RX4 53 (31) ∈ zq_all := zq_in3 (i := 37) rfl rfl
theorem wd_190 : Cond.methodLink RX5 275 yX0_build ∈ zq_all := zq_in1 (i := 147) rfl rfl
theorem wd_191 : Cond.instanceMethod yX0_build ∈ zq_all := zq_in1 (i := 148) rfl rfl
theorem wd_192 : Cond.selects RX0 yX0_build yX0_build ∈ zq_all := zq_in1 (i := 149) rfl rfl
theorem wd_193 : Cond.code yX5_buildUpTo cX5_buildUpTo 3 none ∈ zq_all := zq_in1 (i := 146) rfl rfl
theorem wd_194 : Cond.methodLink RX5 1 objectInit ∈ zq_all := zq_in1 (i := 24) rfl rfl
theorem wd_195 : Cond.classLink RX5 9 RX0 ∈ zq_all := zq_in1 (i := 27) rfl rfl
theorem wd_196 : Cond.fieldLink RX5 11 "FlipPolygons" "graphs" "[LFlipPolygons$FlipGraph;" ∈ zq_all := zq_in2 (i := 10) rfl rfl
theorem wd_197 : Cond.instantiable RX0 9 ∈ zq_all := zq_in1 (i := 29) rfl rfl
theorem wd_198 : Cond.classLink RX5 15 RX1 ∈ zq_all := zq_in1 (i := 30) rfl rfl
theorem wd_199 : Cond.instantiable RX1 9 ∈ zq_all := zq_in1 (i := 31) rfl rfl
theorem wd_200 : Cond.classLink RX5 27 RX3 ∈ zq_all := zq_in1 (i := 178) rfl rfl
theorem wd_201 : Cond.instantiable RX3 5 ∈ zq_all := zq_in1 (i := 179) rfl rfl
theorem wd_202 : Cond.initialized RX3 ∈ zq_all := zq_in1 (i := 7) rfl rfl
theorem wd_203 : Cond.fieldLink RX5 30 "FlipPolygons" "now" "LFlipPolygons$State;" ∈ zq_all := zq_in2 (i := 11) rfl rfl
theorem wd_204 : Cond.fieldLink RX5 38 "FlipPolygons" "saved" "[LFlipPolygons$State;" ∈ zq_all := zq_in2 (i := 12) rfl rfl
theorem wd_205 : Cond.fieldLink RX5 42 "FlipPolygons" "snapshots" "[LFlipPolygons$State;" ∈ zq_all := zq_in2 (i := 14) rfl rfl
theorem wd_206 : Cond.classLink RX5 45 RX4 ∈ zq_all := zq_in1 (i := 211) rfl rfl
theorem wd_207 : Cond.instantiable RX4 2 ∈ zq_all := zq_in1 (i := 212) rfl rfl
theorem wd_208 : Cond.fieldLink RX5 48 "FlipPolygons" "text" "LFlipPolygons$Text;" ∈ zq_all := zq_in2 (i := 15) rfl rfl
theorem wd_209 : Cond.classLink RX5 52 RX2 ∈ zq_all := zq_in1 (i := 225) rfl rfl
theorem wd_210 : Cond.instantiable RX2 6 ∈ zq_all := zq_in1 (i := 226) rfl rfl
theorem wd_211 : Cond.fieldLink RX5 56 "FlipPolygons" "fromPresent" "LFlipPolygons$Reach;" ∈ zq_all := zq_in2 (i := 16) rfl rfl
theorem wd_212 : Cond.fieldLink RX5 60 "FlipPolygons" "fromGoal" "LFlipPolygons$Reach;" ∈ zq_all := zq_in2 (i := 17) rfl rfl
theorem wd_213 : Cond.fieldLink RX5 63 "FlipPolygons" "fromGoalWithLocks" "LFlipPolygons$Reach;" ∈ zq_all := zq_in2 (i := 18) rfl rfl
theorem wd_214 : Cond.fieldLink RX5 66 "FlipPolygons" "fromPart" "LFlipPolygons$Reach;" ∈ zq_all := zq_in2 (i := 19) rfl rfl
theorem wd_215 : Cond.fieldLink RX5 69 "FlipPolygons" "parts" "[I" ∈ zq_all := zq_in2 (i := 20) rfl rfl
theorem wd_216 : Cond.methodLink RX5 17 yX1_init ∈ zq_all := zq_in1 (i := 32) rfl rfl
theorem wd_217 : Cond.instanceMethod yX1_init ∈ zq_all := zq_in1 (i := 33) rfl rfl
theorem wd_218 : Cond.methodLink RX5 20 yX0_init ∈ zq_all := zq_in1 (i := 95) rfl rfl
theorem wd_219 : Cond.instanceMethod yX0_init ∈ zq_all := zq_in1 (i := 96) rfl rfl
theorem wd_220 : Cond.methodLink RX5 23 yX5_buildUpTo ∈ zq_all := zq_in1 (i := 144) rfl rfl
theorem wd_221 : Cond.static yX5_buildUpTo ∈ zq_all := zq_in1 (i := 145) rfl rfl
theorem wd_222 : Cond.instanceMethod yX3_init ∈ zq_all := zq_in1 (i := 181) rfl rfl
theorem wd_223 : Cond.methodLink RX5 34 yX3_startWith ∈ zq_all := zq_in1 (i := 205) rfl rfl
theorem wd_224 : Cond.instanceMethod yX3_startWith ∈ zq_all := zq_in1 (i := 206) rfl rfl
theorem wd_225 : Cond.selects RX3 yX3_startWith yX3_startWith ∈ zq_all := zq_in1 (i := 207) rfl rfl
theorem wd_226 : Cond.methodLink RX5 47 yX4_init ∈ zq_all := zq_in1 (i := 213) rfl rfl
theorem wd_227 : Cond.instanceMethod yX4_init ∈ zq_all := zq_in1 (i := 214) rfl rfl
theorem wd_228 : Cond.methodLink RX5 54 yX2_init ∈ zq_all := zq_in1 (i := 227) rfl rfl
theorem wd_229 : Cond.instanceMethod yX2_init ∈ zq_all := zq_in1 (i := 228) rfl rfl
theorem wd_230 : Cond.code yX5_init cX5_init 3 none ∈ zq_all := zq_in1 (i := 23) rfl rfl
theorem wd_231 : Cond.code yX5_saveState cX5_saveState 2 none ∈ zq_all := zq_in2 (i := 51) rfl rfl
theorem wd_232 : Cond.fieldLink RX5 224 "FlipPolygons" "savedStates" "I" ∈ zq_all := zq_in2 (i := 13) rfl rfl
theorem wd_233 : Cond.methodLink RX5 215 yX3_copy ∈ zq_all := zq_in2 (i := 52) rfl rfl
theorem wd_234 : Cond.instanceMethod yX3_copy ∈ zq_all := zq_in2 (i := 53) rfl rfl
theorem wd_235 : Cond.selects RX3 yX3_copy yX3_copy ∈ zq_all := zq_in2 (i := 54) rfl rfl
theorem wd_236 : Cond.classLink RX5 73 "java/lang/IllegalArgumentException" ∈ zq_all := zq_in3 (i := 46) rfl rfl
theorem wd_237 : Cond.initialized "java/lang/IllegalArgumentException" ∈ zq_all := zq_in1 (i := 14) rfl rfl
theorem wd_238 : Cond.methodLink RX5 80 yX5_saveState ∈ zq_all := zq_in2 (i := 48) rfl rfl
theorem wd_239 : Cond.instanceMethod yX5_saveState ∈ zq_all := zq_in2 (i := 50) rfl rfl
theorem wd_240 : Cond.selects RX5 yX5_saveState yX5_saveState ∈ zq_all := zq_in0 (i := 5) rfl rfl
theorem wd_241 : Cond.code yX5_begin cX5_begin 4 (some .int) ∈ zq_all := zq_in3 (i := 45) rfl rfl
theorem wd_242 : Cond.code yX5_isWhich cX5_isWhich 1 (some .boolean) ∈ zq_all := zq_in3 (i := 126) rfl rfl
theorem wd_243 : Cond.code yX5_makeFlip cX5_makeFlip 5 (some .int) ∈ zq_all := zq_in3 (i := 162) rfl rfl
theorem wd_244 : Cond.methodLink RX5 108 yX3_mask ∈ zq_all := zq_in2 (i := 103) rfl rfl
theorem wd_245 : Cond.instanceMethod yX3_mask ∈ zq_all := zq_in2 (i := 104) rfl rfl
theorem wd_246 : Cond.selects RX3 yX3_mask yX3_mask ∈ zq_all := zq_in2 (i := 105) rfl rfl
theorem wd_247 : Cond.methodLink RX5 237 yX1_otherOf ∈ zq_all := zq_in3 (i := 18) rfl rfl
theorem wd_248 : Cond.methodLink RX5 278 yX1_flipped ∈ zq_all := zq_in3 (i := 13) rfl rfl
theorem wd_249 : Cond.methodLink RX5 151 yX3_put ∈ zq_all := zq_in3 (i := 163) rfl rfl
theorem wd_250 : Cond.instanceMethod yX3_put ∈ zq_all := zq_in3 (i := 164) rfl rfl
theorem wd_251 : Cond.selects RX3 yX3_put yX3_put ∈ zq_all := zq_in3 (i := 165) rfl rfl
theorem wd_252 : Cond.classLink RX5 103 "java/lang/IndexOutOfBoundsException" ∈ zq_all := zq_in3 (i := 127) rfl rfl
theorem wd_253 : Cond.initialized "java/lang/IndexOutOfBoundsException" ∈ zq_all := zq_in1 (i := 15) rfl rfl
theorem wd_254 : Cond.classLink RX5 119 "java/lang/IllegalStateException" ∈ zq_all := zq_in3 (i := 143) rfl rfl
theorem wd_255 : Cond.initialized "java/lang/IllegalStateException" ∈ zq_all := zq_in1 (i := 16) rfl rfl
theorem wd_256 : Cond.methodLink RX5 95 yX1_numberOf ∈ zq_all := zq_in3 (i := 123) rfl rfl
theorem wd_257 : Cond.methodLink RX5 99 yX5_isWhich ∈ zq_all := zq_in3 (i := 124) rfl rfl
theorem wd_258 : Cond.static yX5_isWhich ∈ zq_all := zq_in3 (i := 125) rfl rfl
theorem wd_259 : Cond.methodLink RX5 112 yX5_isIn ∈ zq_all := zq_in2 (i := 228) rfl rfl
theorem wd_260 : Cond.methodLink RX5 124 yX5_makeFlip ∈ zq_all := zq_in3 (i := 159) rfl rfl
theorem wd_261 : Cond.instanceMethod yX5_makeFlip ∈ zq_all := zq_in3 (i := 161) rfl rfl
theorem wd_262 : Cond.selects RX5 yX5_makeFlip yX5_makeFlip ∈ zq_all := zq_in0 (i := 31) rfl rfl
theorem wd_263 : Cond.code yX5_flip cX5_flip 5 (some .int) ∈ zq_all := zq_in3 (i := 122) rfl rfl
theorem wd_264 : Cond.code yX5_putNew cX5_putNew 3 none ∈ zq_all := zq_in3 (i := 180) rfl rfl
theorem wd_265 : Cond.methodLink RX5 127 yX1_isCorner ∈ zq_all := zq_in3 (i := 174) rfl rfl
theorem wd_266 : Cond.methodLink RX5 132 yX1_fanOf ∈ zq_all := zq_in3 (i := 176) rfl rfl
theorem wd_267 : Cond.methodLink RX5 135 yJ6_bitCount_0f7a4 ∈ zq_all := zq_in2 (i := 138) rfl rfl
theorem wd_268 : Cond.methodLink RX5 140 yX5_putNew ∈ zq_all := zq_in3 (i := 177) rfl rfl
theorem wd_269 : Cond.instanceMethod yX5_putNew ∈ zq_all := zq_in3 (i := 179) rfl rfl
theorem wd_270 : Cond.selects RX5 yX5_putNew yX5_putNew ∈ zq_all := zq_in0 (i := 32) rfl rfl
theorem wd_271 : Cond.code yX5_fan cX5_fan 5 (some .int) ∈ zq_all := zq_in3 (i := 173) rfl rfl
theorem wd_272 : Cond.methodLink RX5 148 yX1_turnedBy ∈ zq_all := zq_in3 (i := 190) rfl rfl
theorem wd_273 : Cond.instanceMethod yX1_turnedBy ∈ zq_all := zq_in3 (i := 191) rfl rfl
theorem wd_274 : Cond.selects RX1 yX1_turnedBy yX1_turnedBy ∈ zq_all := zq_in3 (i := 192) rfl rfl
theorem wd_275 : Cond.code yX5_turn cX5_turn 4 (some .int) ∈ zq_all := zq_in3 (i := 187) rfl rfl
theorem wd_276 : Cond.methodLink RX5 154 yX1_mirrored ∈ zq_all := zq_in3 (i := 201) rfl rfl
theorem wd_277 : Cond.code yX5_mirror cX5_mirror 3 (some .int) ∈ zq_all := zq_in3 (i := 200) rfl rfl
theorem wd_278 : Cond.code yX5_exchange cX5_exchange 2 (some .int) ∈ zq_all := zq_in2 (i := 47) rfl rfl
theorem wd_279 : Cond.code yX5_lock cX5_lock 6 (some .int) ∈ zq_all := zq_in3 (i := 208) rfl rfl
theorem wd_280 : Cond.code yX5_hasDistance cX5_hasDistance 1 (some .boolean) ∈ zq_all := zq_in2 (i := 215) rfl rfl
theorem wd_281 : Cond.methodLink RX5 303 yX2_measure ∈ zq_all := zq_in2 (i := 107) rfl rfl
theorem wd_282 : Cond.instanceMethod yX2_measure ∈ zq_all := zq_in2 (i := 108) rfl rfl
theorem wd_283 : Cond.selects RX2 yX2_measure yX2_measure ∈ zq_all := zq_in2 (i := 109) rfl rfl
theorem wd_284 : Cond.code yX5_reachWithLocks cX5_reachWithLocks 2 (some (.object "FlipPolygons$Reach")) ∈ zq_all := zq_in2 (i := 219) rfl rfl
theorem wd_285 : Cond.methodLink RX5 307 yX5_hasDistance ∈ zq_all := zq_in2 (i := 212) rfl rfl
theorem wd_286 : Cond.instanceMethod yX5_hasDistance ∈ zq_all := zq_in2 (i := 214) rfl rfl
theorem wd_287 : Cond.selects RX5 yX5_hasDistance yX5_hasDistance ∈ zq_all := zq_in0 (i := 19) rfl rfl
theorem wd_288 : Cond.methodLink RX5 310 yX5_reachWithLocks ∈ zq_all := zq_in2 (i := 216) rfl rfl
theorem wd_289 : Cond.instanceMethod yX5_reachWithLocks ∈ zq_all := zq_in2 (i := 218) rfl rfl
theorem wd_290 : Cond.selects RX5 yX5_reachWithLocks yX5_reachWithLocks ∈ zq_all := zq_in0 (i := 20) rfl rfl
theorem wd_291 : Cond.methodLink RX5 314 yX2_flipsTo ∈ zq_all := zq_in2 (i := 124) rfl rfl
theorem wd_292 : Cond.instanceMethod yX2_flipsTo ∈ zq_all := zq_in2 (i := 125) rfl rfl
theorem wd_293 : Cond.selects RX2 yX2_flipsTo yX2_flipsTo ∈ zq_all := zq_in2 (i := 126) rfl rfl
theorem wd_294 : Cond.code yX5_distanceWithLocks cX5_distanceWithLocks 1 (some .int) ∈ zq_all := zq_in2 (i := 211) rfl rfl
theorem wd_295 : Cond.code yX5_nextFlip cX5_nextFlip 6 (some .int) ∈ zq_all := zq_in3 (i := 12) rfl rfl
theorem wd_296 : Cond.methodLink RX5 169 yX5_distanceWithLocks ∈ zq_all := zq_in2 (i := 208) rfl rfl
theorem wd_297 : Cond.instanceMethod yX5_distanceWithLocks ∈ zq_all := zq_in2 (i := 210) rfl rfl
theorem wd_298 : Cond.selects RX5 yX5_distanceWithLocks yX5_distanceWithLocks ∈ zq_all := zq_in0 (i := 18) rfl rfl
theorem wd_299 : Cond.methodLink RX5 175 yX5_nextFlip ∈ zq_all := zq_in3 (i := 9) rfl rfl
theorem wd_300 : Cond.instanceMethod yX5_nextFlip ∈ zq_all := zq_in3 (i := 11) rfl rfl
theorem wd_301 : Cond.selects RX5 yX5_nextFlip yX5_nextFlip ∈ zq_all := zq_in0 (i := 26) rfl rfl
theorem wd_302 : Cond.code yX5_walk cX5_walk 5 (some .int) ∈ zq_all := zq_in3 (i := 217) rfl rfl
theorem wd_303 : Cond.code yX5_append cX5_append 2 (some .int) ∈ zq_all := zq_in3 (i := 226) rfl rfl
theorem wd_304 : Cond.methodLink RX5 180 yX4_isFull ∈ zq_all := zq_in3 (i := 228) rfl rfl
theorem wd_305 : Cond.instanceMethod yX4_isFull ∈ zq_all := zq_in3 (i := 229) rfl rfl
theorem wd_306 : Cond.selects RX4 yX4_isFull yX4_isFull ∈ zq_all := zq_in3 (i := 230) rfl rfl
theorem wd_307 : Cond.methodLink RX5 186 yX4_add ∈ zq_all := zq_in3 (i := 233) rfl rfl
theorem wd_308 : Cond.instanceMethod yX4_add ∈ zq_all := zq_in3 (i := 234) rfl rfl
theorem wd_309 : Cond.selects RX4 yX4_add yX4_add ∈ zq_all := zq_in3 (i := 235) rfl rfl
theorem wd_310 : Cond.code yX5_clearBuffer cX5_clearBuffer 2 (some .int) ∈ zq_all := zq_in2 (i := 59) rfl rfl
theorem wd_311 : Cond.methodLink RX5 192 yX4_clear ∈ zq_all := zq_in2 (i := 60) rfl rfl
theorem wd_312 : Cond.instanceMethod yX4_clear ∈ zq_all := zq_in2 (i := 61) rfl rfl
theorem wd_313 : Cond.selects RX4 yX4_clear yX4_clear ∈ zq_all := zq_in2 (i := 62) rfl rfl
theorem wd_314 : Cond.methodLink RX5 195 yX4_firstWrong ∈ zq_all := zq_in2 (i := 68) rfl rfl
theorem wd_315 : Cond.code yX5_firstError cX5_firstError 1 (some .int) ∈ zq_all := zq_in2 (i := 67) rfl rfl
theorem wd_316 : Cond.methodLink RX5 199 yX4_isComplete ∈ zq_all := zq_in4 (i := 4) rfl rfl
theorem wd_317 : Cond.instanceMethod yX4_isComplete ∈ zq_all := zq_in4 (i := 5) rfl rfl
theorem wd_318 : Cond.selects RX4 yX4_isComplete yX4_isComplete ∈ zq_all := zq_in4 (i := 6) rfl rfl
theorem wd_319 : Cond.methodLink RX5 205 yX4_maskIn ∈ zq_all := zq_in4 (i := 10) rfl rfl
theorem wd_320 : Cond.instanceMethod yX4_maskIn ∈ zq_all := zq_in4 (i := 11) rfl rfl
theorem wd_321 : Cond.selects RX4 yX4_maskIn yX4_maskIn ∈ zq_all := zq_in4 (i := 12) rfl rfl
theorem wd_322 : Cond.code yX5_read cX5_read 3 (some .int) ∈ zq_all := zq_in4 (i := 3) rfl rfl
theorem wd_323 : Cond.code yX5_isSnapshot cX5_isSnapshot 2 (some .boolean) ∈ zq_all := zq_in4 (i := 26) rfl rfl
theorem wd_324 : Cond.code yX5_take cX5_take 2 (some .int) ∈ zq_all := zq_in4 (i := 22) rfl rfl
theorem wd_325 : Cond.methodLink RX5 210 yX5_isSnapshot ∈ zq_all := zq_in4 (i := 23) rfl rfl
theorem wd_326 : Cond.instanceMethod yX5_isSnapshot ∈ zq_all := zq_in4 (i := 25) rfl rfl
theorem wd_327 : Cond.selects RX5 yX5_isSnapshot yX5_isSnapshot ∈ zq_all := zq_in0 (i := 33) rfl rfl
theorem wd_328 : Cond.code yX5_restore cX5_restore 3 (some .int) ∈ zq_all := zq_in4 (i := 34) rfl rfl
theorem wd_329 : Cond.code yX5_undo cX5_undo 2 (some .int) ∈ zq_all := zq_in4 (i := 42) rfl rfl
theorem wd_330 : Cond.code yX5_number cX5_number 4 (some .int) ∈ zq_all := zq_in4 (i := 50) rfl rfl
theorem wd_331 : Cond.code yX5_reachFrom cX5_reachFrom 3 (some (.object "FlipPolygons$Reach")) ∈ zq_all := zq_in2 (i := 102) rfl rfl
theorem wd_332 : Cond.methodLink RX5 281 yX1_leastImage ∈ zq_all := zq_in2 (i := 151) rfl rfl
theorem wd_333 : Cond.instanceMethod yX1_leastImage ∈ zq_all := zq_in2 (i := 152) rfl rfl
theorem wd_334 : Cond.selects RX1 yX1_leastImage yX1_leastImage ∈ zq_all := zq_in2 (i := 153) rfl rfl
theorem wd_335 : Cond.methodLink RX5 284 yX1_symmetries ∈ zq_all := zq_in2 (i := 172) rfl rfl
theorem wd_336 : Cond.instanceMethod yX1_symmetries ∈ zq_all := zq_in2 (i := 173) rfl rfl
theorem wd_337 : Cond.selects RX1 yX1_symmetries yX1_symmetries ∈ zq_all := zq_in2 (i := 174) rfl rfl
theorem wd_338 : Cond.methodLink RX5 287 yX1_ears ∈ zq_all := zq_in2 (i := 176) rfl rfl
theorem wd_339 : Cond.instanceMethod yX1_ears ∈ zq_all := zq_in2 (i := 177) rfl rfl
theorem wd_340 : Cond.selects RX1 yX1_ears yX1_ears ∈ zq_all := zq_in2 (i := 178) rfl rfl
theorem wd_341 : Cond.methodLink RX5 290 yX1_greatestDegree ∈ zq_all := zq_in2 (i := 186) rfl rfl
theorem wd_342 : Cond.instanceMethod yX1_greatestDegree ∈ zq_all := zq_in2 (i := 187) rfl rfl
theorem wd_343 : Cond.selects RX1 yX1_greatestDegree yX1_greatestDegree ∈ zq_all := zq_in2 (i := 188) rfl rfl
theorem wd_344 : Cond.methodLink RX5 293 yX5_reachFrom ∈ zq_all := zq_in2 (i := 99) rfl rfl
theorem wd_345 : Cond.instanceMethod yX5_reachFrom ∈ zq_all := zq_in2 (i := 101) rfl rfl
theorem wd_346 : Cond.selects RX5 yX5_reachFrom yX5_reachFrom ∈ zq_all := zq_in0 (i := 10) rfl rfl
theorem wd_347 : Cond.methodLink RX5 297 yX2_farthest ∈ zq_all := zq_in2 (i := 193) rfl rfl
theorem wd_348 : Cond.methodLink RX5 300 yX2_leastFarthest ∈ zq_all := zq_in2 (i := 198) rfl rfl
theorem wd_349 : Cond.instanceMethod yX2_leastFarthest ∈ zq_all := zq_in2 (i := 199) rfl rfl
theorem wd_350 : Cond.selects RX2 yX2_leastFarthest yX2_leastFarthest ∈ zq_all := zq_in2 (i := 200) rfl rfl
theorem wd_351 : Cond.code yX5_numberOfTriangulation cX5_numberOfTriangulation 5 (some .int) ∈ zq_all := zq_in2 (i := 150) rfl rfl
theorem wd_352 : Cond.methodLink RX5 231 yX5_numberOfTriangulation ∈ zq_all := zq_in2 (i := 147) rfl rfl
theorem wd_353 : Cond.instanceMethod yX5_numberOfTriangulation ∈ zq_all := zq_in2 (i := 149) rfl rfl
theorem wd_354 : Cond.selects RX5 yX5_numberOfTriangulation yX5_numberOfTriangulation ∈ zq_all := zq_in0 (i := 15) rfl rfl
theorem wd_355 : Cond.code yX5_triangulation cX5_triangulation 3 (some .int) ∈ zq_all := zq_in4 (i := 57) rfl rfl
theorem wd_356 : Cond.methodLink RX5 234 yX1_degreeIn ∈ zq_all := zq_in2 (i := 203) rfl rfl
theorem wd_357 : Cond.code yX5_degree cX5_degree 3 (some .int) ∈ zq_all := zq_in4 (i := 65) rfl rfl
theorem wd_358 : Cond.code yX5_other cX5_other 5 (some .int) ∈ zq_all := zq_in4 (i := 72) rfl rfl
theorem wd_359 : Cond.code yX5_hindrance cX5_hindrance 2 (some .int) ∈ zq_all := zq_in3 (i := 22) rfl rfl
theorem wd_360 : Cond.code yX5_whyNot cX5_whyNot 4 (some .int) ∈ zq_all := zq_in4 (i := 79) rfl rfl
theorem wd_361 : Cond.methodLink RX5 240 yX5_hindrance ∈ zq_all := zq_in3 (i := 19) rfl rfl
theorem wd_362 : Cond.instanceMethod yX5_hindrance ∈ zq_all := zq_in3 (i := 21) rfl rfl
theorem wd_363 : Cond.selects RX5 yX5_hindrance yX5_hindrance ∈ zq_all := zq_in0 (i := 28) rfl rfl
theorem wd_364 : Cond.code yX5_freeDistance cX5_freeDistance 1 (some .int) ∈ zq_all := zq_in2 (i := 98) rfl rfl
theorem wd_365 : Cond.code yX5_cutOnePart cX5_cutOnePart 7 none ∈ zq_all := zq_in2 (i := 232) rfl rfl
theorem wd_366 : Cond.code yX5_cutIntoParts cX5_cutIntoParts 5 (some .int) ∈ zq_all := zq_in2 (i := 227) rfl rfl
theorem wd_367 : Cond.methodLink RX5 356 yX5_cutOnePart ∈ zq_all := zq_in2 (i := 229) rfl rfl
theorem wd_368 : Cond.instanceMethod yX5_cutOnePart ∈ zq_all := zq_in2 (i := 231) rfl rfl
theorem wd_369 : Cond.selects RX5 yX5_cutOnePart yX5_cutOnePart ∈ zq_all := zq_in0 (i := 23) rfl rfl
theorem wd_370 : Cond.methodLink RX5 360 yX1_maskInPart ∈ zq_all := zq_in2 (i := 237) rfl rfl
theorem wd_371 : Cond.instanceMethod yX1_maskInPart ∈ zq_all := zq_in2 (i := 238) rfl rfl
theorem wd_372 : Cond.selects RX1 yX1_maskInPart yX1_maskInPart ∈ zq_all := zq_in2 (i := 239) rfl rfl
theorem wd_373 : Cond.code yX5_freeDistanceInPart cX5_freeDistanceInPart 5 (some .int) ∈ zq_all := zq_in2 (i := 236) rfl rfl
theorem wd_374 : Cond.methodLink RX5 344 yX5_cutIntoParts ∈ zq_all := zq_in2 (i := 224) rfl rfl
theorem wd_375 : Cond.instanceMethod yX5_cutIntoParts ∈ zq_all := zq_in2 (i := 226) rfl rfl
theorem wd_376 : Cond.selects RX5 yX5_cutIntoParts yX5_cutIntoParts ∈ zq_all := zq_in0 (i := 22) rfl rfl
theorem wd_377 : Cond.methodLink RX5 347 yX5_freeDistanceInPart ∈ zq_all := zq_in2 (i := 233) rfl rfl
theorem wd_378 : Cond.instanceMethod yX5_freeDistanceInPart ∈ zq_all := zq_in2 (i := 235) rfl rfl
theorem wd_379 : Cond.selects RX5 yX5_freeDistanceInPart yX5_freeDistanceInPart ∈ zq_all := zq_in0 (i := 24) rfl rfl
theorem wd_380 : Cond.code yX5_freeDistanceByParts cX5_freeDistanceByParts 4 (some .int) ∈ zq_all := zq_in2 (i := 223) rfl rfl
theorem wd_381 : Cond.methodLink RX5 317 yX2_waysTo ∈ zq_all := zq_in3 (i := 5) rfl rfl
theorem wd_382 : Cond.instanceMethod yX2_waysTo ∈ zq_all := zq_in3 (i := 6) rfl rfl
theorem wd_383 : Cond.selects RX2 yX2_waysTo yX2_waysTo ∈ zq_all := zq_in3 (i := 7) rfl rfl
theorem wd_384 : Cond.code yX5_shortestWays cX5_shortestWays 1 (some .int) ∈ zq_all := zq_in3 (i := 4) rfl rfl
theorem wd_385 : Cond.methodLink RX5 323 yX5_freeDistance ∈ zq_all := zq_in2 (i := 95) rfl rfl
theorem wd_386 : Cond.instanceMethod yX5_freeDistance ∈ zq_all := zq_in2 (i := 97) rfl rfl
theorem wd_387 : Cond.selects RX5 yX5_freeDistance yX5_freeDistance ∈ zq_all := zq_in0 (i := 9) rfl rfl
theorem wd_388 : Cond.methodLink RX5 326 yX5_freeDistanceByParts ∈ zq_all := zq_in2 (i := 220) rfl rfl
theorem wd_389 : Cond.instanceMethod yX5_freeDistanceByParts ∈ zq_all := zq_in2 (i := 222) rfl rfl
theorem wd_390 : Cond.selects RX5 yX5_freeDistanceByParts yX5_freeDistanceByParts ∈ zq_all := zq_in0 (i := 21) rfl rfl
theorem wd_391 : Cond.methodLink RX5 329 yX5_shortestWays ∈ zq_all := zq_in3 (i := 1) rfl rfl
theorem wd_392 : Cond.instanceMethod yX5_shortestWays ∈ zq_all := zq_in3 (i := 3) rfl rfl
theorem wd_393 : Cond.selects RX5 yX5_shortestWays yX5_shortestWays ∈ zq_all := zq_in0 (i := 25) rfl rfl
theorem wd_394 : Cond.code yX5_distanceNumber cX5_distanceNumber 2 (some .int) ∈ zq_all := zq_in2 (i := 207) rfl rfl
theorem wd_395 : Cond.methodLink RX5 243 yX5_distanceNumber ∈ zq_all := zq_in2 (i := 204) rfl rfl
theorem wd_396 : Cond.instanceMethod yX5_distanceNumber ∈ zq_all := zq_in2 (i := 206) rfl rfl
theorem wd_397 : Cond.selects RX5 yX5_distanceNumber yX5_distanceNumber ∈ zq_all := zq_in0 (i := 17) rfl rfl
theorem wd_398 : Cond.code yX5_distance cX5_distance 2 (some .int) ∈ zq_all := zq_in4 (i := 86) rfl rfl
theorem wd_399 : Cond.code yX5_freeDistanceBehind cX5_freeDistanceBehind 2 (some .int) ∈ zq_all := zq_in3 (i := 26) rfl rfl
theorem wd_400 : Cond.methodLink RX5 246 yX5_freeDistanceBehind ∈ zq_all := zq_in3 (i := 23) rfl rfl
theorem wd_401 : Cond.instanceMethod yX5_freeDistanceBehind ∈ zq_all := zq_in3 (i := 25) rfl rfl
theorem wd_402 : Cond.selects RX5 yX5_freeDistanceBehind yX5_freeDistanceBehind ∈ zq_all := zq_in0 (i := 29) rfl rfl
theorem wd_403 : Cond.code yX5_ifFlipped cX5_ifFlipped 4 (some .int) ∈ zq_all := zq_in4 (i := 93) rfl rfl
theorem wd_404 : Cond.code yX5_takenSnapshots cX5_takenSnapshots 3 (some .int) ∈ zq_all := zq_in2 (i := 142) rfl rfl
theorem wd_405 : Cond.code yX5_countNumber cX5_countNumber 2 (some .int) ∈ zq_all := zq_in2 (i := 137) rfl rfl
theorem wd_406 : Cond.methodLink RX5 341 yX5_takenSnapshots ∈ zq_all := zq_in2 (i := 139) rfl rfl
theorem wd_407 : Cond.instanceMethod yX5_takenSnapshots ∈ zq_all := zq_in2 (i := 141) rfl rfl
theorem wd_408 : Cond.selects RX5 yX5_takenSnapshots yX5_takenSnapshots ∈ zq_all := zq_in0 (i := 13) rfl rfl
theorem wd_409 : Cond.code yX5_count cX5_count 2 (some .int) ∈ zq_all := zq_in4 (i := 100) rfl rfl
theorem wd_410 : Cond.methodLink RX5 249 yX5_countNumber ∈ zq_all := zq_in2 (i := 134) rfl rfl
theorem wd_411 : Cond.instanceMethod yX5_countNumber ∈ zq_all := zq_in2 (i := 136) rfl rfl
theorem wd_412 : Cond.selects RX5 yX5_countNumber yX5_countNumber ∈ zq_all := zq_in0 (i := 12) rfl rfl
theorem wd_413 : Cond.code yX5_shareOfWay cX5_shareOfWay 1 (some .double) ∈ zq_all := zq_in2 (i := 94) rfl rfl
theorem wd_414 : Cond.methodLink RX5 252 yX5_shareOfWay ∈ zq_all := zq_in2 (i := 91) rfl rfl
theorem wd_415 : Cond.instanceMethod yX5_shareOfWay ∈ zq_all := zq_in2 (i := 93) rfl rfl
theorem wd_416 : Cond.selects RX5 yX5_shareOfWay yX5_shareOfWay ∈ zq_all := zq_in0 (i := 8) rfl rfl
theorem wd_417 : Cond.code yX5_farShare cX5_farShare 1 (some .double) ∈ zq_all := zq_in2 (i := 90) rfl rfl
theorem wd_418 : Cond.constantLong RX5 258 (31) ∈ zq_all := zq_in2 (i := 133) rfl rfl
theorem wd_419 : Cond.code yX5_mixTriangulation cX5_mixTriangulation 8 (some .long) ∈ zq_all := zq_in2 (i := 146) rfl rfl
theorem wd_420 : Cond.code yX5_mixDiagonals cX5_mixDiagonals 7 (some .long) ∈ zq_all := zq_in3 (i := 17) rfl rfl
theorem wd_421 : Cond.code yX5_bitsOf cX5_bitsOf 7 (some .long) ∈ zq_all := zq_in3 (i := 29) rfl rfl
theorem wd_422 : Cond.constantLong RX5 364 (1023) ∈ zq_all := zq_in3 (i := 30) rfl rfl
theorem wd_423 : Cond.constantDouble RX5 366 (4611686018427387904) ∈ zq_all := zq_in3 (i := 31) rfl rfl
theorem wd_424 : Cond.constantDouble RX5 368 (4841369599423283200) ∈ zq_all := zq_in3 (i := 32) rfl rfl
theorem wd_425 : Cond.constantLong RX5 256 (2477) ∈ zq_all := zq_in2 (i := 132) rfl rfl
theorem wd_426 : Cond.methodLink RX5 260 yX5_mixTriangulation ∈ zq_all := zq_in2 (i := 143) rfl rfl
theorem wd_427 : Cond.instanceMethod yX5_mixTriangulation ∈ zq_all := zq_in2 (i := 145) rfl rfl
theorem wd_428 : Cond.selects RX5 yX5_mixTriangulation yX5_mixTriangulation ∈ zq_all := zq_in0 (i := 14) rfl rfl
theorem wd_429 : Cond.methodLink RX5 264 yX5_mixDiagonals ∈ zq_all := zq_in3 (i := 14) rfl rfl
theorem wd_430 : Cond.instanceMethod yX5_mixDiagonals ∈ zq_all := zq_in3 (i := 16) rfl rfl
theorem wd_431 : Cond.selects RX5 yX5_mixDiagonals yX5_mixDiagonals ∈ zq_all := zq_in0 (i := 27) rfl rfl
theorem wd_432 : Cond.methodLink RX5 268 yX5_bitsOf ∈ zq_all := zq_in3 (i := 27) rfl rfl
theorem wd_433 : Cond.static yX5_bitsOf ∈ zq_all := zq_in3 (i := 28) rfl rfl
theorem wd_434 : Cond.methodLink RX5 272 yX4_mixInto ∈ zq_all := zq_in3 (i := 33) rfl rfl
theorem wd_435 : Cond.instanceMethod yX4_mixInto ∈ zq_all := zq_in3 (i := 34) rfl rfl
theorem wd_436 : Cond.selects RX4 yX4_mixInto yX4_mixInto ∈ zq_all := zq_in3 (i := 35) rfl rfl
theorem wd_437 : Cond.code yX5_digest cX5_digest 4 (some .long) ∈ zq_all := zq_in2 (i := 131) rfl rfl
theorem wd_438 : Cond.code yX6_layDiagonals cX6_layDiagonals 3 none ∈ zq_all := zq_in4 (i := 114) rfl rfl
theorem wd_439 : Cond.fieldLink RX6 63 "FlipPolygonsModel" "diagonals" "I" ∈ zq_all := zq_in4 (i := 191) rfl rfl
theorem wd_440 : Cond.fieldLink RX6 31 "FlipPolygonsModel" "numbers" "[I" ∈ zq_all := zq_in4 (i := 194) rfl rfl
theorem wd_441 : Cond.fieldLink RX6 7 "FlipPolygonsModel" "z" "[I" ∈ zq_all := zq_in4 (i := 182) rfl rfl
theorem wd_442 : Cond.fieldLink RX6 25 "FlipPolygonsModel" "lesser" "[I" ∈ zq_all := zq_in4 (i := 192) rfl rfl
theorem wd_443 : Cond.fieldLink RX6 28 "FlipPolygonsModel" "greater" "[I" ∈ zq_all := zq_in4 (i := 193) rfl rfl
theorem wd_444 : Cond.code yX6_fanOf cX6_fanOf 4 (some .int) ∈ zq_all := zq_in4 (i := 122) rfl rfl
theorem wd_445 : Cond.code yX6_has cX6_has 2 (some .boolean) ∈ zq_all := zq_in4 (i := 125) rfl rfl
theorem wd_446 : Cond.code yX6_numberOf cX6_numberOf 3 (some .int) ∈ zq_all := zq_in4 (i := 145) rfl rfl
theorem wd_447 : Cond.code yX6_joined cX6_joined 5 (some .boolean) ∈ zq_all := zq_in4 (i := 141) rfl rfl
theorem wd_448 : Cond.methodLink RX6 70 yX6_numberOf ∈ zq_all := zq_in4 (i := 142) rfl rfl
theorem wd_449 : Cond.instanceMethod yX6_numberOf ∈ zq_all := zq_in4 (i := 144) rfl rfl
theorem wd_450 : Cond.selects RX6 yX6_numberOf yX6_numberOf ∈ zq_all := zq_in0 (i := 42) rfl rfl
theorem wd_451 : Cond.initialized RX6 ∈ zq_all := zq_in1 (i := 10) rfl rfl
theorem wd_452 : Cond.methodLink RX6 74 yX6_has ∈ zq_all := zq_in4 (i := 123) rfl rfl
theorem wd_453 : Cond.static yX6_has ∈ zq_all := zq_in4 (i := 124) rfl rfl
theorem wd_454 : Cond.code yX6_apex cX6_apex 5 (some .int) ∈ zq_all := zq_in4 (i := 137) rfl rfl
theorem wd_455 : Cond.methodLink RX6 78 yX6_joined ∈ zq_all := zq_in4 (i := 138) rfl rfl
theorem wd_456 : Cond.instanceMethod yX6_joined ∈ zq_all := zq_in4 (i := 140) rfl rfl
theorem wd_457 : Cond.selects RX6 yX6_joined yX6_joined ∈ zq_all := zq_in0 (i := 41) rfl rfl
theorem wd_458 : Cond.code yX6_flipped cX6_flipped 5 (some .int) ∈ zq_all := zq_in4 (i := 133) rfl rfl
theorem wd_459 : Cond.methodLink RX6 81 yX6_apex ∈ zq_all := zq_in4 (i := 134) rfl rfl
theorem wd_460 : Cond.instanceMethod yX6_apex ∈ zq_all := zq_in4 (i := 136) rfl rfl
theorem wd_461 : Cond.selects RX6 yX6_apex yX6_apex ∈ zq_all := zq_in0 (i := 40) rfl rfl
theorem wd_462 : Cond.code yX6_behindFlip cX6_behindFlip 3 (some .int) ∈ zq_all := zq_in4 (i := 129) rfl rfl
theorem wd_463 : Cond.methodLink RX6 85 yX6_flipped ∈ zq_all := zq_in4 (i := 130) rfl rfl
theorem wd_464 : Cond.instanceMethod yX6_flipped ∈ zq_all := zq_in4 (i := 132) rfl rfl
theorem wd_465 : Cond.selects RX6 yX6_flipped yX6_flipped ∈ zq_all := zq_in0 (i := 39) rfl rfl
theorem wd_466 : Cond.code yX6_isKnown cX6_isKnown 4 (some .boolean) ∈ zq_all := zq_in4 (i := 149) rfl rfl
theorem wd_467 : Cond.fieldLink RX6 88 "FlipPolygonsModel" "all" "I" ∈ zq_all := zq_in4 (i := 195) rfl rfl
theorem wd_468 : Cond.fieldLink RX6 34 "FlipPolygonsModel" "masks" "[I" ∈ zq_all := zq_in4 (i := 196) rfl rfl
theorem wd_469 : Cond.methodLink RX6 52 yX6_fanOf ∈ zq_all := zq_in4 (i := 119) rfl rfl
theorem wd_470 : Cond.instanceMethod yX6_fanOf ∈ zq_all := zq_in4 (i := 121) rfl rfl
theorem wd_471 : Cond.selects RX6 yX6_fanOf yX6_fanOf ∈ zq_all := zq_in0 (i := 37) rfl rfl
theorem wd_472 : Cond.methodLink RX6 91 yX6_behindFlip ∈ zq_all := zq_in4 (i := 126) rfl rfl
theorem wd_473 : Cond.instanceMethod yX6_behindFlip ∈ zq_all := zq_in4 (i := 128) rfl rfl
theorem wd_474 : Cond.selects RX6 yX6_behindFlip yX6_behindFlip ∈ zq_all := zq_in0 (i := 38) rfl rfl
theorem wd_475 : Cond.methodLink RX6 94 yX6_isKnown ∈ zq_all := zq_in4 (i := 146) rfl rfl
theorem wd_476 : Cond.instanceMethod yX6_isKnown ∈ zq_all := zq_in4 (i := 148) rfl rfl
theorem wd_477 : Cond.selects RX6 yX6_isKnown yX6_isKnown ∈ zq_all := zq_in0 (i := 43) rfl rfl
theorem wd_478 : Cond.code yX6_findAll cX6_findAll 4 none ∈ zq_all := zq_in4 (i := 118) rfl rfl
theorem wd_479 : Cond.code yX6_sortAll cX6_sortAll 4 none ∈ zq_all := zq_in4 (i := 153) rfl rfl
theorem wd_480 : Cond.code yX6_indexOf cX6_indexOf 5 (some .int) ∈ zq_all := zq_in4 (i := 161) rfl rfl
theorem wd_481 : Cond.fieldLink RX6 37 "FlipPolygonsModel" "leads" "[I" ∈ zq_all := zq_in4 (i := 197) rfl rfl
theorem wd_482 : Cond.methodLink RX6 98 yX6_indexOf ∈ zq_all := zq_in4 (i := 158) rfl rfl
theorem wd_483 : Cond.instanceMethod yX6_indexOf ∈ zq_all := zq_in4 (i := 160) rfl rfl
theorem wd_484 : Cond.selects RX6 yX6_indexOf yX6_indexOf ∈ zq_all := zq_in0 (i := 46) rfl rfl
theorem wd_485 : Cond.code yX6_layLeads cX6_layLeads 4 none ∈ zq_all := zq_in4 (i := 157) rfl rfl
theorem wd_486 : Cond.code yX6_turned cX6_turned 6 (some .int) ∈ zq_all := zq_in4 (i := 169) rfl rfl
theorem wd_487 : Cond.code yX6_mirrored cX6_mirrored 5 (some .int) ∈ zq_all := zq_in4 (i := 173) rfl rfl
theorem wd_488 : Cond.code yX6_codeOf cX6_codeOf 6 (some .int) ∈ zq_all := zq_in4 (i := 165) rfl rfl
theorem wd_489 : Cond.methodLink RX6 135 yX6_turned ∈ zq_all := zq_in4 (i := 166) rfl rfl
theorem wd_490 : Cond.instanceMethod yX6_turned ∈ zq_all := zq_in4 (i := 168) rfl rfl
theorem wd_491 : Cond.selects RX6 yX6_turned yX6_turned ∈ zq_all := zq_in0 (i := 48) rfl rfl
theorem wd_492 : Cond.methodLink RX6 138 yX6_mirrored ∈ zq_all := zq_in4 (i := 170) rfl rfl
theorem wd_493 : Cond.instanceMethod yX6_mirrored ∈ zq_all := zq_in4 (i := 172) rfl rfl
theorem wd_494 : Cond.selects RX6 yX6_mirrored yX6_mirrored ∈ zq_all := zq_in0 (i := 49) rfl rfl
theorem wd_495 : Cond.code yX6_goFrom cX6_goFrom 11 none ∈ zq_all := zq_in4 (i := 181) rfl rfl
theorem wd_496 : Cond.fieldLink RX6 40 "FlipPolygonsModel" "far" "[I" ∈ zq_all := zq_in4 (i := 200) rfl rfl
theorem wd_497 : Cond.fieldLink RX6 43 "FlipPolygonsModel" "ways" "[I" ∈ zq_all := zq_in4 (i := 201) rfl rfl
theorem wd_498 : Cond.fieldLink RX6 46 "FlipPolygonsModel" "order" "[I" ∈ zq_all := zq_in4 (i := 202) rfl rfl
theorem wd_499 : Cond.code yX6_farthestFrom cX6_farthestFrom 4 (some .int) ∈ zq_all := zq_in4 (i := 177) rfl rfl
theorem wd_500 : Cond.methodLink RX6 128 yX6_goFrom ∈ zq_all := zq_in4 (i := 178) rfl rfl
theorem wd_501 : Cond.instanceMethod yX6_goFrom ∈ zq_all := zq_in4 (i := 180) rfl rfl
theorem wd_502 : Cond.selects RX6 yX6_goFrom yX6_goFrom ∈ zq_all := zq_in0 (i := 51) rfl rfl
theorem wd_503 : Cond.fieldLink RX6 101 "FlipPolygonsModel" "laid" "I" ∈ zq_all := zq_in4 (i := 190) rfl rfl
theorem wd_504 : Cond.fieldLink RX6 116 "FlipPolygonsModel" "classes" "I" ∈ zq_all := zq_in4 (i := 198) rfl rfl
theorem wd_505 : Cond.fieldLink RX6 119 "FlipPolygonsModel" "widest" "I" ∈ zq_all := zq_in4 (i := 199) rfl rfl
theorem wd_506 : Cond.methodLink RX6 104 yX6_layDiagonals ∈ zq_all := zq_in4 (i := 111) rfl rfl
theorem wd_507 : Cond.instanceMethod yX6_layDiagonals ∈ zq_all := zq_in4 (i := 113) rfl rfl
theorem wd_508 : Cond.selects RX6 yX6_layDiagonals yX6_layDiagonals ∈ zq_all := zq_in0 (i := 35) rfl rfl
theorem wd_509 : Cond.methodLink RX6 107 yX6_findAll ∈ zq_all := zq_in4 (i := 115) rfl rfl
theorem wd_510 : Cond.instanceMethod yX6_findAll ∈ zq_all := zq_in4 (i := 117) rfl rfl
theorem wd_511 : Cond.selects RX6 yX6_findAll yX6_findAll ∈ zq_all := zq_in0 (i := 36) rfl rfl
theorem wd_512 : Cond.methodLink RX6 110 yX6_sortAll ∈ zq_all := zq_in4 (i := 150) rfl rfl
theorem wd_513 : Cond.instanceMethod yX6_sortAll ∈ zq_all := zq_in4 (i := 152) rfl rfl
theorem wd_514 : Cond.selects RX6 yX6_sortAll yX6_sortAll ∈ zq_all := zq_in0 (i := 44) rfl rfl
theorem wd_515 : Cond.methodLink RX6 113 yX6_layLeads ∈ zq_all := zq_in4 (i := 154) rfl rfl
theorem wd_516 : Cond.instanceMethod yX6_layLeads ∈ zq_all := zq_in4 (i := 156) rfl rfl
theorem wd_517 : Cond.selects RX6 yX6_layLeads yX6_layLeads ∈ zq_all := zq_in0 (i := 45) rfl rfl
theorem wd_518 : Cond.methodLink RX6 122 yX6_codeOf ∈ zq_all := zq_in4 (i := 162) rfl rfl
theorem wd_519 : Cond.instanceMethod yX6_codeOf ∈ zq_all := zq_in4 (i := 164) rfl rfl
theorem wd_520 : Cond.selects RX6 yX6_codeOf yX6_codeOf ∈ zq_all := zq_in0 (i := 47) rfl rfl
theorem wd_521 : Cond.methodLink RX6 125 yX6_farthestFrom ∈ zq_all := zq_in4 (i := 174) rfl rfl
theorem wd_522 : Cond.instanceMethod yX6_farthestFrom ∈ zq_all := zq_in4 (i := 176) rfl rfl
theorem wd_523 : Cond.selects RX6 yX6_farthestFrom yX6_farthestFrom ∈ zq_all := zq_in0 (i := 50) rfl rfl
theorem wd_524 : Cond.code yX6_layAll cX6_layAll 3 none ∈ zq_all := zq_in4 (i := 110) rfl rfl
theorem wd_525 : Cond.methodLink RX6 1 objectInit ∈ zq_all := zq_in4 (i := 106) rfl rfl
theorem wd_526 : Cond.fieldLink RX6 13 "FlipPolygonsModel" "history" "[I" ∈ zq_all := zq_in4 (i := 184) rfl rfl
theorem wd_527 : Cond.fieldLink RX6 16 "FlipPolygonsModel" "snaps" "[I" ∈ zq_all := zq_in4 (i := 185) rfl rfl
theorem wd_528 : Cond.fieldLink RX6 19 "FlipPolygonsModel" "taken" "[I" ∈ zq_all := zq_in4 (i := 186) rfl rfl
theorem wd_529 : Cond.fieldLink RX6 22 "FlipPolygonsModel" "text" "[I" ∈ zq_all := zq_in4 (i := 188) rfl rfl
theorem wd_530 : Cond.methodLink RX6 49 yX6_layAll ∈ zq_all := zq_in4 (i := 107) rfl rfl
theorem wd_531 : Cond.instanceMethod yX6_layAll ∈ zq_all := zq_in4 (i := 109) rfl rfl
theorem wd_532 : Cond.selects RX6 yX6_layAll yX6_layAll ∈ zq_all := zq_in0 (i := 34) rfl rfl
theorem wd_533 : Cond.code yX6_init cX6_init 1 none ∈ zq_all := zq_in4 (i := 105) rfl rfl
theorem wd_534 : Cond.code yX6_thrown cX6_thrown 1 (some .int) ∈ zq_all := zq_in5 (i := 12) rfl rfl
theorem wd_535 : Cond.fieldLink RX6 56 "FlipPolygonsModel" "thrown" "I" ∈ zq_all := zq_in4 (i := 189) rfl rfl
theorem wd_536 : Cond.code yX6_within cX6_within 3 (some .boolean) ∈ zq_all := zq_in5 (i := 19) rfl rfl
theorem wd_537 : Cond.code yX6_save cX6_save 2 none ∈ zq_all := zq_in5 (i := 23) rfl rfl
theorem wd_538 : Cond.fieldLink RX6 60 "FlipPolygonsModel" "states" "I" ∈ zq_all := zq_in4 (i := 183) rfl rfl
theorem wd_539 : Cond.code yX6_ones cX6_ones 3 (some .int) ∈ zq_all := zq_in5 (i := 49) rfl rfl
theorem wd_540 : Cond.code yX6_isDiagonal cX6_isDiagonal 3 (some .boolean) ∈ zq_all := zq_in5 (i := 34) rfl rfl
theorem wd_541 : Cond.methodLink RX6 66 yX6_within ∈ zq_all := zq_in5 (i := 17) rfl rfl
theorem wd_542 : Cond.static yX6_within ∈ zq_all := zq_in5 (i := 18) rfl rfl
theorem wd_543 : Cond.code yX6_cross cX6_cross 7 (some .boolean) ∈ zq_all := zq_in5 (i := 117) rfl rfl
theorem wd_544 : Cond.code yX6_freeFrom cX6_freeFrom 2 (some .int) ∈ zq_all := zq_in5 (i := 192) rfl rfl
theorem wd_545 : Cond.code yX6_lockedFrom cX6_lockedFrom 2 (some .int) ∈ zq_all := zq_in5 (i := 77) rfl rfl
theorem wd_546 : Cond.code yX6_leastSoFar cX6_leastSoFar 4 (some .int) ∈ zq_all := zq_in5 (i := 160) rfl rfl
theorem wd_547 : Cond.methodLink RX6 132 yX6_lockedFrom ∈ zq_all := zq_in5 (i := 74) rfl rfl
theorem wd_548 : Cond.instanceMethod yX6_lockedFrom ∈ zq_all := zq_in5 (i := 76) rfl rfl
theorem wd_549 : Cond.selects RX6 yX6_lockedFrom yX6_lockedFrom ∈ zq_all := zq_in0 (i := 57) rfl rfl
theorem wd_550 : Cond.code yX6_nextFlip cX6_nextFlip 3 (some .int) ∈ zq_all := zq_in5 (i := 81) rfl rfl
theorem wd_551 : Cond.code yX6_likenesses cX6_likenesses 4 (some .int) ∈ zq_all := zq_in5 (i := 148) rfl rfl
theorem wd_552 : Cond.methodLink RX6 141 yX6_save ∈ zq_all := zq_in5 (i := 20) rfl rfl
theorem wd_553 : Cond.instanceMethod yX6_save ∈ zq_all := zq_in5 (i := 22) rfl rfl
theorem wd_554 : Cond.selects RX6 yX6_save yX6_save ∈ zq_all := zq_in0 (i := 52) rfl rfl
theorem wd_555 : Cond.code yX6_begin cX6_begin 3 (some .int) ∈ zq_all := zq_in5 (i := 16) rfl rfl
theorem wd_556 : Cond.code yX6_isWhich cX6_isWhich 1 (some .boolean) ∈ zq_all := zq_in5 (i := 30) rfl rfl
theorem wd_557 : Cond.code yX6_canFlip cX6_canFlip 3 (some .boolean) ∈ zq_all := zq_in5 (i := 38) rfl rfl
theorem wd_558 : Cond.methodLink RX6 144 yX6_isWhich ∈ zq_all := zq_in5 (i := 28) rfl rfl
theorem wd_559 : Cond.static yX6_isWhich ∈ zq_all := zq_in5 (i := 29) rfl rfl
theorem wd_560 : Cond.methodLink RX6 147 yX6_isDiagonal ∈ zq_all := zq_in5 (i := 31) rfl rfl
theorem wd_561 : Cond.instanceMethod yX6_isDiagonal ∈ zq_all := zq_in5 (i := 33) rfl rfl
theorem wd_562 : Cond.selects RX6 yX6_isDiagonal yX6_isDiagonal ∈ zq_all := zq_in0 (i := 53) rfl rfl
theorem wd_563 : Cond.methodLink RX6 150 yX6_canFlip ∈ zq_all := zq_in5 (i := 35) rfl rfl
theorem wd_564 : Cond.instanceMethod yX6_canFlip ∈ zq_all := zq_in5 (i := 37) rfl rfl
theorem wd_565 : Cond.selects RX6 yX6_canFlip yX6_canFlip ∈ zq_all := zq_in0 (i := 54) rfl rfl
theorem wd_566 : Cond.code yX6_flip cX6_flip 5 (some .int) ∈ zq_all := zq_in5 (i := 27) rfl rfl
theorem wd_567 : Cond.code yX6_lay cX6_lay 3 none ∈ zq_all := zq_in5 (i := 53) rfl rfl
theorem wd_568 : Cond.code yX6_isCorner cX6_isCorner 2 (some .boolean) ∈ zq_all := zq_in5 (i := 46) rfl rfl
theorem wd_569 : Cond.methodLink RX6 153 yX6_isCorner ∈ zq_all := zq_in5 (i := 43) rfl rfl
theorem wd_570 : Cond.instanceMethod yX6_isCorner ∈ zq_all := zq_in5 (i := 45) rfl rfl
theorem wd_571 : Cond.selects RX6 yX6_isCorner yX6_isCorner ∈ zq_all := zq_in0 (i := 55) rfl rfl
theorem wd_572 : Cond.methodLink RX6 156 yX6_ones ∈ zq_all := zq_in5 (i := 47) rfl rfl
theorem wd_573 : Cond.static yX6_ones ∈ zq_all := zq_in5 (i := 48) rfl rfl
theorem wd_574 : Cond.methodLink RX6 159 yX6_lay ∈ zq_all := zq_in5 (i := 50) rfl rfl
theorem wd_575 : Cond.instanceMethod yX6_lay ∈ zq_all := zq_in5 (i := 52) rfl rfl
theorem wd_576 : Cond.selects RX6 yX6_lay yX6_lay ∈ zq_all := zq_in0 (i := 56) rfl rfl
theorem wd_577 : Cond.code yX6_fan cX6_fan 4 (some .int) ∈ zq_all := zq_in5 (i := 42) rfl rfl
theorem wd_578 : Cond.code yX6_turn cX6_turn 3 (some .int) ∈ zq_all := zq_in5 (i := 57) rfl rfl
theorem wd_579 : Cond.code yX6_mirror cX6_mirror 2 (some .int) ∈ zq_all := zq_in5 (i := 61) rfl rfl
theorem wd_580 : Cond.code yX6_exchange cX6_exchange 2 (some .int) ∈ zq_all := zq_in5 (i := 65) rfl rfl
theorem wd_581 : Cond.code yX6_lock cX6_lock 5 (some .int) ∈ zq_all := zq_in5 (i := 69) rfl rfl
theorem wd_582 : Cond.methodLink RX6 162 yX6_nextFlip ∈ zq_all := zq_in5 (i := 78) rfl rfl
theorem wd_583 : Cond.instanceMethod yX6_nextFlip ∈ zq_all := zq_in5 (i := 80) rfl rfl
theorem wd_584 : Cond.selects RX6 yX6_nextFlip yX6_nextFlip ∈ zq_all := zq_in0 (i := 58) rfl rfl
theorem wd_585 : Cond.code yX6_walk cX6_walk 4 (some .int) ∈ zq_all := zq_in5 (i := 73) rfl rfl
theorem wd_586 : Cond.code yX6_append cX6_append 2 (some .int) ∈ zq_all := zq_in5 (i := 85) rfl rfl
theorem wd_587 : Cond.fieldLink RX6 166 "FlipPolygonsModel" "length" "I" ∈ zq_all := zq_in4 (i := 187) rfl rfl
theorem wd_588 : Cond.code yX6_clearBuffer cX6_clearBuffer 2 (some .int) ∈ zq_all := zq_in5 (i := 89) rfl rfl
theorem wd_589 : Cond.code yX6_canStand cX6_canStand 3 (some .boolean) ∈ zq_all := zq_in5 (i := 101) rfl rfl
theorem wd_590 : Cond.code yX6_rightUpTo cX6_rightUpTo 2 (some .int) ∈ zq_all := zq_in5 (i := 97) rfl rfl
theorem wd_591 : Cond.methodLink RX6 169 yX6_canStand ∈ zq_all := zq_in5 (i := 98) rfl rfl
theorem wd_592 : Cond.instanceMethod yX6_canStand ∈ zq_all := zq_in5 (i := 100) rfl rfl
theorem wd_593 : Cond.selects RX6 yX6_canStand yX6_canStand ∈ zq_all := zq_in0 (i := 60) rfl rfl
theorem wd_594 : Cond.methodLink RX6 172 yX6_rightUpTo ∈ zq_all := zq_in5 (i := 94) rfl rfl
theorem wd_595 : Cond.instanceMethod yX6_rightUpTo ∈ zq_all := zq_in5 (i := 96) rfl rfl
theorem wd_596 : Cond.selects RX6 yX6_rightUpTo yX6_rightUpTo ∈ zq_all := zq_in0 (i := 59) rfl rfl
theorem wd_597 : Cond.code yX6_firstError cX6_firstError 1 (some .int) ∈ zq_all := zq_in5 (i := 93) rfl rfl
theorem wd_598 : Cond.code yX6_toldAt cX6_toldAt 2 (some .int) ∈ zq_all := zq_in5 (i := 113) rfl rfl
theorem wd_599 : Cond.code yX6_isTriangulation cX6_isTriangulation 4 (some .boolean) ∈ zq_all := zq_in5 (i := 109) rfl rfl
theorem wd_600 : Cond.methodLink RX6 175 yX6_toldAt ∈ zq_all := zq_in5 (i := 110) rfl rfl
theorem wd_601 : Cond.instanceMethod yX6_toldAt ∈ zq_all := zq_in5 (i := 112) rfl rfl
theorem wd_602 : Cond.selects RX6 yX6_toldAt yX6_toldAt ∈ zq_all := zq_in0 (i := 62) rfl rfl
theorem wd_603 : Cond.methodLink RX6 178 yX6_cross ∈ zq_all := zq_in5 (i := 114) rfl rfl
theorem wd_604 : Cond.instanceMethod yX6_cross ∈ zq_all := zq_in5 (i := 116) rfl rfl
theorem wd_605 : Cond.selects RX6 yX6_cross yX6_cross ∈ zq_all := zq_in0 (i := 63) rfl rfl
theorem wd_606 : Cond.methodLink RX6 181 yX6_isTriangulation ∈ zq_all := zq_in5 (i := 106) rfl rfl
theorem wd_607 : Cond.instanceMethod yX6_isTriangulation ∈ zq_all := zq_in5 (i := 108) rfl rfl
theorem wd_608 : Cond.selects RX6 yX6_isTriangulation yX6_isTriangulation ∈ zq_all := zq_in0 (i := 61) rfl rfl
theorem wd_609 : Cond.code yX6_read cX6_read 5 (some .int) ∈ zq_all := zq_in5 (i := 105) rfl rfl
theorem wd_610 : Cond.code yX6_isSnapshot cX6_isSnapshot 1 (some .boolean) ∈ zq_all := zq_in5 (i := 124) rfl rfl
theorem wd_611 : Cond.code yX6_take cX6_take 3 (some .int) ∈ zq_all := zq_in5 (i := 121) rfl rfl
theorem wd_612 : Cond.methodLink RX6 185 yX6_isSnapshot ∈ zq_all := zq_in5 (i := 122) rfl rfl
theorem wd_613 : Cond.static yX6_isSnapshot ∈ zq_all := zq_in5 (i := 123) rfl rfl
theorem wd_614 : Cond.code yX6_restore cX6_restore 3 (some .int) ∈ zq_all := zq_in5 (i := 128) rfl rfl
theorem wd_615 : Cond.code yX6_undo cX6_undo 2 (some .int) ∈ zq_all := zq_in5 (i := 132) rfl rfl
theorem wd_616 : Cond.code yX6_number cX6_number 3 (some .int) ∈ zq_all := zq_in5 (i := 136) rfl rfl
theorem wd_617 : Cond.code yX6_degreeOf cX6_degreeOf 3 (some .int) ∈ zq_all := zq_in5 (i := 156) rfl rfl
theorem wd_618 : Cond.code yX6_cornersOf cX6_cornersOf 7 (some .int) ∈ zq_all := zq_in5 (i := 152) rfl rfl
theorem wd_619 : Cond.methodLink RX6 188 yX6_degreeOf ∈ zq_all := zq_in5 (i := 153) rfl rfl
theorem wd_620 : Cond.instanceMethod yX6_degreeOf ∈ zq_all := zq_in5 (i := 155) rfl rfl
theorem wd_621 : Cond.selects RX6 yX6_degreeOf yX6_degreeOf ∈ zq_all := zq_in0 (i := 67) rfl rfl
theorem wd_622 : Cond.methodLink RX6 191 yX6_likenesses ∈ zq_all := zq_in5 (i := 145) rfl rfl
theorem wd_623 : Cond.instanceMethod yX6_likenesses ∈ zq_all := zq_in5 (i := 147) rfl rfl
theorem wd_624 : Cond.selects RX6 yX6_likenesses yX6_likenesses ∈ zq_all := zq_in0 (i := 65) rfl rfl
theorem wd_625 : Cond.methodLink RX6 194 yX6_cornersOf ∈ zq_all := zq_in5 (i := 149) rfl rfl
theorem wd_626 : Cond.instanceMethod yX6_cornersOf ∈ zq_all := zq_in5 (i := 151) rfl rfl
theorem wd_627 : Cond.selects RX6 yX6_cornersOf yX6_cornersOf ∈ zq_all := zq_in0 (i := 66) rfl rfl
theorem wd_628 : Cond.methodLink RX6 198 yX6_leastSoFar ∈ zq_all := zq_in5 (i := 157) rfl rfl
theorem wd_629 : Cond.instanceMethod yX6_leastSoFar ∈ zq_all := zq_in5 (i := 159) rfl rfl
theorem wd_630 : Cond.selects RX6 yX6_leastSoFar yX6_leastSoFar ∈ zq_all := zq_in0 (i := 68) rfl rfl
theorem wd_631 : Cond.code yX6_triangulationNow cX6_triangulationNow 4 (some .int) ∈ zq_all := zq_in5 (i := 144) rfl rfl
theorem wd_632 : Cond.methodLink RX6 201 yX6_triangulationNow ∈ zq_all := zq_in5 (i := 141) rfl rfl
theorem wd_633 : Cond.instanceMethod yX6_triangulationNow ∈ zq_all := zq_in5 (i := 143) rfl rfl
theorem wd_634 : Cond.selects RX6 yX6_triangulationNow yX6_triangulationNow ∈ zq_all := zq_in0 (i := 64) rfl rfl
theorem wd_635 : Cond.code yX6_triangulation cX6_triangulation 3 (some .int) ∈ zq_all := zq_in5 (i := 140) rfl rfl
theorem wd_636 : Cond.code yX6_degree cX6_degree 3 (some .int) ∈ zq_all := zq_in5 (i := 164) rfl rfl
theorem wd_637 : Cond.code yX6_otherNow cX6_otherNow 4 (some .int) ∈ zq_all := zq_in5 (i := 172) rfl rfl
theorem wd_638 : Cond.methodLink RX6 204 yX6_otherNow ∈ zq_all := zq_in5 (i := 169) rfl rfl
theorem wd_639 : Cond.instanceMethod yX6_otherNow ∈ zq_all := zq_in5 (i := 171) rfl rfl
theorem wd_640 : Cond.selects RX6 yX6_otherNow yX6_otherNow ∈ zq_all := zq_in0 (i := 69) rfl rfl
theorem wd_641 : Cond.code yX6_other cX6_other 4 (some .int) ∈ zq_all := zq_in5 (i := 168) rfl rfl
theorem wd_642 : Cond.code yX6_reason cX6_reason 2 (some .int) ∈ zq_all := zq_in5 (i := 180) rfl rfl
theorem wd_643 : Cond.code yX6_whyNot cX6_whyNot 3 (some .int) ∈ zq_all := zq_in5 (i := 176) rfl rfl
theorem wd_644 : Cond.methodLink RX6 207 yX6_reason ∈ zq_all := zq_in5 (i := 177) rfl rfl
theorem wd_645 : Cond.instanceMethod yX6_reason ∈ zq_all := zq_in5 (i := 179) rfl rfl
theorem wd_646 : Cond.selects RX6 yX6_reason yX6_reason ∈ zq_all := zq_in0 (i := 70) rfl rfl
theorem wd_647 : Cond.methodLink RX6 210 yX6_freeFrom ∈ zq_all := zq_in5 (i := 189) rfl rfl
theorem wd_648 : Cond.instanceMethod yX6_freeFrom ∈ zq_all := zq_in5 (i := 191) rfl rfl
theorem wd_649 : Cond.selects RX6 yX6_freeFrom yX6_freeFrom ∈ zq_all := zq_in0 (i := 72) rfl rfl
theorem wd_650 : Cond.code yX6_distanceNow cX6_distanceNow 3 (some .int) ∈ zq_all := zq_in5 (i := 188) rfl rfl
theorem wd_651 : Cond.methodLink RX6 213 yX6_distanceNow ∈ zq_all := zq_in5 (i := 185) rfl rfl
theorem wd_652 : Cond.instanceMethod yX6_distanceNow ∈ zq_all := zq_in5 (i := 187) rfl rfl
theorem wd_653 : Cond.selects RX6 yX6_distanceNow yX6_distanceNow ∈ zq_all := zq_in0 (i := 71) rfl rfl
theorem wd_654 : Cond.code yX6_distance cX6_distance 2 (some .int) ∈ zq_all := zq_in5 (i := 184) rfl rfl
theorem wd_655 : Cond.code yX6_flippedThen cX6_flippedThen 2 (some .int) ∈ zq_all := zq_in5 (i := 200) rfl rfl
theorem wd_656 : Cond.methodLink RX6 216 yX6_flippedThen ∈ zq_all := zq_in5 (i := 197) rfl rfl
theorem wd_657 : Cond.instanceMethod yX6_flippedThen ∈ zq_all := zq_in5 (i := 199) rfl rfl
theorem wd_658 : Cond.selects RX6 yX6_flippedThen yX6_flippedThen ∈ zq_all := zq_in0 (i := 73) rfl rfl
theorem wd_659 : Cond.code yX6_ifFlipped cX6_ifFlipped 3 (some .int) ∈ zq_all := zq_in5 (i := 196) rfl rfl
theorem wd_660 : Cond.code yX6_counted cX6_counted 2 (some .int) ∈ zq_all := zq_in5 (i := 208) rfl rfl
theorem wd_661 : Cond.code yX6_count cX6_count 2 (some .int) ∈ zq_all := zq_in5 (i := 204) rfl rfl
theorem wd_662 : Cond.methodLink RX6 219 yX6_counted ∈ zq_all := zq_in5 (i := 205) rfl rfl
theorem wd_663 : Cond.instanceMethod yX6_counted ∈ zq_all := zq_in5 (i := 207) rfl rfl
theorem wd_664 : Cond.selects RX6 yX6_counted yX6_counted ∈ zq_all := zq_in0 (i := 74) rfl rfl
theorem wd_665 : Cond.code yX6_share cX6_share 1 (some .double) ∈ zq_all := zq_in5 (i := 216) rfl rfl
theorem wd_666 : Cond.methodLink RX6 222 yX6_share ∈ zq_all := zq_in5 (i := 213) rfl rfl
theorem wd_667 : Cond.instanceMethod yX6_share ∈ zq_all := zq_in5 (i := 215) rfl rfl
theorem wd_668 : Cond.selects RX6 yX6_share yX6_share ∈ zq_all := zq_in0 (i := 75) rfl rfl
theorem wd_669 : Cond.code yX6_farShare cX6_farShare 1 (some .double) ∈ zq_all := zq_in5 (i := 212) rfl rfl
theorem wd_670 : Cond.code yX6_mix cX6_mix 3 none ∈ zq_all := zq_in5 (i := 225) rfl rfl
theorem wd_671 : Cond.constantLong RX6 226 (31) ∈ zq_all := zq_in5 (i := 226) rfl rfl
theorem wd_672 : Cond.fieldLink RX6 228 "FlipPolygonsModel" "hash" "J" ∈ zq_all := zq_in4 (i := 203) rfl rfl
theorem wd_673 : Cond.code yJxe99ae_isNaN_b9ae7 cJxe99ae_isNaN_b9ae7 2 (some .boolean) ∈ zq_all := zq_in5 (i := 232) rfl rfl
theorem wd_674 : Cond.code yJxe99ae_doubleToLongBits_ccdee cJxe99ae_doubleToLongBits_ccdee 2 (some .long) ∈ zq_all := zq_in5 (i := 229) rfl rfl
theorem wd_675 : Cond.initialized "java/lang/Double" ∈ zq_all := zq_in1 (i := 18) rfl rfl
theorem wd_676 : Cond.constantLong RJxe99ae 137 (9221120237041090560) ∈ zq_all := zq_in5 (i := 236) rfl rfl
theorem wd_677 : Cond.methodLink RJxe99ae 122 yJxe99ae_isNaN_b9ae7 ∈ zq_all := zq_in5 (i := 230) rfl rfl
theorem wd_678 : Cond.static yJxe99ae_isNaN_b9ae7 ∈ zq_all := zq_in5 (i := 231) rfl rfl
theorem wd_679 : Cond.constantLong RX6 232 (2477) ∈ zq_all := zq_in5 (i := 221) rfl rfl
theorem wd_680 : Cond.methodLink RX6 234 yX6_mix ∈ zq_all := zq_in5 (i := 222) rfl rfl
theorem wd_681 : Cond.instanceMethod yX6_mix ∈ zq_all := zq_in5 (i := 224) rfl rfl
theorem wd_682 : Cond.selects RX6 yX6_mix yX6_mix ∈ zq_all := zq_in0 (i := 76) rfl rfl
theorem wd_683 : Cond.methodLink RX6 238 yJxe99ae_doubleToLongBits_ccdee ∈ zq_all := zq_in5 (i := 227) rfl rfl
theorem wd_684 : Cond.static yJxe99ae_doubleToLongBits_ccdee ∈ zq_all := zq_in5 (i := 228) rfl rfl
theorem wd_685 : Cond.code yX6_digest cX6_digest 3 (some .long) ∈ zq_all := zq_in5 (i := 220) rfl rfl
theorem wd_686 : Cond.code yJ9_max_7cf53 cJ9_max_7cf53 2 (some .int) ∈ zq_all := zq_in2 (i := 192) rfl rfl
theorem wd_687 : Cond.code yJ9_min_7cf53 cJ9_min_7cf53 2 (some .int) ∈ zq_all := zq_in2 (i := 171) rfl rfl
theorem wd_688 : Cond.classLink RL 13 "java/lang/IllegalArgumentException" ∈ zq_all := zq_in3 (i := 41) rfl rfl
theorem wd_689 : Cond.methodLink RL 7 yX5_begin ∈ zq_all := zq_in3 (i := 42) rfl rfl
theorem wd_690 : Cond.instanceMethod yX5_begin ∈ zq_all := zq_in3 (i := 43) rfl rfl
theorem wd_691 : Cond.selects RX5 yX5_begin yX5_begin ∈ zq_all := zq_in3 (i := 44) rfl rfl
theorem wd_692 : Cond.codeWith yL_begin cL_begin 4 (some .int) [(0, 9, 12, 13)] ∈ zq_all := zq_in3 (i := 40) rfl rfl
theorem wd_693 : Cond.classLink RL 19 "java/lang/IndexOutOfBoundsException" ∈ zq_all := zq_in3 (i := 117) rfl rfl
theorem wd_694 : Cond.classLink RL 21 "java/lang/IllegalStateException" ∈ zq_all := zq_in3 (i := 118) rfl rfl
theorem wd_695 : Cond.methodLink RL 15 yX5_flip ∈ zq_all := zq_in3 (i := 119) rfl rfl
theorem wd_696 : Cond.instanceMethod yX5_flip ∈ zq_all := zq_in3 (i := 120) rfl rfl
theorem wd_697 : Cond.selects RX5 yX5_flip yX5_flip ∈ zq_all := zq_in3 (i := 121) rfl rfl
theorem wd_698 : Cond.codeWith yL_flip cL_flip 6 (some .int) [(0, 12, 15, 19), (0, 12, 19, 21)] ∈ zq_all := zq_in3 (i := 116) rfl rfl
theorem wd_699 : Cond.methodLink RL 23 yX5_fan ∈ zq_all := zq_in3 (i := 170) rfl rfl
theorem wd_700 : Cond.instanceMethod yX5_fan ∈ zq_all := zq_in3 (i := 171) rfl rfl
theorem wd_701 : Cond.selects RX5 yX5_fan yX5_fan ∈ zq_all := zq_in3 (i := 172) rfl rfl
theorem wd_702 : Cond.codeWith yL_fan cL_fan 5 (some .int) [(0, 10, 13, 19)] ∈ zq_all := zq_in3 (i := 169) rfl rfl
theorem wd_703 : Cond.methodLink RL 27 yX5_turn ∈ zq_all := zq_in3 (i := 184) rfl rfl
theorem wd_704 : Cond.instanceMethod yX5_turn ∈ zq_all := zq_in3 (i := 185) rfl rfl
theorem wd_705 : Cond.selects RX5 yX5_turn yX5_turn ∈ zq_all := zq_in3 (i := 186) rfl rfl
theorem wd_706 : Cond.codeWith yL_turn cL_turn 5 (some .int) [(0, 10, 13, 19), (0, 10, 17, 13)] ∈ zq_all := zq_in3 (i := 183) rfl rfl
theorem wd_707 : Cond.methodLink RL 30 yX5_mirror ∈ zq_all := zq_in3 (i := 197) rfl rfl
theorem wd_708 : Cond.instanceMethod yX5_mirror ∈ zq_all := zq_in3 (i := 198) rfl rfl
theorem wd_709 : Cond.selects RX5 yX5_mirror yX5_mirror ∈ zq_all := zq_in3 (i := 199) rfl rfl
theorem wd_710 : Cond.codeWith yL_mirror cL_mirror 4 (some .int) [(0, 9, 12, 19)] ∈ zq_all := zq_in3 (i := 196) rfl rfl
theorem wd_711 : Cond.methodLink RL 33 yX5_lock ∈ zq_all := zq_in3 (i := 205) rfl rfl
theorem wd_712 : Cond.instanceMethod yX5_lock ∈ zq_all := zq_in3 (i := 206) rfl rfl
theorem wd_713 : Cond.selects RX5 yX5_lock yX5_lock ∈ zq_all := zq_in3 (i := 207) rfl rfl
theorem wd_714 : Cond.codeWith yL_lock cL_lock 6 (some .int) [(0, 12, 15, 19), (0, 12, 19, 21)] ∈ zq_all := zq_in3 (i := 204) rfl rfl
theorem wd_715 : Cond.methodLink RL 37 yX5_walk ∈ zq_all := zq_in3 (i := 214) rfl rfl
theorem wd_716 : Cond.instanceMethod yX5_walk ∈ zq_all := zq_in3 (i := 215) rfl rfl
theorem wd_717 : Cond.selects RX5 yX5_walk yX5_walk ∈ zq_all := zq_in3 (i := 216) rfl rfl
theorem wd_718 : Cond.codeWith yL_walk cL_walk 4 (some .int) [(0, 9, 12, 13), (0, 9, 15, 21)] ∈ zq_all := zq_in3 (i := 213) rfl rfl
theorem wd_719 : Cond.codeWith yL_append cL_append 4 (some .int) [(0, 9, 12, 13), (0, 9, 15, 21)] ∈ zq_all := zq_in3 (i := 222) rfl rfl
theorem wd_720 : Cond.methodLink RL 40 yX5_append ∈ zq_all := zq_in3 (i := 223) rfl rfl
theorem wd_721 : Cond.instanceMethod yX5_append ∈ zq_all := zq_in3 (i := 224) rfl rfl
theorem wd_722 : Cond.selects RX5 yX5_append yX5_append ∈ zq_all := zq_in3 (i := 225) rfl rfl
theorem wd_723 : Cond.methodLink RL 43 yX5_read ∈ zq_all := zq_in4 (i := 0) rfl rfl
theorem wd_724 : Cond.instanceMethod yX5_read ∈ zq_all := zq_in4 (i := 1) rfl rfl
theorem wd_725 : Cond.selects RX5 yX5_read yX5_read ∈ zq_all := zq_in4 (i := 2) rfl rfl
theorem wd_726 : Cond.codeWith yL_read cL_read 4 (some .int) [(0, 9, 12, 19), (0, 9, 15, 13), (0, 9, 18, 21)] ∈ zq_all := zq_in3 (i := 239) rfl rfl
theorem wd_727 : Cond.codeWith yL_take cL_take 4 (some .int) [(0, 9, 12, 19)] ∈ zq_all := zq_in4 (i := 18) rfl rfl
theorem wd_728 : Cond.methodLink RL 46 yX5_take ∈ zq_all := zq_in4 (i := 19) rfl rfl
theorem wd_729 : Cond.instanceMethod yX5_take ∈ zq_all := zq_in4 (i := 20) rfl rfl
theorem wd_730 : Cond.selects RX5 yX5_take yX5_take ∈ zq_all := zq_in4 (i := 21) rfl rfl
theorem wd_731 : Cond.methodLink RL 49 yX5_restore ∈ zq_all := zq_in4 (i := 31) rfl rfl
theorem wd_732 : Cond.instanceMethod yX5_restore ∈ zq_all := zq_in4 (i := 32) rfl rfl
theorem wd_733 : Cond.selects RX5 yX5_restore yX5_restore ∈ zq_all := zq_in4 (i := 33) rfl rfl
theorem wd_734 : Cond.codeWith yL_restore cL_restore 4 (some .int) [(0, 9, 12, 19), (0, 9, 15, 21)] ∈ zq_all := zq_in4 (i := 30) rfl rfl
theorem wd_735 : Cond.codeWith yL_undo cL_undo 3 (some .int) [(0, 8, 11, 21)] ∈ zq_all := zq_in4 (i := 38) rfl rfl
theorem wd_736 : Cond.methodLink RL 52 yX5_undo ∈ zq_all := zq_in4 (i := 39) rfl rfl
theorem wd_737 : Cond.instanceMethod yX5_undo ∈ zq_all := zq_in4 (i := 40) rfl rfl
theorem wd_738 : Cond.selects RX5 yX5_undo yX5_undo ∈ zq_all := zq_in4 (i := 41) rfl rfl
theorem wd_739 : Cond.codeWith yL_number cL_number 5 (some .int) [(0, 10, 13, 19)] ∈ zq_all := zq_in4 (i := 46) rfl rfl
theorem wd_740 : Cond.methodLink RL 56 yX5_number ∈ zq_all := zq_in4 (i := 47) rfl rfl
theorem wd_741 : Cond.instanceMethod yX5_number ∈ zq_all := zq_in4 (i := 48) rfl rfl
theorem wd_742 : Cond.selects RX5 yX5_number yX5_number ∈ zq_all := zq_in4 (i := 49) rfl rfl
theorem wd_743 : Cond.methodLink RL 59 yX5_triangulation ∈ zq_all := zq_in4 (i := 54) rfl rfl
theorem wd_744 : Cond.instanceMethod yX5_triangulation ∈ zq_all := zq_in4 (i := 55) rfl rfl
theorem wd_745 : Cond.selects RX5 yX5_triangulation yX5_triangulation ∈ zq_all := zq_in4 (i := 56) rfl rfl
theorem wd_746 : Cond.codeWith yL_triangulation cL_triangulation 5 (some .int) [(0, 10, 13, 19), (0, 10, 17, 13)] ∈ zq_all := zq_in4 (i := 53) rfl rfl
theorem wd_747 : Cond.methodLink RL 62 yX5_degree ∈ zq_all := zq_in4 (i := 62) rfl rfl
theorem wd_748 : Cond.instanceMethod yX5_degree ∈ zq_all := zq_in4 (i := 63) rfl rfl
theorem wd_749 : Cond.selects RX5 yX5_degree yX5_degree ∈ zq_all := zq_in4 (i := 64) rfl rfl
theorem wd_750 : Cond.codeWith yL_degree cL_degree 5 (some .int) [(0, 10, 13, 19)] ∈ zq_all := zq_in4 (i := 61) rfl rfl
theorem wd_751 : Cond.methodLink RL 65 yX5_other ∈ zq_all := zq_in4 (i := 69) rfl rfl
theorem wd_752 : Cond.instanceMethod yX5_other ∈ zq_all := zq_in4 (i := 70) rfl rfl
theorem wd_753 : Cond.selects RX5 yX5_other yX5_other ∈ zq_all := zq_in4 (i := 71) rfl rfl
theorem wd_754 : Cond.codeWith yL_other cL_other 6 (some .int) [(0, 12, 15, 19)] ∈ zq_all := zq_in4 (i := 68) rfl rfl
theorem wd_755 : Cond.methodLink RL 68 yX5_whyNot ∈ zq_all := zq_in4 (i := 76) rfl rfl
theorem wd_756 : Cond.instanceMethod yX5_whyNot ∈ zq_all := zq_in4 (i := 77) rfl rfl
theorem wd_757 : Cond.selects RX5 yX5_whyNot yX5_whyNot ∈ zq_all := zq_in4 (i := 78) rfl rfl
theorem wd_758 : Cond.codeWith yL_whyNot cL_whyNot 5 (some .int) [(0, 10, 13, 19)] ∈ zq_all := zq_in4 (i := 75) rfl rfl
theorem wd_759 : Cond.methodLink RL 71 yX5_distance ∈ zq_all := zq_in4 (i := 83) rfl rfl
theorem wd_760 : Cond.instanceMethod yX5_distance ∈ zq_all := zq_in4 (i := 84) rfl rfl
theorem wd_761 : Cond.selects RX5 yX5_distance yX5_distance ∈ zq_all := zq_in4 (i := 85) rfl rfl
theorem wd_762 : Cond.codeWith yL_distance cL_distance 4 (some .int) [(0, 9, 12, 13)] ∈ zq_all := zq_in4 (i := 82) rfl rfl
theorem wd_763 : Cond.methodLink RL 74 yX5_ifFlipped ∈ zq_all := zq_in4 (i := 90) rfl rfl
theorem wd_764 : Cond.instanceMethod yX5_ifFlipped ∈ zq_all := zq_in4 (i := 91) rfl rfl
theorem wd_765 : Cond.selects RX5 yX5_ifFlipped yX5_ifFlipped ∈ zq_all := zq_in4 (i := 92) rfl rfl
theorem wd_766 : Cond.codeWith yL_ifFlipped cL_ifFlipped 5 (some .int) [(0, 10, 13, 19)] ∈ zq_all := zq_in4 (i := 89) rfl rfl
theorem wd_767 : Cond.methodLink RL 77 yX5_count ∈ zq_all := zq_in4 (i := 97) rfl rfl
theorem wd_768 : Cond.instanceMethod yX5_count ∈ zq_all := zq_in4 (i := 98) rfl rfl
theorem wd_769 : Cond.selects RX5 yX5_count yX5_count ∈ zq_all := zq_in4 (i := 99) rfl rfl
theorem wd_770 : Cond.codeWith yL_count cL_count 4 (some .int) [(0, 9, 12, 13)] ∈ zq_all := zq_in4 (i := 96) rfl rfl
theorem wd_771 : Cond.classLink RL 8 RX5 ∈ zq_all := zq_in1 (i := 19) rfl rfl
theorem wd_772 : Cond.instantiable RX5 11 ∈ zq_all := zq_in1 (i := 20) rfl rfl
theorem wd_773 : Cond.classLink RL 81 RX6 ∈ zq_all := zq_in4 (i := 101) rfl rfl
theorem wd_774 : Cond.instantiable RX6 22 ∈ zq_all := zq_in4 (i := 102) rfl rfl
theorem wd_775 : Cond.arrayClass .long ∈ zq_all := zq_in5 (i := 237) rfl rfl
theorem wd_776 : Cond.methodLink RL 80 yX5_init ∈ zq_all := zq_in1 (i := 21) rfl rfl
theorem wd_777 : Cond.instanceMethod yX5_init ∈ zq_all := zq_in1 (i := 22) rfl rfl
theorem wd_778 : Cond.methodLink RL 83 yX6_init ∈ zq_all := zq_in4 (i := 103) rfl rfl
theorem wd_779 : Cond.instanceMethod yX6_init ∈ zq_all := zq_in4 (i := 104) rfl rfl
theorem wd_780 : Cond.methodLink RL 84 yL_begin ∈ zq_all := zq_in3 (i := 38) rfl rfl
theorem wd_781 : Cond.static yL_begin ∈ zq_all := zq_in3 (i := 39) rfl rfl
theorem wd_782 : Cond.initialized RL ∈ zq_all := zq_in1 (i := 0) rfl rfl
theorem wd_783 : Cond.methodLink RL 89 yX6_begin ∈ zq_all := zq_in5 (i := 13) rfl rfl
theorem wd_784 : Cond.instanceMethod yX6_begin ∈ zq_all := zq_in5 (i := 14) rfl rfl
theorem wd_785 : Cond.selects RX6 yX6_begin yX6_begin ∈ zq_all := zq_in5 (i := 15) rfl rfl
theorem wd_786 : Cond.methodLink RL 90 yX6_thrown ∈ zq_all := zq_in5 (i := 9) rfl rfl
theorem wd_787 : Cond.instanceMethod yX6_thrown ∈ zq_all := zq_in5 (i := 10) rfl rfl
theorem wd_788 : Cond.selects RX6 yX6_thrown yX6_thrown ∈ zq_all := zq_in5 (i := 11) rfl rfl
theorem wd_789 : Cond.methodLink RL 93 yL_flip ∈ zq_all := zq_in3 (i := 114) rfl rfl
theorem wd_790 : Cond.static yL_flip ∈ zq_all := zq_in3 (i := 115) rfl rfl
theorem wd_791 : Cond.methodLink RL 96 yX6_flip ∈ zq_all := zq_in5 (i := 24) rfl rfl
theorem wd_792 : Cond.instanceMethod yX6_flip ∈ zq_all := zq_in5 (i := 25) rfl rfl
theorem wd_793 : Cond.selects RX6 yX6_flip yX6_flip ∈ zq_all := zq_in5 (i := 26) rfl rfl
theorem wd_794 : Cond.methodLink RL 97 yL_fan ∈ zq_all := zq_in3 (i := 167) rfl rfl
theorem wd_795 : Cond.static yL_fan ∈ zq_all := zq_in3 (i := 168) rfl rfl
theorem wd_796 : Cond.methodLink RL 100 yX6_fan ∈ zq_all := zq_in5 (i := 39) rfl rfl
theorem wd_797 : Cond.instanceMethod yX6_fan ∈ zq_all := zq_in5 (i := 40) rfl rfl
theorem wd_798 : Cond.selects RX6 yX6_fan yX6_fan ∈ zq_all := zq_in5 (i := 41) rfl rfl
theorem wd_799 : Cond.methodLink RL 101 yL_turn ∈ zq_all := zq_in3 (i := 181) rfl rfl
theorem wd_800 : Cond.static yL_turn ∈ zq_all := zq_in3 (i := 182) rfl rfl
theorem wd_801 : Cond.methodLink RL 103 yX6_turn ∈ zq_all := zq_in5 (i := 54) rfl rfl
theorem wd_802 : Cond.instanceMethod yX6_turn ∈ zq_all := zq_in5 (i := 55) rfl rfl
theorem wd_803 : Cond.selects RX6 yX6_turn yX6_turn ∈ zq_all := zq_in5 (i := 56) rfl rfl
theorem wd_804 : Cond.methodLink RL 104 yL_mirror ∈ zq_all := zq_in3 (i := 194) rfl rfl
theorem wd_805 : Cond.static yL_mirror ∈ zq_all := zq_in3 (i := 195) rfl rfl
theorem wd_806 : Cond.methodLink RL 106 yX6_mirror ∈ zq_all := zq_in5 (i := 58) rfl rfl
theorem wd_807 : Cond.instanceMethod yX6_mirror ∈ zq_all := zq_in5 (i := 59) rfl rfl
theorem wd_808 : Cond.selects RX6 yX6_mirror yX6_mirror ∈ zq_all := zq_in5 (i := 60) rfl rfl
theorem wd_809 : Cond.methodLink RL 107 yX5_exchange ∈ zq_all := zq_in2 (i := 44) rfl rfl
theorem wd_810 : Cond.instanceMethod yX5_exchange ∈ zq_all := zq_in2 (i := 45) rfl rfl
theorem wd_811 : Cond.selects RX5 yX5_exchange yX5_exchange ∈ zq_all := zq_in2 (i := 46) rfl rfl
theorem wd_812 : Cond.methodLink RL 110 yX6_exchange ∈ zq_all := zq_in5 (i := 62) rfl rfl
theorem wd_813 : Cond.instanceMethod yX6_exchange ∈ zq_all := zq_in5 (i := 63) rfl rfl
theorem wd_814 : Cond.selects RX6 yX6_exchange yX6_exchange ∈ zq_all := zq_in5 (i := 64) rfl rfl
theorem wd_815 : Cond.methodLink RL 111 yL_lock ∈ zq_all := zq_in3 (i := 202) rfl rfl
theorem wd_816 : Cond.static yL_lock ∈ zq_all := zq_in3 (i := 203) rfl rfl
theorem wd_817 : Cond.methodLink RL 114 yX6_lock ∈ zq_all := zq_in5 (i := 66) rfl rfl
theorem wd_818 : Cond.instanceMethod yX6_lock ∈ zq_all := zq_in5 (i := 67) rfl rfl
theorem wd_819 : Cond.selects RX6 yX6_lock yX6_lock ∈ zq_all := zq_in5 (i := 68) rfl rfl
theorem wd_820 : Cond.methodLink RL 115 yL_walk ∈ zq_all := zq_in3 (i := 211) rfl rfl
theorem wd_821 : Cond.static yL_walk ∈ zq_all := zq_in3 (i := 212) rfl rfl
theorem wd_822 : Cond.methodLink RL 117 yX6_walk ∈ zq_all := zq_in5 (i := 70) rfl rfl
theorem wd_823 : Cond.instanceMethod yX6_walk ∈ zq_all := zq_in5 (i := 71) rfl rfl
theorem wd_824 : Cond.selects RX6 yX6_walk yX6_walk ∈ zq_all := zq_in5 (i := 72) rfl rfl
theorem wd_825 : Cond.methodLink RL 118 yL_append ∈ zq_all := zq_in3 (i := 220) rfl rfl
theorem wd_826 : Cond.static yL_append ∈ zq_all := zq_in3 (i := 221) rfl rfl
theorem wd_827 : Cond.methodLink RL 120 yX6_append ∈ zq_all := zq_in5 (i := 82) rfl rfl
theorem wd_828 : Cond.instanceMethod yX6_append ∈ zq_all := zq_in5 (i := 83) rfl rfl
theorem wd_829 : Cond.selects RX6 yX6_append yX6_append ∈ zq_all := zq_in5 (i := 84) rfl rfl
theorem wd_830 : Cond.methodLink RL 121 yX5_clearBuffer ∈ zq_all := zq_in2 (i := 56) rfl rfl
theorem wd_831 : Cond.instanceMethod yX5_clearBuffer ∈ zq_all := zq_in2 (i := 57) rfl rfl
theorem wd_832 : Cond.selects RX5 yX5_clearBuffer yX5_clearBuffer ∈ zq_all := zq_in2 (i := 58) rfl rfl
theorem wd_833 : Cond.methodLink RL 124 yX6_clearBuffer ∈ zq_all := zq_in5 (i := 86) rfl rfl
theorem wd_834 : Cond.instanceMethod yX6_clearBuffer ∈ zq_all := zq_in5 (i := 87) rfl rfl
theorem wd_835 : Cond.selects RX6 yX6_clearBuffer yX6_clearBuffer ∈ zq_all := zq_in5 (i := 88) rfl rfl
theorem wd_836 : Cond.methodLink RL 125 yX5_firstError ∈ zq_all := zq_in2 (i := 64) rfl rfl
theorem wd_837 : Cond.instanceMethod yX5_firstError ∈ zq_all := zq_in2 (i := 65) rfl rfl
theorem wd_838 : Cond.selects RX5 yX5_firstError yX5_firstError ∈ zq_all := zq_in2 (i := 66) rfl rfl
theorem wd_839 : Cond.methodLink RL 128 yX6_firstError ∈ zq_all := zq_in5 (i := 90) rfl rfl
theorem wd_840 : Cond.instanceMethod yX6_firstError ∈ zq_all := zq_in5 (i := 91) rfl rfl
theorem wd_841 : Cond.selects RX6 yX6_firstError yX6_firstError ∈ zq_all := zq_in5 (i := 92) rfl rfl
theorem wd_842 : Cond.methodLink RL 129 yL_read ∈ zq_all := zq_in3 (i := 237) rfl rfl
theorem wd_843 : Cond.static yL_read ∈ zq_all := zq_in3 (i := 238) rfl rfl
theorem wd_844 : Cond.methodLink RL 131 yX6_read ∈ zq_all := zq_in5 (i := 102) rfl rfl
theorem wd_845 : Cond.instanceMethod yX6_read ∈ zq_all := zq_in5 (i := 103) rfl rfl
theorem wd_846 : Cond.selects RX6 yX6_read yX6_read ∈ zq_all := zq_in5 (i := 104) rfl rfl
theorem wd_847 : Cond.methodLink RL 132 yL_take ∈ zq_all := zq_in4 (i := 16) rfl rfl
theorem wd_848 : Cond.static yL_take ∈ zq_all := zq_in4 (i := 17) rfl rfl
theorem wd_849 : Cond.methodLink RL 134 yX6_take ∈ zq_all := zq_in5 (i := 118) rfl rfl
theorem wd_850 : Cond.instanceMethod yX6_take ∈ zq_all := zq_in5 (i := 119) rfl rfl
theorem wd_851 : Cond.selects RX6 yX6_take yX6_take ∈ zq_all := zq_in5 (i := 120) rfl rfl
theorem wd_852 : Cond.methodLink RL 135 yL_restore ∈ zq_all := zq_in4 (i := 28) rfl rfl
theorem wd_853 : Cond.static yL_restore ∈ zq_all := zq_in4 (i := 29) rfl rfl
theorem wd_854 : Cond.methodLink RL 137 yX6_restore ∈ zq_all := zq_in5 (i := 125) rfl rfl
theorem wd_855 : Cond.instanceMethod yX6_restore ∈ zq_all := zq_in5 (i := 126) rfl rfl
theorem wd_856 : Cond.selects RX6 yX6_restore yX6_restore ∈ zq_all := zq_in5 (i := 127) rfl rfl
theorem wd_857 : Cond.methodLink RL 138 yL_undo ∈ zq_all := zq_in4 (i := 36) rfl rfl
theorem wd_858 : Cond.static yL_undo ∈ zq_all := zq_in4 (i := 37) rfl rfl
theorem wd_859 : Cond.methodLink RL 141 yX6_undo ∈ zq_all := zq_in5 (i := 129) rfl rfl
theorem wd_860 : Cond.instanceMethod yX6_undo ∈ zq_all := zq_in5 (i := 130) rfl rfl
theorem wd_861 : Cond.selects RX6 yX6_undo yX6_undo ∈ zq_all := zq_in5 (i := 131) rfl rfl
theorem wd_862 : Cond.methodLink RL 142 yL_number ∈ zq_all := zq_in4 (i := 44) rfl rfl
theorem wd_863 : Cond.static yL_number ∈ zq_all := zq_in4 (i := 45) rfl rfl
theorem wd_864 : Cond.methodLink RL 144 yX6_number ∈ zq_all := zq_in5 (i := 133) rfl rfl
theorem wd_865 : Cond.instanceMethod yX6_number ∈ zq_all := zq_in5 (i := 134) rfl rfl
theorem wd_866 : Cond.selects RX6 yX6_number yX6_number ∈ zq_all := zq_in5 (i := 135) rfl rfl
theorem wd_867 : Cond.methodLink RL 145 yL_triangulation ∈ zq_all := zq_in4 (i := 51) rfl rfl
theorem wd_868 : Cond.static yL_triangulation ∈ zq_all := zq_in4 (i := 52) rfl rfl
theorem wd_869 : Cond.methodLink RL 147 yX6_triangulation ∈ zq_all := zq_in5 (i := 137) rfl rfl
theorem wd_870 : Cond.instanceMethod yX6_triangulation ∈ zq_all := zq_in5 (i := 138) rfl rfl
theorem wd_871 : Cond.selects RX6 yX6_triangulation yX6_triangulation ∈ zq_all := zq_in5 (i := 139) rfl rfl
theorem wd_872 : Cond.methodLink RL 148 yL_degree ∈ zq_all := zq_in4 (i := 59) rfl rfl
theorem wd_873 : Cond.static yL_degree ∈ zq_all := zq_in4 (i := 60) rfl rfl
theorem wd_874 : Cond.methodLink RL 150 yX6_degree ∈ zq_all := zq_in5 (i := 161) rfl rfl
theorem wd_875 : Cond.instanceMethod yX6_degree ∈ zq_all := zq_in5 (i := 162) rfl rfl
theorem wd_876 : Cond.selects RX6 yX6_degree yX6_degree ∈ zq_all := zq_in5 (i := 163) rfl rfl
theorem wd_877 : Cond.methodLink RL 151 yL_other ∈ zq_all := zq_in4 (i := 66) rfl rfl
theorem wd_878 : Cond.static yL_other ∈ zq_all := zq_in4 (i := 67) rfl rfl
theorem wd_879 : Cond.methodLink RL 153 yX6_other ∈ zq_all := zq_in5 (i := 165) rfl rfl
theorem wd_880 : Cond.instanceMethod yX6_other ∈ zq_all := zq_in5 (i := 166) rfl rfl
theorem wd_881 : Cond.selects RX6 yX6_other yX6_other ∈ zq_all := zq_in5 (i := 167) rfl rfl
theorem wd_882 : Cond.methodLink RL 154 yL_whyNot ∈ zq_all := zq_in4 (i := 73) rfl rfl
theorem wd_883 : Cond.static yL_whyNot ∈ zq_all := zq_in4 (i := 74) rfl rfl
theorem wd_884 : Cond.methodLink RL 156 yX6_whyNot ∈ zq_all := zq_in5 (i := 173) rfl rfl
theorem wd_885 : Cond.instanceMethod yX6_whyNot ∈ zq_all := zq_in5 (i := 174) rfl rfl
theorem wd_886 : Cond.selects RX6 yX6_whyNot yX6_whyNot ∈ zq_all := zq_in5 (i := 175) rfl rfl
theorem wd_887 : Cond.methodLink RL 157 yL_distance ∈ zq_all := zq_in4 (i := 80) rfl rfl
theorem wd_888 : Cond.static yL_distance ∈ zq_all := zq_in4 (i := 81) rfl rfl
theorem wd_889 : Cond.methodLink RL 159 yX6_distance ∈ zq_all := zq_in5 (i := 181) rfl rfl
theorem wd_890 : Cond.instanceMethod yX6_distance ∈ zq_all := zq_in5 (i := 182) rfl rfl
theorem wd_891 : Cond.selects RX6 yX6_distance yX6_distance ∈ zq_all := zq_in5 (i := 183) rfl rfl
theorem wd_892 : Cond.methodLink RL 160 yL_ifFlipped ∈ zq_all := zq_in4 (i := 87) rfl rfl
theorem wd_893 : Cond.static yL_ifFlipped ∈ zq_all := zq_in4 (i := 88) rfl rfl
theorem wd_894 : Cond.methodLink RL 162 yX6_ifFlipped ∈ zq_all := zq_in5 (i := 193) rfl rfl
theorem wd_895 : Cond.instanceMethod yX6_ifFlipped ∈ zq_all := zq_in5 (i := 194) rfl rfl
theorem wd_896 : Cond.selects RX6 yX6_ifFlipped yX6_ifFlipped ∈ zq_all := zq_in5 (i := 195) rfl rfl
theorem wd_897 : Cond.methodLink RL 163 yL_count ∈ zq_all := zq_in4 (i := 94) rfl rfl
theorem wd_898 : Cond.static yL_count ∈ zq_all := zq_in4 (i := 95) rfl rfl
theorem wd_899 : Cond.methodLink RL 165 yX6_count ∈ zq_all := zq_in5 (i := 201) rfl rfl
theorem wd_900 : Cond.instanceMethod yX6_count ∈ zq_all := zq_in5 (i := 202) rfl rfl
theorem wd_901 : Cond.selects RX6 yX6_count yX6_count ∈ zq_all := zq_in5 (i := 203) rfl rfl
theorem wd_902 : Cond.methodLink RL 166 yX5_farShare ∈ zq_all := zq_in2 (i := 87) rfl rfl
theorem wd_903 : Cond.instanceMethod yX5_farShare ∈ zq_all := zq_in2 (i := 88) rfl rfl
theorem wd_904 : Cond.selects RX5 yX5_farShare yX5_farShare ∈ zq_all := zq_in2 (i := 89) rfl rfl
theorem wd_905 : Cond.methodLink RL 170 yX6_farShare ∈ zq_all := zq_in5 (i := 209) rfl rfl
theorem wd_906 : Cond.instanceMethod yX6_farShare ∈ zq_all := zq_in5 (i := 210) rfl rfl
theorem wd_907 : Cond.selects RX6 yX6_farShare yX6_farShare ∈ zq_all := zq_in5 (i := 211) rfl rfl
theorem wd_908 : Cond.methodLink RL 171 yX5_digest ∈ zq_all := zq_in2 (i := 128) rfl rfl
theorem wd_909 : Cond.instanceMethod yX5_digest ∈ zq_all := zq_in2 (i := 129) rfl rfl
theorem wd_910 : Cond.selects RX5 yX5_digest yX5_digest ∈ zq_all := zq_in2 (i := 130) rfl rfl
theorem wd_911 : Cond.methodLink RL 175 yX6_digest ∈ zq_all := zq_in5 (i := 217) rfl rfl
theorem wd_912 : Cond.instanceMethod yX6_digest ∈ zq_all := zq_in5 (i := 218) rfl rfl
theorem wd_913 : Cond.selects RX6 yX6_digest yX6_digest ∈ zq_all := zq_in5 (i := 219) rfl rfl
theorem wd_914 : Cond.laysFinal "FlipPolygons$Polygon" "FlipPolygons$Polygon" "corners" "I" ∈ zq_all := zq_in1 (i := 75) rfl rfl
theorem wd_915 : Cond.laysFinal "FlipPolygons$Polygon" "FlipPolygons$Polygon" "diagonals" "I" ∈ zq_all := zq_in1 (i := 77) rfl rfl
theorem wd_916 : Cond.laysFinal "FlipPolygons$Polygon" "FlipPolygons$Polygon" "lesser" "[I" ∈ zq_all := zq_in1 (i := 79) rfl rfl
theorem wd_917 : Cond.laysFinal "FlipPolygons$Polygon" "FlipPolygons$Polygon" "greater" "[I" ∈ zq_all := zq_in1 (i := 81) rfl rfl
theorem wd_918 : Cond.laysFinal "FlipPolygons$Polygon" "FlipPolygons$Polygon" "numbers" "[I" ∈ zq_all := zq_in1 (i := 83) rfl rfl
theorem wd_919 : Cond.laysFinal "FlipPolygons$Polygon" "FlipPolygons$Polygon" "fans" "[I" ∈ zq_all := zq_in1 (i := 85) rfl rfl
theorem wd_920 : Cond.laysFinal "FlipPolygons$Polygon" "FlipPolygons$Polygon" "crossing" "[I" ∈ zq_all := zq_in1 (i := 87) rfl rfl
theorem wd_921 : Cond.laysFinal "FlipPolygons$Polygon" "FlipPolygons$Polygon" "afterTurn" "[I" ∈ zq_all := zq_in1 (i := 89) rfl rfl
theorem wd_922 : Cond.laysFinal "FlipPolygons$Polygon" "FlipPolygons$Polygon" "afterMirror" "[I" ∈ zq_all := zq_in1 (i := 91) rfl rfl
theorem wd_923 : Cond.laysFinal "FlipPolygons$FlipGraph" "FlipPolygons$FlipGraph" "polygon" "LFlipPolygons$Polygon;" ∈ zq_all := zq_in1 (i := 125) rfl rfl
theorem wd_924 : Cond.laysFinal "FlipPolygons$FlipGraph" "FlipPolygons$FlipGraph" "triangulations" "I" ∈ zq_all := zq_in1 (i := 127) rfl rfl
theorem wd_925 : Cond.laysFinal "FlipPolygons$FlipGraph" "FlipPolygons$FlipGraph" "classes" "I" ∈ zq_all := zq_in1 (i := 129) rfl rfl
theorem wd_926 : Cond.laysFinal "FlipPolygons$FlipGraph" "FlipPolygons$FlipGraph" "diameter" "I" ∈ zq_all := zq_in1 (i := 131) rfl rfl
theorem wd_927 : Cond.laysFinal "FlipPolygons$FlipGraph" "FlipPolygons$FlipGraph" "flipsOfEach" "I" ∈ zq_all := zq_in1 (i := 133) rfl rfl
theorem wd_928 : Cond.laysFinal "FlipPolygons$FlipGraph" "FlipPolygons$FlipGraph" "masks" "[I" ∈ zq_all := zq_in1 (i := 135) rfl rfl
theorem wd_929 : Cond.laysFinal "FlipPolygons$FlipGraph" "FlipPolygons$FlipGraph" "neighbors" "[I" ∈ zq_all := zq_in1 (i := 137) rfl rfl
theorem wd_930 : Cond.laysFinal "FlipPolygons$FlipGraph" "FlipPolygons$FlipGraph" "slots" "[I" ∈ zq_all := zq_in1 (i := 139) rfl rfl
theorem wd_931 : Cond.lays "FlipPolygons$FlipGraph" "FlipPolygons$FlipGraph" "found" "I" ∈ zq_all := zq_in1 (i := 141) rfl rfl
theorem wd_932 : Cond.lays "FlipPolygons$State" "FlipPolygons$State" "graph" "LFlipPolygons$FlipGraph;" ∈ zq_all := zq_in1 (i := 194) rfl rfl
theorem wd_933 : Cond.lays "FlipPolygons$State" "FlipPolygons$State" "present" "I" ∈ zq_all := zq_in1 (i := 196) rfl rfl
theorem wd_934 : Cond.lays "FlipPolygons$State" "FlipPolygons$State" "goal" "I" ∈ zq_all := zq_in1 (i := 198) rfl rfl
theorem wd_935 : Cond.lays "FlipPolygons$State" "FlipPolygons$State" "locks" "I" ∈ zq_all := zq_in1 (i := 200) rfl rfl
theorem wd_936 : Cond.lays "FlipPolygons$State" "FlipPolygons$State" "flips" "I" ∈ zq_all := zq_in1 (i := 202) rfl rfl
theorem wd_937 : Cond.laysFinal "FlipPolygons$Text" "FlipPolygons$Text" "codes" "[I" ∈ zq_all := zq_in1 (i := 220) rfl rfl
theorem wd_938 : Cond.lays "FlipPolygons$Text" "FlipPolygons$Text" "length" "I" ∈ zq_all := zq_in1 (i := 222) rfl rfl
theorem wd_939 : Cond.laysFinal "FlipPolygons$Reach" "FlipPolygons$Reach" "flips" "[I" ∈ zq_all := zq_in1 (i := 237) rfl rfl
theorem wd_940 : Cond.laysFinal "FlipPolygons$Reach" "FlipPolygons$Reach" "ways" "[I" ∈ zq_all := zq_in1 (i := 239) rfl rfl
theorem wd_941 : Cond.laysFinal "FlipPolygons$Reach" "FlipPolygons$Reach" "queue" "[I" ∈ zq_all := zq_in2 (i := 1) rfl rfl
theorem wd_942 : Cond.lays "FlipPolygons$Reach" "FlipPolygons$Reach" "graph" "LFlipPolygons$FlipGraph;" ∈ zq_all := zq_in2 (i := 3) rfl rfl
theorem wd_943 : Cond.lays "FlipPolygons$Reach" "FlipPolygons$Reach" "source" "I" ∈ zq_all := zq_in2 (i := 5) rfl rfl
theorem wd_944 : Cond.lays "FlipPolygons$Reach" "FlipPolygons$Reach" "barred" "I" ∈ zq_all := zq_in2 (i := 7) rfl rfl
theorem wd_945 : Cond.laysFinal "FlipPolygons" "FlipPolygons" "graphs" "[LFlipPolygons$FlipGraph;" ∈ zq_all := zq_in2 (i := 21) rfl rfl
theorem wd_946 : Cond.laysFinal "FlipPolygons" "FlipPolygons" "now" "LFlipPolygons$State;" ∈ zq_all := zq_in2 (i := 23) rfl rfl
theorem wd_947 : Cond.laysFinal "FlipPolygons" "FlipPolygons" "saved" "[LFlipPolygons$State;" ∈ zq_all := zq_in2 (i := 25) rfl rfl
theorem wd_948 : Cond.lays "FlipPolygons" "FlipPolygons" "savedStates" "I" ∈ zq_all := zq_in2 (i := 27) rfl rfl
theorem wd_949 : Cond.laysFinal "FlipPolygons" "FlipPolygons" "snapshots" "[LFlipPolygons$State;" ∈ zq_all := zq_in2 (i := 29) rfl rfl
theorem wd_950 : Cond.laysFinal "FlipPolygons" "FlipPolygons" "text" "LFlipPolygons$Text;" ∈ zq_all := zq_in2 (i := 31) rfl rfl
theorem wd_951 : Cond.laysFinal "FlipPolygons" "FlipPolygons" "fromPresent" "LFlipPolygons$Reach;" ∈ zq_all := zq_in2 (i := 33) rfl rfl
theorem wd_952 : Cond.laysFinal "FlipPolygons" "FlipPolygons" "fromGoal" "LFlipPolygons$Reach;" ∈ zq_all := zq_in2 (i := 35) rfl rfl
theorem wd_953 : Cond.laysFinal "FlipPolygons" "FlipPolygons" "fromGoalWithLocks" "LFlipPolygons$Reach;" ∈ zq_all := zq_in2 (i := 37) rfl rfl
theorem wd_954 : Cond.laysFinal "FlipPolygons" "FlipPolygons" "fromPart" "LFlipPolygons$Reach;" ∈ zq_all := zq_in2 (i := 39) rfl rfl
theorem wd_955 : Cond.laysFinal "FlipPolygons" "FlipPolygons" "parts" "[I" ∈ zq_all := zq_in2 (i := 41) rfl rfl
theorem wd_956 : Cond.code ({ cls := "FlipPolygons", name := "reachFrom", desc := "(I)LFlipPolygons$Reach;" } : Jvm.MethodName) prog_1_method_35_code (3 : Nat) (Option.some (Jvm.ClassFile.FieldType.object "FlipPolygons$Reach")) ∈ zq_all := zq_in2 (i := 102) rfl rfl
theorem wd_957 : Cond.code ({ cls := "FlipPolygons", name := "reachWithLocks", desc := "()LFlipPolygons$Reach;" } : Jvm.MethodName) prog_1_method_36_code (2 : Nat) (Option.some (Jvm.ClassFile.FieldType.object "FlipPolygons$Reach")) ∈ zq_all := zq_in2 (i := 219) rfl rfl
theorem wd_958 : Cond.native ({ cls := "java/lang/Throwable", name := "fillInStackTrace", desc := "(I)Ljava/lang/Throwable;" } : Jvm.MethodName) ∈ zq_all := zq_in3 (i := 86) rfl rfl
theorem wd_959 : Cond.methodLink "FlipPolygons" (77 : Nat) ({ cls := "java/lang/IllegalArgumentException", name := "<init>", desc := "(Ljava/lang/String;)V" } : Jvm.MethodName) ∈ zq_all := zq_in3 (i := 88) rfl rfl
theorem wd_960 : Cond.arrayClass Jvm.ClassFile.FieldType.byte ∈ zq_all := zq_in3 (i := 113) rfl rfl
theorem wd_961 : Cond.methodLink "FlipPolygons" (107 : Nat) ({ cls := "java/lang/IndexOutOfBoundsException", name := "<init>", desc := "(Ljava/lang/String;)V" } : Jvm.MethodName) ∈ zq_all := zq_in3 (i := 137) rfl rfl
theorem wd_962 : Cond.methodLink "FlipPolygons" (123 : Nat) ({ cls := "java/lang/IllegalStateException", name := "<init>", desc := "(Ljava/lang/String;)V" } : Jvm.MethodName) ∈ zq_all := zq_in3 (i := 153) rfl rfl
theorem wd_963 : Cond.laysFinal "FlipPolygonsModel" "FlipPolygonsModel" "z" "[I" ∈ zq_all := zq_in4 (i := 204) rfl rfl
theorem wd_964 : Cond.lays "FlipPolygonsModel" "FlipPolygonsModel" "states" "I" ∈ zq_all := zq_in4 (i := 206) rfl rfl
theorem wd_965 : Cond.laysFinal "FlipPolygonsModel" "FlipPolygonsModel" "history" "[I" ∈ zq_all := zq_in4 (i := 208) rfl rfl
theorem wd_966 : Cond.laysFinal "FlipPolygonsModel" "FlipPolygonsModel" "snaps" "[I" ∈ zq_all := zq_in4 (i := 210) rfl rfl
theorem wd_967 : Cond.laysFinal "FlipPolygonsModel" "FlipPolygonsModel" "taken" "[I" ∈ zq_all := zq_in4 (i := 212) rfl rfl
theorem wd_968 : Cond.lays "FlipPolygonsModel" "FlipPolygonsModel" "length" "I" ∈ zq_all := zq_in4 (i := 214) rfl rfl
theorem wd_969 : Cond.laysFinal "FlipPolygonsModel" "FlipPolygonsModel" "text" "[I" ∈ zq_all := zq_in4 (i := 216) rfl rfl
theorem wd_970 : Cond.lays "FlipPolygonsModel" "FlipPolygonsModel" "thrown" "I" ∈ zq_all := zq_in4 (i := 218) rfl rfl
theorem wd_971 : Cond.lays "FlipPolygonsModel" "FlipPolygonsModel" "laid" "I" ∈ zq_all := zq_in4 (i := 220) rfl rfl
theorem wd_972 : Cond.lays "FlipPolygonsModel" "FlipPolygonsModel" "diagonals" "I" ∈ zq_all := zq_in4 (i := 222) rfl rfl
theorem wd_973 : Cond.laysFinal "FlipPolygonsModel" "FlipPolygonsModel" "lesser" "[I" ∈ zq_all := zq_in4 (i := 224) rfl rfl
theorem wd_974 : Cond.laysFinal "FlipPolygonsModel" "FlipPolygonsModel" "greater" "[I" ∈ zq_all := zq_in4 (i := 226) rfl rfl
theorem wd_975 : Cond.laysFinal "FlipPolygonsModel" "FlipPolygonsModel" "numbers" "[I" ∈ zq_all := zq_in4 (i := 228) rfl rfl
theorem wd_976 : Cond.lays "FlipPolygonsModel" "FlipPolygonsModel" "all" "I" ∈ zq_all := zq_in4 (i := 230) rfl rfl
theorem wd_977 : Cond.laysFinal "FlipPolygonsModel" "FlipPolygonsModel" "masks" "[I" ∈ zq_all := zq_in4 (i := 232) rfl rfl
theorem wd_978 : Cond.laysFinal "FlipPolygonsModel" "FlipPolygonsModel" "leads" "[I" ∈ zq_all := zq_in4 (i := 234) rfl rfl
theorem wd_979 : Cond.lays "FlipPolygonsModel" "FlipPolygonsModel" "classes" "I" ∈ zq_all := zq_in4 (i := 236) rfl rfl
theorem wd_980 : Cond.lays "FlipPolygonsModel" "FlipPolygonsModel" "widest" "I" ∈ zq_all := zq_in4 (i := 238) rfl rfl
theorem wd_981 : Cond.laysFinal "FlipPolygonsModel" "FlipPolygonsModel" "far" "[I" ∈ zq_all := zq_in5 (i := 0) rfl rfl
theorem wd_982 : Cond.laysFinal "FlipPolygonsModel" "FlipPolygonsModel" "ways" "[I" ∈ zq_all := zq_in5 (i := 2) rfl rfl
theorem wd_983 : Cond.laysFinal "FlipPolygonsModel" "FlipPolygonsModel" "order" "[I" ∈ zq_all := zq_in5 (i := 4) rfl rfl
theorem wd_984 : Cond.lays "FlipPolygonsModel" "FlipPolygonsModel" "hash" "J" ∈ zq_all := zq_in5 (i := 6) rfl rfl
theorem wd_985 : Cond.methodLink "java/lang/Double" (134 : Nat) ({ cls := "java/lang/Double", name := "doubleToRawLongBits", desc := "(D)J" } : Jvm.MethodName) ∈ zq_all := zq_in5 (i := 233) rfl rfl
theorem wd_986 : Cond.static ({ cls := "java/lang/Double", name := "doubleToRawLongBits", desc := "(D)J" } : Jvm.MethodName) ∈ zq_all := zq_in5 (i := 234) rfl rfl
theorem wd_987 : Cond.native ({ cls := "java/lang/Double", name := "doubleToRawLongBits", desc := "(D)J" } : Jvm.MethodName) ∈ zq_all := zq_in5 (i := 235) rfl rfl
end
section
/-! the base layer: heaps as functions of places, the judgement zq_W, a row an instruction -/
/-- a heap: how many cells, ints by place and index, longs, references (places) -/
abbrev zq_H : Type := Nat × (Nat → Nat → Int32) × (Nat → Nat → Int64) × (Nat → Nat → Option Nat)
/-- what stays: the tables' numbers, the array classes, the first address, the static arrays -/
abbrev zq_E : Type := va_G × (Nat → ClassId) × Nat × (Nat → Nat)
/-- the layout: 0..6 an object of that class, 10 int[], 11 long[], 12 FlipGraph[], 13 State[]; the length -/
def zq_shl : List (Nat × Nat) := [(5, 0), (12, 6), (0, 0), (1, 0), (10, 2), (10, 2), (10, 16), (10, 4), (10, 2), (10, 2), (10, 2), (10, 2), (10, 2), (10, 4), (0, 0), (1, 0), (10, 5), (10, 5), (10, 25), (10, 5), (10, 5), (10, 5), (10, 5), (10, 5), (10, 10), (10, 16), (0, 0), (1, 0), (10, 9), (10, 9), (10, 36), (10, 6), (10, 9), (10, 9), (10, 9), (10, 14), (10, 42), (10, 32), (0, 0), (1, 0), (10, 14), (10, 14), (10, 49), (10, 7), (10, 14), (10, 14), (10, 14), (10, 42), (10, 168), (10, 128), (0, 0), (1, 0), (10, 20), (10, 20), (10, 64), (10, 8), (10, 20), (10, 20), (10, 20), (10, 132), (10, 660), (10, 512), (0, 0), (1, 0), (10, 27), (10, 27), (10, 81), (10, 9), (10, 27), (10, 27), (10, 27), (10, 429), (10, 2574), (10, 1024), (3, 0), (13, 6), (3, 0), (3, 0), (3, 0), (3, 0), (3, 0), (3, 0), (13, 2), (3, 0), (3, 0), (4, 0), (10, 60), (2, 0), (10, 429), (10, 429), (10, 429), (2, 0), (10, 429), (10, 429), (10, 429), (2, 0), (10, 429), (10, 429), (10, 429), (2, 0), (10, 429), (10, 429), (10, 429), (10, 7), (6, 0), (10, 5), (10, 30), (10, 10), (10, 2), (10, 60), (10, 27), (10, 27), (10, 81), (10, 429), (10, 2574), (10, 429), (10, 429), (10, 429), (11, 1)]
def zq_sh (k : Nat) : Nat × Nat := zq_shl.getD k (99, 0)
def zq_fkl : List (List Nat) := [[2,0,0,0,0,2,2,2,0],[0,0,2,2,2,2,2,2,2],[2,2,2,2,0,0],[2,0,0,0,0],[2,0],[2,2,2,0,2,2,2,2,2,2,2],[2,0,2,2,2,0,2,0,0,0,2,2,2,0,2,2,0,0,2,2,2,1]]
def zq_fk (c : Nat) : List Nat := zq_fkl.getD c []
def zq_tr (s0 : Nat) : Value → Value
  | .ref k => .ref (s0 + k)
  | .retAddr a => .ref a
  | v => v
theorem zq_tr_cat (s0 : Nat) (v : Value) : (zq_tr s0 v).category = v.category := by cases v <;> rfl
theorem zq_tr_sum (s0 : Nat) (st : List Value) : ((st.map (zq_tr s0)).map fun v => v.category).sum = (st.map fun v => v.category).sum := by
  induction st with
  | nil => rfl
  | cons v st ih => simp only [List.map_cons, List.sum_cons, zq_tr_cat, ih]
/-- a reference that may be null -/
def zq_rv : Option Nat → Value
  | none => .null
  | some k => .ref k
theorem zq_tr_rv (s0 : Nat) (r : Option Nat) : zq_tr s0 (zq_rv r) = va_rf (r.map (s0 + ·)) := by cases r <;> rfl
def zq_fv (s0 : Nat) (h : zq_H) (t j k : Nat) : Value := if k = 0 then .int (h.2.1 t j) else if k = 1 then .long (h.2.2.1 t j) else va_rf ((h.2.2.2 t j).map (s0 + ·))
def zq_fs (c s0 : Nat) (h : zq_H) (t : Nat) : List Value := (zq_fk c).mapIdx (fun j k => zq_fv s0 h t j k)
def zq_cell (E : zq_E) (h : zq_H) (t : Nat) : va_E :=
  if (zq_sh t).1 = 10 then .inl (E.2.1 0, (zq_sh t).2, .inl (h.2.1 t))
  else if (zq_sh t).1 = 11 then .inl (E.2.1 1, (zq_sh t).2, .inr (.inl (h.2.2.1 t)))
  else if (zq_sh t).1 = 12 then .inl (E.2.1 2, (zq_sh t).2, .inr (.inr (.inr (.inr (fun j => (h.2.2.2 t j).map (E.2.2.1 + ·))))))
  else if (zq_sh t).1 = 13 then .inl (E.2.1 3, (zq_sh t).2, .inr (.inr (.inr (.inr (fun j => (h.2.2.2 t j).map (E.2.2.1 + ·))))))
  else .inr ((zq_sh t).1, zq_fs (zq_sh t).1 E.2.2.1 h t)
def zq_wl (E : zq_E) (h : zq_H) : va_W := (List.range h.1).map (fun t => (E.2.2.1 + t, zq_cell E h t))
theorem zq_wl_len (E : zq_E) (h : zq_H) : (zq_wl E h).length = h.1 := by simp [zq_wl]
theorem zq_wl_get {E : zq_E} {h : zq_H} {t : Nat} (ht : t < h.1) : (zq_wl E h)[t]? = some (E.2.2.1 + t, zq_cell E h t) := by
  simp [zq_wl, ht]
theorem zq_wl_inv {E : zq_E} {h : zq_H} {t : Nat} {q : Nat × va_E} (hq : (zq_wl E h)[t]? = some q) : t < h.1 ∧ q = (E.2.2.1 + t, zq_cell E h t) := by
  have hl : t < (zq_wl E h).length := (List.getElem?_eq_some_iff.mp hq).1
  rw [zq_wl_len] at hl
  exact ⟨hl, Option.some.inj (hq.symm.trans (zq_wl_get hl))⟩
theorem zq_wl_set {E : zq_E} {h h' : zq_H} {t : Nat} {e : va_E} (h1 : h'.1 = h.1) (ht : t < h.1) (he : zq_cell E h' t = e) (ho : ∀ j, j ≠ t → zq_cell E h' j = zq_cell E h j) : zq_wl E h' = (zq_wl E h).set t (E.2.2.1 + t, e) := by
  subst he
  apply List.ext_getElem?
  intro i
  by_cases hi : i = t
  · subst hi
    rw [zq_wl_get (by omega), List.getElem?_set_self (by rw [zq_wl_len]; exact ht)]
  · rw [List.getElem?_set_ne (Ne.symm hi)]
    by_cases hl : i < h.1
    · rw [zq_wl_get (by omega), zq_wl_get hl, ho i hi]
    · rw [List.getElem?_eq_none (by rw [zq_wl_len]; omega), List.getElem?_eq_none (by rw [zq_wl_len]; omega)]
theorem zq_wl_push {E : zq_E} {h h' : zq_H} {e : va_E} (h1 : h'.1 = h.1 + 1) (he : zq_cell E h' h.1 = e) (ho : ∀ j, j < h.1 → zq_cell E h' j = zq_cell E h j) : zq_wl E h' = zq_wl E h ++ [(E.2.2.1 + h.1, e)] := by
  subst he
  unfold zq_wl
  rw [h1, List.range_succ, List.map_append]
  congr 1
  apply List.map_congr_left
  intro j hj
  rw [ho j (List.mem_range.mp hj)]
theorem zq_wl_D (E : zq_E) (h : zq_H) : va_D (fun q => E.2.2.1 ≤ q) (zq_wl E h) := by
  refine ⟨fun i j p q hi hj hpq => ?_, fun k q hk => ?_⟩
  · rw [(zq_wl_inv hi).2, (zq_wl_inv hj).2] at hpq
    simp only at hpq
    omega
  · rw [(zq_wl_inv hk).2]
    simp only
    omega
/-- nest words -/
def zq_nw : List Cond := [
  .fieldLinkNest RX5 116 "FlipPolygons$State" "locks" "I" "FlipPolygons",
  .fieldLinkNest RX5 157 "FlipPolygons$State" "goal" "I" "FlipPolygons",
  .fieldLinkNest RX5 160 "FlipPolygons$State" "present" "I" "FlipPolygons",
  .fieldLinkNest RX5 189 "FlipPolygons$Text" "length" "I" "FlipPolygons",
  .fieldLinkNest RX5 221 "FlipPolygons$State" "flips" "I" "FlipPolygons",
  .fieldLinkNest RX5 320 "FlipPolygons$Polygon" "diagonals" "I" "FlipPolygons",
  .fieldLinkNest RX5 332 "FlipPolygons$FlipGraph" "triangulations" "I" "FlipPolygons",
  .fieldLinkNest RX5 335 "FlipPolygons$FlipGraph" "classes" "I" "FlipPolygons",
  .fieldLinkNest RX5 338 "FlipPolygons$FlipGraph" "diameter" "I" "FlipPolygons",
  .fieldLinkNest RX5 350 "FlipPolygons$Polygon" "lesser" "[I" "FlipPolygons",
  .fieldLinkNest RX5 353 "FlipPolygons$Polygon" "greater" "[I" "FlipPolygons",
  .fieldLinkNest RX5 83 "FlipPolygons$State" "graph" "LFlipPolygons$FlipGraph;" "FlipPolygons",
  .fieldLinkNest RX5 87 "FlipPolygons$FlipGraph" "polygon" "LFlipPolygons$Polygon;" "FlipPolygons",
  .fieldLinkNest RX5 91 "FlipPolygons$Polygon" "corners" "I" "FlipPolygons",
  .fieldLinkNest RX0 15 "FlipPolygons$Polygon" "corners" "I" "FlipPolygons",
  .fieldLinkNest RX0 21 "FlipPolygons" "TRIANGULATIONS" "[I" "FlipPolygons",
  .fieldLinkNest RX0 28 "FlipPolygons" "CLASSES" "[I" "FlipPolygons",
  .fieldLinkNest RX0 34 "FlipPolygons" "DIAMETERS" "[I" "FlipPolygons",
  .fieldLinkNest RX2 48 "FlipPolygons$FlipGraph" "masks" "[I" "FlipPolygons",
  .fieldLinkNest RX2 51 "FlipPolygons$FlipGraph" "flipsOfEach" "I" "FlipPolygons",
  .fieldLinkNest RX2 57 "FlipPolygons$FlipGraph" "triangulations" "I" "FlipPolygons",
  .fieldLinkNest RX3 15 "FlipPolygons$FlipGraph" "polygon" "LFlipPolygons$Polygon;" "FlipPolygons",
  .fieldLinkNest RX4 19 "FlipPolygons$Polygon" "corners" "I" "FlipPolygons",
  .fieldLinkNest RX4 50 "FlipPolygons$Polygon" "crossing" "[I" "FlipPolygons",
  .methodLinkNest RX5 29 yX3_init "FlipPolygons",
  .methodLinkNest RX1 79 yX5_isIn "FlipPolygons",
  .methodLinkNest RX4 46 yX5_isIn "FlipPolygons"]
def zq_strs : List (Nat × String) := [(75, "n is out of range"), (105, "no such triangulation or diagonal"), (121, "the diagonal is not there, or is locked"), (130, "no such triangulation or corner"), (144, "no such triangulation"), (146, "k is out of range"), (163, "no such diagonal"), (165, "the diagonal is not there"), (167, "flips is out of range"), (173, "there is no distance"), (178, "the code is out of range"), (184, "the buffer is full"), (203, "the buffer is not a complete triangulation"), (208, "a diagonal is told twice, or two of them cross"), (213, "no such snapshot"), (219, "the snapshot was not taken"), (227, "no state is saved"), (229, "what is out of range")]
def zq_tab (i : Nat) : List Int32 := [[2, 5, 14, 42, 132, 429], [1, 1, 3, 4, 12, 27], [1, 2, 4, 5, 7, 9]].getD i []
def zq_stn (i : Nat) : String := ["TRIANGULATIONS", "CLASSES", "DIAMETERS"].getD i ""
theorem zq_Nw_warm {w : Cond} (hw : w ∈ zq_nw) {s U : State} (hW : s.WarmedH U.vm) (h : va_Nw w s) : va_Nw w U := by
  simp only [zq_nw, List.mem_cons, List.not_mem_nil, or_false] at hw
  rcases hw with rfl | rfl | rfl | rfl | rfl | rfl | rfl | rfl | rfl | rfl | rfl | rfl | rfl | rfl | rfl | rfl | rfl | rfl | rfl | rfl | rfl | rfl | rfl | rfl | rfl | rfl | rfl
  all_goals first | exact va_Nw.warmF hW h | exact va_Nw.warmM hW h
theorem zq_Nw_on {w : Cond} (hw : w ∈ zq_nw) : w.onTables = true := by
  have h : ∀ w ∈ zq_nw, w.onTables = true := by decide +kernel
  exact h w hw
abbrev zq_A (E : zq_E) : Nat → Prop := fun q => E.2.2.1 ≤ q
/-- what stays of the start: nest words, the static arrays, the texts, what a throw wants -/
def zq_SF (E : zq_E) (U : State) (H : Heap) : Prop :=
  (∀ w ∈ zq_nw, va_Nw w U) ∧ (∀ i, i < 3 → va_Z "FlipPolygons" (zq_stn i) "[I" (.ref (E.2.2.2 i)) (zq_A E) U H ∧ va_T .int (E.2.2.2 i) 6 (fun j => .int ((zq_tab i).getD j 0)) (zq_A E) U H) ∧
  (∀ q ∈ zq_strs, ∃ a, vk_R "FlipPolygons" q.1 q.2 a U) ∧ vx_Zq Bundle.tN "UNASSIGNED_STACK" Bundle.steD (zq_A E) U H ∧ vx_Zq Bundle.tN "SUPPRESSED_SENTINEL" Bundle.listD (zq_A E) U H ∧ va_AO "FlipPolygons$FlipGraph" U ∧ va_AO "FlipPolygons$State" U
theorem zq_SF.moved {E : zq_E} {s U : State} {H0 H : Heap} (hW : s.WarmedH U.vm) (hk : ∀ a : Nat, a < H0.size → ¬ zq_A E a → H[a]? = H0[a]?) (h : zq_SF E s H0) : zq_SF E U H := by
  obtain ⟨h1, h2, h3, h4, h5, h6, h7⟩ := h
  refine ⟨fun w hw => zq_Nw_warm hw hW (h1 w hw), fun i hi => ⟨((h2 i hi).1.kept hk).moved hW.alike, ((h2 i hi).2.kept hk).moved hW.alike⟩, fun q hq => ?_, (h4.kept hk).moved hW.alike, (h5.kept hk).moved hW.alike, h6.moved hW.alike, h7.moved hW.alike⟩
  obtain ⟨a, ha⟩ := h3 q hq
  exact ⟨a, ha.warm hW⟩
theorem zq_SF.same {E : zq_E} {s U : State} {H : Heap} (hv : U.vm = s.vm) (h : zq_SF E s H) : zq_SF E U H := by
  obtain ⟨h1, h2, h3, h4, h5, h6, h7⟩ := h
  have hal : s.vm.Alike U.vm := by rw [hv]; exact Vm.Alike.refl _
  refine ⟨fun w hw => va_Nw.same (zq_Nw_on hw) hv.symm (h1 w hw), fun i hi => ⟨(h2 i hi).1.moved hal, (h2 i hi).2.moved hal⟩, fun q hq => ?_, h4.moved hal, h5.moved hal, h6.moved hal, h7.moved hal⟩
  obtain ⟨a, ha⟩ := h3 q hq
  exact ⟨a, ha.same hv⟩
abbrev zq_tys (E : zq_E) : List (ClassId × FieldType) := [(E.2.1 0, .int), (E.2.1 1, .long), (E.2.1 2, .object "FlipPolygons$FlipGraph"), (E.2.1 3, .object "FlipPolygons$State")]
/-- what a method finds; tz: the heap's size is told -/
def zq_Pre (E : zq_E) (h : zq_H) (tz : Option Nat) (U : State) : Prop :=
  va_P E.1 vwCl (zq_wl E h) U.heap ∧ va_K E.1 vwCl (zq_tys E) U ∧ zq_SF E U U.heap ∧ E.2.2.1 ≤ U.heap.size ∧ ∀ n, tz = some n → U.heap.size = E.2.2.1 + n
theorem zq_Pre.blind {E : zq_E} {h : zq_H} {tz : Option Nat} (av : List Value) : FrameBlind (va_Pc av (zq_Pre E h tz)) := by
  intro a U g mk hq
  obtain ⟨q0, q1, q2, q3, q4⟩ := hq
  exact ⟨q0, q1, va_K.moved (u := U) (U := U.calling g mk a) (Vm.Alike.refl U.vm) q2, zq_SF.same (s := U) (U := U.calling g mk a) rfl q3, q4⟩
def zq_Q (E : zq_E) (rv : Option Value) (h' : zq_H) : Array Value → State → Outcome → State → Prop := fun _ st o t =>
  o = .returned (rv.map (zq_tr E.2.2.1)) ∧ va_P E.1 vwCl (zq_wl E h') t.heap ∧ va_F (zq_A E) st t
def zq_XC (E : zq_E) (o : String × zq_H) : String → State → State → Prop := fun C st t => C = o.1 ∧ va_P E.1 vwCl (zq_wl E o.2) t.heap ∧ va_F (zq_A E) st t
/-- a contract: from the heap h with these arguments the method returns rv and leaves h' -/
def zq_M (tz : Option Nat) (y : MethodName) (ws : List Cond) (rm : Room) (as : List Value) (h : zq_H) (rv : Option Value) (h' : zq_H) : Prop :=
  ∀ (l : Launch) (E : zq_E), l.stackTraces = false → Met l y ws rm (va_Pc (as.map (zq_tr E.2.2.1)) (zq_Pre E h tz)) (zq_Q E rv h') rm.cells rm.slots (zq_A E)
/-- the same of a method that may throw: it returns rv (inl), or throws (inr) -/
def zq_Mx (y : MethodName) (ws : List Cond) (rm : Room) (as : List Value) (h : zq_H) (o : (Option Value × zq_H) ⊕ (String × zq_H)) : Prop :=
  ∀ (l : Launch) (E : zq_E), l.stackTraces = false → vx_Met l y ws rm (va_Pc (as.map (zq_tr E.2.2.1)) (zq_Pre E h none))
    (fun a st oc t => ∃ q, o = .inl q ∧ zq_Q E q.1 q.2 a st oc t) (fun C st t => ∃ q, o = .inr q ∧ zq_XC E q C st t) rm.cells rm.slots (zq_A E)
/-- a method's activation -/
abbrev zq_X : Type := Program × Launch × Env × Room × State × MethodId × Array Value × List Frame × Method × Code × (State → Prop) × zq_E
def zq_In (E : zq_E) (s : State) (h : zq_H) (H : Heap) (locs : List Loc) : Prop := va_P E.1 vwCl (zq_wl E h) H ∧ va_S (zq_A E) s.heap H locs
/-- from the heap h, at pc, with the locals lv and the stack st, the activation comes to its end -/
def zq_W (X : zq_X) (cells slots : Nat) (h : zq_H) (pc : Nat) (lv : List (Nat × Value)) (st : List Value) : Prop :=
  match X with
  | (p, l, e, R, s, m, args, below, meth, c, Q, E) => ∀ (H : Heap) (locs : List Loc) (ls : Array Slot), zq_In E s h H locs → lv_has ls c.maxLocals (lv.map (fun q => (q.1, zq_tr E.2.2.1 q.2))) → W p l e R s m args below meth c H locs cells slots Q (F0 m pc ls (st.map (zq_tr E.2.2.1)))
/-- what stands of an activation all the time -/
def zq_C (X : zq_X) (own : String) (cc : ByteArray) (nL : Nat) (Ts : List Cond) (R0 : Room) : Prop :=
  match X with
  | (p, l, _, R, s, m, args, _, meth, c, _, E) => p.tables.exec = Jvm.exec ∧ c.code = cc ∧ c.maxLocals = nL ∧ s.vm.findClass own = some m.cls ∧ (∀ w ∈ Ts, w.before args s = true) ∧ R = R0 ∧ va_K E.1 vwCl (zq_tys E) s ∧ zq_SF E s s.heap ∧ E.2.2.1 ≤ s.heap.size ∧ meth.locks = false ∧ l.stackTraces = false
/-- the size of the heap at the start -/
def zq_T (X : zq_X) (tz : Option Nat) : Prop :=
  match X with
  | (_, _, _, _, s, _, _, _, _, _, _, E) => ∀ n, tz = some n → s.heap.size = E.2.2.1 + n
def zq_rin : Option Value → Instr
  | none => .return_
  | some (.int _) => .ireturn
  | some (.long _) => .lreturn
  | some (.double _) => .dreturn
  | _ => .areturn
def zq_rok (ret : Option FieldType) : Option Value → Prop
  | none => ret = none
  | some (.int v) => ∃ ty, ret = some ty ∧ narrow ty (.int v) = .int v
  | some (.long _) => ret = some .long
  | some (.double _) => ret = some .double
  | some (.ref _) => ∃ n, ret = some (.object n)
  | _ => False
/-- at a return instruction with rv on the stack and the heap h' all is done -/
def zq_End (X : zq_X) (cc : ByteArray) (mc ms : Nat) (rv : Option Value) (h' : zq_H) : Prop :=
  ∀ (cells slots pc : Nat) (lv : List (Nat × Value)), cells ≤ mc → slots ≤ ms → decode cc pc = .ok (zq_rin rv, 1) → zq_W X cells slots h' pc lv rv.toList
theorem zq_args (s0 : Nat) : ∀ (n : Nat) (as : List Value), lv_args n (as.map (zq_tr s0)) = (lv_args n as).map (fun q => (q.1, zq_tr s0 q.2))
  | _, [] => rfl
  | n, v :: as => by
    simp only [List.map_cons, lv_args, zq_tr_cat]
    rw [zq_args s0 _ as]
theorem zq_sl (s0 : Nat) : ∀ (as : List Value), (lg_sl (as.map (zq_tr s0))).length = (lg_sl as).length
  | [] => rfl
  | v :: as => by
    have ih := zq_sl s0 as
    simp only [lg_sl, List.map_cons, List.flatMap_cons, List.length_append, zq_tr_cat] at ih ⊢
    rw [ih]
    split <;> rfl
theorem zq_end {p : Program} {l : Launch} {e : Env} {R : Room} {s : State} {m : MethodId} {args : Array Value} {below : List Frame} {meth : Method} {c : Code} {E : zq_E} {own : String} {cc : ByteArray} {nL mc ms : Nat} {ret : Option FieldType} {Ts : List Cond} {R0 : Room} {rv : Option Value} {h' : zq_H} (Qc : Array Value → State → Outcome → State → Prop) (hQ : ∀ a st oc t, zq_Q E rv h' a st oc t → Qc a st oc t)
    (C : zq_C (p, l, e, R, s, m, args, below, meth, c, MQ below Qc args s mc ms (zq_A E), E) own cc nL Ts R0) (hr : meth.sig.returnType = ret) (hrv : zq_rok ret rv) : zq_End (p, l, e, R, s, m, args, below, meth, c, MQ below Qc args s mc ms (zq_A E), E) cc mc ms rv h' := by
  obtain ⟨hx, hb, hml, hown, hts, hR, hK, hSF, hs0, hlocks, hst⟩ := C
  intro cells slots pc lv hc hs d H locs ls hI hL
  obtain ⟨hP, hS⟩ := hI
  refine W.widen (k := mc) (n := ms) hc hs ?_
  have hq : ∀ t : State, t.heap = H → s.WarmedH t.vm → Qc args s (.returned (rv.map (zq_tr E.2.2.1))) t := fun t ht _ => hQ _ _ _ _ ⟨rfl, by rw [ht]; exact hP, hS.F ht⟩
  cases rv with
  | none => exact W.vret hx hb (by rw [hr]; exact hrv) hq hS.2.2 d
  | some v =>
    cases v with
    | int v =>
      obtain ⟨ty, h1, h2⟩ := hrv
      exact W.zret hx hb (by rw [hr]; exact h1) h2 hq hS.2.2 d
    | long v => exact W.lret hx hb (by rw [hr]; exact hrv) hq hS.2.2 d
    | double v => exact W.dret hx hb (by rw [hr]; exact hrv) hq hS.2.2 d
    | ref a =>
      obtain ⟨n, h1⟩ := hrv
      exact W.aret hx hb (rt := .object n) (by rw [hr]; exact h1) (Or.inl ⟨n, rfl⟩) (Or.inr ⟨_, rfl⟩) hq hS.2.2 d
    | float v => exact absurd hrv id
    | null => exact absurd hrv id
    | retAddr v => exact absurd hrv id
theorem zq_met {tz : Option Nat} {y : MethodName} {ws ws' : List Cond} {rm : Room} {cc : ByteArray} {nL : Nat} {ret : Option FieldType} {own : String} {as : List Value} {h h' : zq_H} {rv : Option Value} (hy : plainName y.cls = true) (hw : ws = Cond.code y cc nL ret :: ws') (hcls : y.cls = own) (hlen : (lg_sl as).length ≤ nL) (hrv : zq_rok ret rv)
    (body : ∀ X : zq_X, zq_C X own cc nL ws rm → zq_T X tz → X.2.2.2.2.2.2.2.2.1.name = y.name → zq_End X cc rm.cells rm.slots rv h' → zq_W X 0 0 h 0 (lv_args 0 as) []) : zq_M tz y ws rm as h rv h' := by
  intro l E hst
  refine Met.ofW (cc := cc) (maxL := nL) (ret := ret) hy hw ?_
  intro p e s m args below meth c s₁ B hml hv
  obtain ⟨rfl, hP, hK, hSF, hs0, htz⟩ := hv
  have hts := atoms_spec (ws := ws) B.pre
  have hown : s.vm.findClass own = some m.cls := by rw [← hcls]; exact findClass_of_methodNamed B.named
  have hin : meth.name = y.name := (name_of_methodNamed B.named B.method).1
  have hl := lv_entry (as.map (zq_tr E.2.2.1)) (n := nL) (by rw [zq_sl]; exact hlen)
  rw [zq_args] at hl
  rw [lg_entry_eq]
  have C : zq_C (p, l, e, (headSpec ws rm).room, s, m, (as.map (zq_tr E.2.2.1)).toArray, below, meth, c, MQ below (zq_Q E rv h') (as.map (zq_tr E.2.2.1)).toArray s rm.cells rm.slots (zq_A E), E) own cc nL ws rm := ⟨B.exec, B.bytes, hml, hown, hts, rfl, hK, hSF, hs0, B.notSynchronized, hst⟩
  exact body (p, l, e, (headSpec ws rm).room, s, m, (as.map (zq_tr E.2.2.1)).toArray, below, meth, c, MQ below (zq_Q E rv h') (as.map (zq_tr E.2.2.1)).toArray s rm.cells rm.slots (zq_A E), E) C htz hin (zq_end _ (fun _ _ _ _ hh => hh) C B.returns hrv) s.heap [] _ ⟨hP, va_S.rf⟩ (by rw [hml]; exact hl)
end
section
def zq_ld : List (Nat × Value) → Nat → Option Value
  | [], _ => none
  | (j, v) :: r, i => if j = i then some v else zq_ld r i
theorem zq_ld_mem : ∀ (lv : List (Nat × Value)) (i : Nat) (v : Value), zq_ld lv i = some v → (i, v) ∈ lv
  | [], _, _, h => by cases h
  | (j, w) :: r, i, v, h => by
    unfold zq_ld at h
    split at h
    · rename_i hj
      cases h
      rw [hj]
      exact List.mem_cons_self
    · exact List.mem_cons_of_mem _ (zq_ld_mem r i v h)
theorem zq_ldh {ls : Array Slot} {n s0 : Nat} {lv : List (Nat × Value)} (hL : lv_has ls n (lv.map (fun q => (q.1, zq_tr s0 q.2)))) {i : Nat} {v : Value} (h : zq_ld lv i = some v) : ls[i]? = some (.val (zq_tr s0 v)) :=
  hL.2.2 (i, zq_tr s0 v) (List.mem_map.mpr ⟨(i, v), zq_ld_mem lv i v h, rfl⟩)
abbrev zq_f1 (i : Nat) (lv : List (Nat × Value)) : List (Nat × Value) := lv.filter (fun q => !(q.1 == i) && !(q.1 + 1 == i && q.2.category == 2))
abbrev zq_f2 (i : Nat) (lv : List (Nat × Value)) : List (Nat × Value) := lv.filter (fun q => !(q.1 == i) && (!(q.1 == i + 1) && !(q.1 + 1 == i && q.2.category == 2)))
theorem zq_f1_map (s0 i : Nat) (lv : List (Nat × Value)) : zq_f1 i (lv.map (fun q => (q.1, zq_tr s0 q.2))) = (zq_f1 i lv).map (fun q => (q.1, zq_tr s0 q.2)) := by
  simp only [zq_f1, List.filter_map, Function.comp_def, zq_tr_cat]
theorem zq_f2_map (s0 i : Nat) (lv : List (Nat × Value)) : zq_f2 i (lv.map (fun q => (q.1, zq_tr s0 q.2))) = (zq_f2 i lv).map (fun q => (q.1, zq_tr s0 q.2)) := by
  simp only [zq_f2, List.filter_map, Function.comp_def, zq_tr_cat]
theorem zq_ifp {α : Type} {c : Prop} [Decidable c] {a b r : α} (h : (if c then a else b) = r) (hc : c) : a = r := by rw [if_pos hc] at h; exact h
theorem zq_ifn {α : Type} {c : Prop} [Decidable c] {a b r : α} (h : (if c then a else b) = r) (hc : ¬ c) : b = r := by rw [if_neg hc] at h; exact h
theorem zq_bd {α β : Type} {x : Option α} {f : α → Option β} {r : β} (h : x.bind f = some r) : ∃ v, x = some v ∧ f v = some r := by
  cases x with
  | none => cases h
  | some v => exact ⟨v, rfl, h⟩
/-- a named value -/
def zq_let {α β : Type} (x : α) (f : α → β) : β := f x
theorem zq_let_e {α β : Type} {x : α} {f : α → β} {r : β} (h : zq_let x f = r) : ∃ y, x = y ∧ f y = r := ⟨x, rfl, h⟩
theorem zq_if1 {α : Type} {c : Prop} [Decidable c] {a : Option α} {r : α} (h : (if c then a else none) = some r) : c ∧ a = some r := by
  by_cases hc : c
  · rw [if_pos hc] at h; exact ⟨hc, h⟩
  · rw [if_neg hc] at h; cases h
section ZQR
variable {X : zq_X} {own : String} {cc : ByteArray} {nL : Nat} {Ts : List Cond} {R0 : Room} {cells slots : Nat} {h : zq_H} {pc pc' : Nat} {lv lv' : List (Nat × Value)} {st : List Value}
theorem zq_sub (ks : List Nat) (hl : lv_pick lv ks = lv') (k : zq_W X cells slots h pc lv' st) : zq_W X cells slots h pc lv st := by
  obtain ⟨p, l, e, R, s, m, args, below, meth, c, Q, E⟩ := X
  intro H locs ls hI hL
  refine k H locs ls hI (lv_sub hL ks ?_)
  rw [← hl]
  simp only [lv_pick, List.getElem?_map, List.map_filterMap]
theorem zq_widen (c2 s2 : Nat) (h1 : cells ≤ c2) (h2 : slots ≤ s2) (k : zq_W X c2 s2 h pc lv st) : zq_W X cells slots h pc lv st := by
  obtain ⟨p, l, e, R, s, m, args, below, meth, c, Q, E⟩ := X
  intro H locs ls hI hL
  exact W.widen h1 h2 (k H locs ls hI hL)
theorem zq_iload_n (C : zq_C X own cc nL Ts R0) {k4 : Fin 4} {i : Nat} {x : Int32} (d : decode cc pc = .ok (.iload_n k4, 1)) (hpc : pc + 1 = pc') (hi : (k4 : Nat) = i) (hl : zq_ld lv i = some (.int x)) (k : zq_W X cells slots h pc' lv (.int x :: st)) : zq_W X cells slots h pc lv (st) := by
  subst hpc
  obtain ⟨p, l, e, R, s, m, args, below, meth, c, Q, E⟩ := X
  obtain ⟨hx, hb, hml, hown, hts, hR, hK, hSF, hs0, hlocks, hst⟩ := C
  intro H locs ls hI hL
  exact lv_iload_n hx hb d hi (zq_ldh hL hl) (k H locs ls hI hL)
theorem zq_iload (C : zq_C X own cc nL Ts R0) {i : Nat} {x : Int32} (d : decode cc pc = .ok (.iload i, 2)) (hpc : pc + 2 = pc') (hl : zq_ld lv i = some (.int x)) (k : zq_W X cells slots h pc' lv (.int x :: st)) : zq_W X cells slots h pc lv (st) := by
  subst hpc
  obtain ⟨p, l, e, R, s, m, args, below, meth, c, Q, E⟩ := X
  obtain ⟨hx, hb, hml, hown, hts, hR, hK, hSF, hs0, hlocks, hst⟩ := C
  intro H locs ls hI hL
  exact lv_iload hx hb d (zq_ldh hL hl) (k H locs ls hI hL)
theorem zq_lload_n (C : zq_C X own cc nL Ts R0) {k4 : Fin 4} {i : Nat} {x : Int64} (d : decode cc pc = .ok (.lload_n k4, 1)) (hpc : pc + 1 = pc') (hi : (k4 : Nat) = i) (hl : zq_ld lv i = some (.long x)) (k : zq_W X cells slots h pc' lv (.long x :: st)) : zq_W X cells slots h pc lv (st) := by
  subst hpc
  obtain ⟨p, l, e, R, s, m, args, below, meth, c, Q, E⟩ := X
  obtain ⟨hx, hb, hml, hown, hts, hR, hK, hSF, hs0, hlocks, hst⟩ := C
  intro H locs ls hI hL
  exact lv_lload_n hx hb d hi (zq_ldh hL hl) (k H locs ls hI hL)
theorem zq_lload (C : zq_C X own cc nL Ts R0) {i : Nat} {x : Int64} (d : decode cc pc = .ok (.lload i, 2)) (hpc : pc + 2 = pc') (hl : zq_ld lv i = some (.long x)) (k : zq_W X cells slots h pc' lv (.long x :: st)) : zq_W X cells slots h pc lv (st) := by
  subst hpc
  obtain ⟨p, l, e, R, s, m, args, below, meth, c, Q, E⟩ := X
  obtain ⟨hx, hb, hml, hown, hts, hR, hK, hSF, hs0, hlocks, hst⟩ := C
  intro H locs ls hI hL
  exact lv_lload hx hb d (zq_ldh hL hl) (k H locs ls hI hL)
theorem zq_dload_n (C : zq_C X own cc nL Ts R0) {k4 : Fin 4} {i : Nat} {x : UInt64} (d : decode cc pc = .ok (.dload_n k4, 1)) (hpc : pc + 1 = pc') (hi : (k4 : Nat) = i) (hl : zq_ld lv i = some (.double x)) (k : zq_W X cells slots h pc' lv (.double x :: st)) : zq_W X cells slots h pc lv (st) := by
  subst hpc
  obtain ⟨p, l, e, R, s, m, args, below, meth, c, Q, E⟩ := X
  obtain ⟨hx, hb, hml, hown, hts, hR, hK, hSF, hs0, hlocks, hst⟩ := C
  intro H locs ls hI hL
  exact lv_dload_n hx hb d hi (zq_ldh hL hl) (k H locs ls hI hL)
theorem zq_dload (C : zq_C X own cc nL Ts R0) {i : Nat} {x : UInt64} (d : decode cc pc = .ok (.dload i, 2)) (hpc : pc + 2 = pc') (hl : zq_ld lv i = some (.double x)) (k : zq_W X cells slots h pc' lv (.double x :: st)) : zq_W X cells slots h pc lv (st) := by
  subst hpc
  obtain ⟨p, l, e, R, s, m, args, below, meth, c, Q, E⟩ := X
  obtain ⟨hx, hb, hml, hown, hts, hR, hK, hSF, hs0, hlocks, hst⟩ := C
  intro H locs ls hI hL
  exact lv_dload hx hb d (zq_ldh hL hl) (k H locs ls hI hL)
theorem zq_aload_n (C : zq_C X own cc nL Ts R0) {k4 : Fin 4} {i : Nat} {x : Nat} (d : decode cc pc = .ok (.aload_n k4, 1)) (hpc : pc + 1 = pc') (hi : (k4 : Nat) = i) (hl : zq_ld lv i = some (.ref x)) (k : zq_W X cells slots h pc' lv (.ref x :: st)) : zq_W X cells slots h pc lv (st) := by
  subst hpc
  obtain ⟨p, l, e, R, s, m, args, below, meth, c, Q, E⟩ := X
  obtain ⟨hx, hb, hml, hown, hts, hR, hK, hSF, hs0, hlocks, hst⟩ := C
  intro H locs ls hI hL
  exact lv_aload_n hx hb d hi (zq_ldh hL hl) (k H locs ls hI hL)
theorem zq_aload (C : zq_C X own cc nL Ts R0) {i : Nat} {x : Nat} (d : decode cc pc = .ok (.aload i, 2)) (hpc : pc + 2 = pc') (hl : zq_ld lv i = some (.ref x)) (k : zq_W X cells slots h pc' lv (.ref x :: st)) : zq_W X cells slots h pc lv (st) := by
  subst hpc
  obtain ⟨p, l, e, R, s, m, args, below, meth, c, Q, E⟩ := X
  obtain ⟨hx, hb, hml, hown, hts, hR, hK, hSF, hs0, hlocks, hst⟩ := C
  intro H locs ls hI hL
  exact lv_aload hx hb d (zq_ldh hL hl) (k H locs ls hI hL)
theorem zq_iconst (C : zq_C X own cc nL Ts R0) {n : Int} (v : Int32) (d : decode cc pc = .ok (.iconst n, 1)) (hpc : pc + 1 = pc') (hv : Int32.ofInt n = v) (k : zq_W X cells slots h pc' lv (.int v :: st)) : zq_W X cells slots h pc lv (st) := by
  subst hpc
  obtain ⟨p, l, e, R, s, m, args, below, meth, c, Q, E⟩ := X
  obtain ⟨hx, hb, hml, hown, hts, hR, hK, hSF, hs0, hlocks, hst⟩ := C
  intro H locs ls hI hL
  exact lv_iconst hx hb d hv (k H locs ls hI hL)
theorem zq_bipush (C : zq_C X own cc nL Ts R0) {n : Int} (v : Int32) (d : decode cc pc = .ok (.bipush n, 2)) (hpc : pc + 2 = pc') (hv : (Int8.ofInt n).toInt32 = v) (k : zq_W X cells slots h pc' lv (.int v :: st)) : zq_W X cells slots h pc lv (st) := by
  subst hpc
  obtain ⟨p, l, e, R, s, m, args, below, meth, c, Q, E⟩ := X
  obtain ⟨hx, hb, hml, hown, hts, hR, hK, hSF, hs0, hlocks, hst⟩ := C
  intro H locs ls hI hL
  exact lv_bipush hx hb d hv (k H locs ls hI hL)
theorem zq_sipush (C : zq_C X own cc nL Ts R0) {n : Int} (v : Int32) (d : decode cc pc = .ok (.sipush n, 3)) (hpc : pc + 3 = pc') (hv : (Int16.ofInt n).toInt32 = v) (k : zq_W X cells slots h pc' lv (.int v :: st)) : zq_W X cells slots h pc lv (st) := by
  subst hpc
  obtain ⟨p, l, e, R, s, m, args, below, meth, c, Q, E⟩ := X
  obtain ⟨hx, hb, hml, hown, hts, hR, hK, hSF, hs0, hlocks, hst⟩ := C
  intro H locs ls hI hL
  exact lv_sipush hx hb d hv (k H locs ls hI hL)
theorem zq_ldc (C : zq_C X own cc nL Ts R0) {ix : Nat} (v : Int32) (d : decode cc pc = .ok (.ldc ix, 2)) (hpc : pc + 2 = pc') (hc : Cond.constant own ix v ∈ Ts) (k : zq_W X cells slots h pc' lv (.int v :: st)) : zq_W X cells slots h pc lv (st) := by
  subst hpc
  obtain ⟨p, l, e, R, s, m, args, below, meth, c, Q, E⟩ := X
  obtain ⟨hx, hb, hml, hown, hts, hR, hK, hSF, hs0, hlocks, hst⟩ := C
  intro H locs ls hI hL
  exact lv_ldc hx hb hown (hts _ hc) d (k H locs ls hI hL)
theorem zq_ldcw (C : zq_C X own cc nL Ts R0) {ix : Nat} (v : Int32) (d : decode cc pc = .ok (.ldc_w ix, 3)) (hpc : pc + 3 = pc') (hc : Cond.constant own ix v ∈ Ts) (k : zq_W X cells slots h pc' lv (.int v :: st)) : zq_W X cells slots h pc lv (st) := by
  subst hpc
  obtain ⟨p, l, e, R, s, m, args, below, meth, c, Q, E⟩ := X
  obtain ⟨hx, hb, hml, hown, hts, hR, hK, hSF, hs0, hlocks, hst⟩ := C
  intro H locs ls hI hL
  exact lv_ldcw hx hb hown (hts _ hc) d (k H locs ls hI hL)
theorem zq_ldc2l (C : zq_C X own cc nL Ts R0) {ix : Nat} (v : Int64) (d : decode cc pc = .ok (.ldc2_w ix, 3)) (hpc : pc + 3 = pc') (hc : Cond.constantLong own ix v ∈ Ts) (k : zq_W X cells slots h pc' lv (.long v :: st)) : zq_W X cells slots h pc lv (st) := by
  subst hpc
  obtain ⟨p, l, e, R, s, m, args, below, meth, c, Q, E⟩ := X
  obtain ⟨hx, hb, hml, hown, hts, hR, hK, hSF, hs0, hlocks, hst⟩ := C
  intro H locs ls hI hL
  exact lv_ldc2 hx hb hown (hts _ hc) d (k H locs ls hI hL)
theorem zq_ldc2d (C : zq_C X own cc nL Ts R0) {ix : Nat} (v : UInt64) (d : decode cc pc = .ok (.ldc2_w ix, 3)) (hpc : pc + 3 = pc') (hc : Cond.constantDouble own ix v ∈ Ts) (k : zq_W X cells slots h pc' lv (.double v :: st)) : zq_W X cells slots h pc lv (st) := by
  subst hpc
  obtain ⟨p, l, e, R, s, m, args, below, meth, c, Q, E⟩ := X
  obtain ⟨hx, hb, hml, hown, hts, hR, hK, hSF, hs0, hlocks, hst⟩ := C
  intro H locs ls hI hL
  exact lv_ldc2d hx hb hown (hts _ hc) d (k H locs ls hI hL)
theorem zq_lconst (C : zq_C X own cc nL Ts R0) {n : Fin 2} (v : Int64) (d : decode cc pc = .ok (.lconst n, 1)) (hpc : pc + 1 = pc') (hv : Int64.ofNat (n : Nat) = v) (k : zq_W X cells slots h pc' lv (.long v :: st)) : zq_W X cells slots h pc lv (st) := by
  subst hpc
  obtain ⟨p, l, e, R, s, m, args, below, meth, c, Q, E⟩ := X
  obtain ⟨hx, hb, hml, hown, hts, hR, hK, hSF, hs0, hlocks, hst⟩ := C
  intro H locs ls hI hL
  exact lv_lconst hx hb d hv (k H locs ls hI hL)
theorem zq_dconst0 (C : zq_C X own cc nL Ts R0) (d : decode cc pc = .ok (.dconst 0, 1)) (hpc : pc + 1 = pc') (k : zq_W X cells slots h pc' lv (.double FP.dconst0 :: st)) : zq_W X cells slots h pc lv (st) := by
  subst hpc
  obtain ⟨p, l, e, R, s, m, args, below, meth, c, Q, E⟩ := X
  obtain ⟨hx, hb, hml, hown, hts, hR, hK, hSF, hs0, hlocks, hst⟩ := C
  intro H locs ls hI hL
  exact lv_dconst0 hx hb d (k H locs ls hI hL)
theorem zq_dconst1 (C : zq_C X own cc nL Ts R0) (d : decode cc pc = .ok (.dconst 1, 1)) (hpc : pc + 1 = pc') (k : zq_W X cells slots h pc' lv (.double FP.dconst1 :: st)) : zq_W X cells slots h pc lv (st) := by
  subst hpc
  obtain ⟨p, l, e, R, s, m, args, below, meth, c, Q, E⟩ := X
  obtain ⟨hx, hb, hml, hown, hts, hR, hK, hSF, hs0, hlocks, hst⟩ := C
  intro H locs ls hI hL
  exact lv_dconst1 hx hb d (k H locs ls hI hL)
theorem zq_dup (C : zq_C X own cc nL Ts R0) {v : Value} (d : decode cc pc = .ok (.dup, 1)) (hpc : pc + 1 = pc') (hv : v.category = 1) (k : zq_W X cells slots h pc' lv (v :: v :: st)) : zq_W X cells slots h pc lv (v :: st) := by
  subst hpc
  obtain ⟨p, l, e, R, s, m, args, below, meth, c, Q, E⟩ := X
  obtain ⟨hx, hb, hml, hown, hts, hR, hK, hSF, hs0, hlocks, hst⟩ := C
  intro H locs ls hI hL
  exact lv_dup hx hb d (by rw [zq_tr_cat]; exact hv) (k H locs ls hI hL)
theorem zq_dup2 (C : zq_C X own cc nL Ts R0) {v w : Value} (d : decode cc pc = .ok (.dup2, 1)) (hpc : pc + 1 = pc') (hv : v.category = 1) (hw : w.category = 1) (k : zq_W X cells slots h pc' lv (v :: w :: v :: w :: st)) : zq_W X cells slots h pc lv (v :: w :: st) := by
  subst hpc
  obtain ⟨p, l, e, R, s, m, args, below, meth, c, Q, E⟩ := X
  obtain ⟨hx, hb, hml, hown, hts, hR, hK, hSF, hs0, hlocks, hst⟩ := C
  intro H locs ls hI hL
  exact lv_dup2_11 hx hb d (by rw [zq_tr_cat]; exact hv) (by rw [zq_tr_cat]; exact hw) (k H locs ls hI hL)
theorem zq_pop (C : zq_C X own cc nL Ts R0) {v : Value} (d : decode cc pc = .ok (.pop, 1)) (hpc : pc + 1 = pc') (hv : v.category = 1) (k : zq_W X cells slots h pc' lv (st)) : zq_W X cells slots h pc lv (v :: st) := by
  subst hpc
  obtain ⟨p, l, e, R, s, m, args, below, meth, c, Q, E⟩ := X
  obtain ⟨hx, hb, hml, hown, hts, hR, hK, hSF, hs0, hlocks, hst⟩ := C
  intro H locs ls hI hL
  exact lv_pop hx hb d (by rw [zq_tr_cat]; exact hv) (k H locs ls hI hL)
theorem zq_iadd (C : zq_C X own cc nL Ts R0) {x y : Int32} (d : decode cc pc = .ok (.iadd, 1)) (hpc : pc + 1 = pc') (k : zq_W X cells slots h pc' lv (.int (x + y) :: st)) : zq_W X cells slots h pc lv (.int y :: .int x :: st) := by
  subst hpc
  obtain ⟨p, l, e, R, s, m, args, below, meth, c, Q, E⟩ := X
  obtain ⟨hx, hb, hml, hown, hts, hR, hK, hSF, hs0, hlocks, hst⟩ := C
  intro H locs ls hI hL
  exact lv_iadd hx hb d (k H locs ls hI hL)
theorem zq_isub (C : zq_C X own cc nL Ts R0) {x y : Int32} (d : decode cc pc = .ok (.isub, 1)) (hpc : pc + 1 = pc') (k : zq_W X cells slots h pc' lv (.int (x - y) :: st)) : zq_W X cells slots h pc lv (.int y :: .int x :: st) := by
  subst hpc
  obtain ⟨p, l, e, R, s, m, args, below, meth, c, Q, E⟩ := X
  obtain ⟨hx, hb, hml, hown, hts, hR, hK, hSF, hs0, hlocks, hst⟩ := C
  intro H locs ls hI hL
  exact lv_isub hx hb d (k H locs ls hI hL)
theorem zq_imul (C : zq_C X own cc nL Ts R0) {x y : Int32} (d : decode cc pc = .ok (.imul, 1)) (hpc : pc + 1 = pc') (k : zq_W X cells slots h pc' lv (.int (x * y) :: st)) : zq_W X cells slots h pc lv (.int y :: .int x :: st) := by
  subst hpc
  obtain ⟨p, l, e, R, s, m, args, below, meth, c, Q, E⟩ := X
  obtain ⟨hx, hb, hml, hown, hts, hR, hK, hSF, hs0, hlocks, hst⟩ := C
  intro H locs ls hI hL
  exact lv_imul hx hb d (k H locs ls hI hL)
theorem zq_iand (C : zq_C X own cc nL Ts R0) {x y : Int32} (d : decode cc pc = .ok (.iand, 1)) (hpc : pc + 1 = pc') (k : zq_W X cells slots h pc' lv (.int (x &&& y) :: st)) : zq_W X cells slots h pc lv (.int y :: .int x :: st) := by
  subst hpc
  obtain ⟨p, l, e, R, s, m, args, below, meth, c, Q, E⟩ := X
  obtain ⟨hx, hb, hml, hown, hts, hR, hK, hSF, hs0, hlocks, hst⟩ := C
  intro H locs ls hI hL
  exact lv_iand hx hb d (k H locs ls hI hL)
theorem zq_ior (C : zq_C X own cc nL Ts R0) {x y : Int32} (d : decode cc pc = .ok (.ior, 1)) (hpc : pc + 1 = pc') (k : zq_W X cells slots h pc' lv (.int (x ||| y) :: st)) : zq_W X cells slots h pc lv (.int y :: .int x :: st) := by
  subst hpc
  obtain ⟨p, l, e, R, s, m, args, below, meth, c, Q, E⟩ := X
  obtain ⟨hx, hb, hml, hown, hts, hR, hK, hSF, hs0, hlocks, hst⟩ := C
  intro H locs ls hI hL
  exact lv_ior hx hb d (k H locs ls hI hL)
theorem zq_ixor (C : zq_C X own cc nL Ts R0) {x y : Int32} (d : decode cc pc = .ok (.ixor, 1)) (hpc : pc + 1 = pc') (k : zq_W X cells slots h pc' lv (.int (x ^^^ y) :: st)) : zq_W X cells slots h pc lv (.int y :: .int x :: st) := by
  subst hpc
  obtain ⟨p, l, e, R, s, m, args, below, meth, c, Q, E⟩ := X
  obtain ⟨hx, hb, hml, hown, hts, hR, hK, hSF, hs0, hlocks, hst⟩ := C
  intro H locs ls hI hL
  exact lv_ixor hx hb d (k H locs ls hI hL)
theorem zq_ishl (C : zq_C X own cc nL Ts R0) {x y : Int32} (d : decode cc pc = .ok (.ishl, 1)) (hpc : pc + 1 = pc') (k : zq_W X cells slots h pc' lv (.int (x <<< (y &&& 31)) :: st)) : zq_W X cells slots h pc lv (.int y :: .int x :: st) := by
  subst hpc
  obtain ⟨p, l, e, R, s, m, args, below, meth, c, Q, E⟩ := X
  obtain ⟨hx, hb, hml, hown, hts, hR, hK, hSF, hs0, hlocks, hst⟩ := C
  intro H locs ls hI hL
  exact lv_ishl hx hb d (k H locs ls hI hL)
theorem zq_ishr (C : zq_C X own cc nL Ts R0) {x y : Int32} (d : decode cc pc = .ok (.ishr, 1)) (hpc : pc + 1 = pc') (k : zq_W X cells slots h pc' lv (.int (x >>> (y &&& 31)) :: st)) : zq_W X cells slots h pc lv (.int y :: .int x :: st) := by
  subst hpc
  obtain ⟨p, l, e, R, s, m, args, below, meth, c, Q, E⟩ := X
  obtain ⟨hx, hb, hml, hown, hts, hR, hK, hSF, hs0, hlocks, hst⟩ := C
  intro H locs ls hI hL
  exact lv_ishr hx hb d (k H locs ls hI hL)
theorem zq_iushr (C : zq_C X own cc nL Ts R0) {x y : Int32} (d : decode cc pc = .ok (.iushr, 1)) (hpc : pc + 1 = pc') (k : zq_W X cells slots h pc' lv (.int ((x.toUInt32 >>> (y.toUInt32 &&& Int32.toUInt32 31)).toInt32) :: st)) : zq_W X cells slots h pc lv (.int y :: .int x :: st) := by
  subst hpc
  obtain ⟨p, l, e, R, s, m, args, below, meth, c, Q, E⟩ := X
  obtain ⟨hx, hb, hml, hown, hts, hR, hK, hSF, hs0, hlocks, hst⟩ := C
  intro H locs ls hI hL
  exact lv_iushr hx hb d rfl (k H locs ls hI hL)
theorem zq_idiv (C : zq_C X own cc nL Ts R0) {x y : Int32} (d : decode cc pc = .ok (.idiv, 1)) (hpc : pc + 1 = pc') (hy : ¬ y = 0) (k : zq_W X cells slots h pc' lv (.int (x / y) :: st)) : zq_W X cells slots h pc lv (.int y :: .int x :: st) := by
  subst hpc
  obtain ⟨p, l, e, R, s, m, args, below, meth, c, Q, E⟩ := X
  obtain ⟨hx, hb, hml, hown, hts, hR, hK, hSF, hs0, hlocks, hst⟩ := C
  intro H locs ls hI hL
  exact lv_idiv hx hb d hy (k H locs ls hI hL)
theorem zq_irem (C : zq_C X own cc nL Ts R0) {x y : Int32} (d : decode cc pc = .ok (.irem, 1)) (hpc : pc + 1 = pc') (hy : ¬ y = 0) (k : zq_W X cells slots h pc' lv (.int (x - x / y * y) :: st)) : zq_W X cells slots h pc lv (.int y :: .int x :: st) := by
  subst hpc
  obtain ⟨p, l, e, R, s, m, args, below, meth, c, Q, E⟩ := X
  obtain ⟨hx, hb, hml, hown, hts, hR, hK, hSF, hs0, hlocks, hst⟩ := C
  intro H locs ls hI hL
  exact lv_irem hx hb d hy (k H locs ls hI hL)
theorem zq_ineg (C : zq_C X own cc nL Ts R0) {x : Int32} (d : decode cc pc = .ok (.ineg, 1)) (hpc : pc + 1 = pc') (k : zq_W X cells slots h pc' lv (.int (-x) :: st)) : zq_W X cells slots h pc lv (.int x :: st) := by
  subst hpc
  obtain ⟨p, l, e, R, s, m, args, below, meth, c, Q, E⟩ := X
  obtain ⟨hx, hb, hml, hown, hts, hR, hK, hSF, hs0, hlocks, hst⟩ := C
  intro H locs ls hI hL
  exact lv_ineg hx hb d (k H locs ls hI hL)
theorem zq_ladd (C : zq_C X own cc nL Ts R0) {x y : Int64} (d : decode cc pc = .ok (.ladd, 1)) (hpc : pc + 1 = pc') (k : zq_W X cells slots h pc' lv (.long (x + y) :: st)) : zq_W X cells slots h pc lv (.long y :: .long x :: st) := by
  subst hpc
  obtain ⟨p, l, e, R, s, m, args, below, meth, c, Q, E⟩ := X
  obtain ⟨hx, hb, hml, hown, hts, hR, hK, hSF, hs0, hlocks, hst⟩ := C
  intro H locs ls hI hL
  exact lv_ladd hx hb d (k H locs ls hI hL)
theorem zq_lsub (C : zq_C X own cc nL Ts R0) {x y : Int64} (d : decode cc pc = .ok (.lsub, 1)) (hpc : pc + 1 = pc') (k : zq_W X cells slots h pc' lv (.long (x - y) :: st)) : zq_W X cells slots h pc lv (.long y :: .long x :: st) := by
  subst hpc
  obtain ⟨p, l, e, R, s, m, args, below, meth, c, Q, E⟩ := X
  obtain ⟨hx, hb, hml, hown, hts, hR, hK, hSF, hs0, hlocks, hst⟩ := C
  intro H locs ls hI hL
  exact lv_lsub hx hb d (k H locs ls hI hL)
theorem zq_lmul (C : zq_C X own cc nL Ts R0) {x y : Int64} (d : decode cc pc = .ok (.lmul, 1)) (hpc : pc + 1 = pc') (k : zq_W X cells slots h pc' lv (.long (x * y) :: st)) : zq_W X cells slots h pc lv (.long y :: .long x :: st) := by
  subst hpc
  obtain ⟨p, l, e, R, s, m, args, below, meth, c, Q, E⟩ := X
  obtain ⟨hx, hb, hml, hown, hts, hR, hK, hSF, hs0, hlocks, hst⟩ := C
  intro H locs ls hI hL
  exact lv_lmul hx hb d (k H locs ls hI hL)
theorem zq_lshl (C : zq_C X own cc nL Ts R0) {x : Int64} {y : Int32} (d : decode cc pc = .ok (.lshl, 1)) (hpc : pc + 1 = pc') (k : zq_W X cells slots h pc' lv (.long (x <<< (y.toInt64 &&& 63)) :: st)) : zq_W X cells slots h pc lv (.int y :: .long x :: st) := by
  subst hpc
  obtain ⟨p, l, e, R, s, m, args, below, meth, c, Q, E⟩ := X
  obtain ⟨hx, hb, hml, hown, hts, hR, hK, hSF, hs0, hlocks, hst⟩ := C
  intro H locs ls hI hL
  exact lv_lshl hx hb d rfl (k H locs ls hI hL)
theorem zq_i2l (C : zq_C X own cc nL Ts R0) {x : Int32} (d : decode cc pc = .ok (.i2l, 1)) (hpc : pc + 1 = pc') (k : zq_W X cells slots h pc' lv (.long x.toInt64 :: st)) : zq_W X cells slots h pc lv (.int x :: st) := by
  subst hpc
  obtain ⟨p, l, e, R, s, m, args, below, meth, c, Q, E⟩ := X
  obtain ⟨hx, hb, hml, hown, hts, hR, hK, hSF, hs0, hlocks, hst⟩ := C
  intro H locs ls hI hL
  exact lv_i2l hx hb d rfl (k H locs ls hI hL)
theorem zq_i2d (C : zq_C X own cc nL Ts R0) {x : Int32} (d : decode cc pc = .ok (.i2d, 1)) (hpc : pc + 1 = pc') (k : zq_W X cells slots h pc' lv (.double (FP.i2d x) :: st)) : zq_W X cells slots h pc lv (.int x :: st) := by
  subst hpc
  obtain ⟨p, l, e, R, s, m, args, below, meth, c, Q, E⟩ := X
  obtain ⟨hx, hb, hml, hown, hts, hR, hK, hSF, hs0, hlocks, hst⟩ := C
  intro H locs ls hI hL
  exact lv_i2d hx hb d (k H locs ls hI hL)
theorem zq_d2l (C : zq_C X own cc nL Ts R0) {x : UInt64} (d : decode cc pc = .ok (.d2l, 1)) (hpc : pc + 1 = pc') (k : zq_W X cells slots h pc' lv (.long (FP.d2l x) :: st)) : zq_W X cells slots h pc lv (.double x :: st) := by
  subst hpc
  obtain ⟨p, l, e, R, s, m, args, below, meth, c, Q, E⟩ := X
  obtain ⟨hx, hb, hml, hown, hts, hR, hK, hSF, hs0, hlocks, hst⟩ := C
  intro H locs ls hI hL
  exact lv_d2l hx hb d (k H locs ls hI hL)
theorem zq_lcmp (C : zq_C X own cc nL Ts R0) {x y : Int64} (d : decode cc pc = .ok (.lcmp, 1)) (hpc : pc + 1 = pc') (k : zq_W X cells slots h pc' lv (.int (lg_cmp x y) :: st)) : zq_W X cells slots h pc lv (.long y :: .long x :: st) := by
  subst hpc
  obtain ⟨p, l, e, R, s, m, args, below, meth, c, Q, E⟩ := X
  obtain ⟨hx, hb, hml, hown, hts, hR, hK, hSF, hs0, hlocks, hst⟩ := C
  intro H locs ls hI hL
  exact W.lcmp hx hb d (k H locs ls hI hL)
theorem zq_dcmp (C : zq_C X own cc nL Ts R0) {x y : UInt64} {op : CmpOp} (d : decode cc pc = .ok (.dcmp op, 1)) (hpc : pc + 1 = pc') (k : zq_W X cells slots h pc' lv (.int (Op.cmpValue (FP.dcmp x y) op) :: st)) : zq_W X cells slots h pc lv (.double y :: .double x :: st) := by
  subst hpc
  obtain ⟨p, l, e, R, s, m, args, below, meth, c, Q, E⟩ := X
  obtain ⟨hx, hb, hml, hown, hts, hR, hK, hSF, hs0, hlocks, hst⟩ := C
  intro H locs ls hI hL
  exact lv_dcmp hx hb d (k H locs ls hI hL)
theorem zq_ddiv (C : zq_C X own cc nL Ts R0) {x y : UInt64} (d : decode cc pc = .ok (.ddiv, 1)) (hpc : pc + 1 = pc') (hn : vf_n64 (FP.ddiv x y)) (k : zq_W X cells slots h pc' lv (.double (FP.ddiv x y) :: st)) : zq_W X cells slots h pc lv (.double y :: .double x :: st) := by
  subst hpc
  obtain ⟨p, l, e, R, s, m, args, below, meth, c, Q, E⟩ := X
  obtain ⟨hx, hb, hml, hown, hts, hR, hK, hSF, hs0, hlocks, hst⟩ := C
  intro H locs ls hI hL
  exact lv_ddiv hx hb d hn (k H locs ls hI hL)
theorem zq_dmul (C : zq_C X own cc nL Ts R0) {x y : UInt64} (d : decode cc pc = .ok (.dmul, 1)) (hpc : pc + 1 = pc') (hn : vf_n64 (FP.dmul x y)) (k : zq_W X cells slots h pc' lv (.double (FP.dmul x y) :: st)) : zq_W X cells slots h pc lv (.double y :: .double x :: st) := by
  subst hpc
  obtain ⟨p, l, e, R, s, m, args, below, meth, c, Q, E⟩ := X
  obtain ⟨hx, hb, hml, hown, hts, hR, hK, hSF, hs0, hlocks, hst⟩ := C
  intro H locs ls hI hL
  exact lv_dmul hx hb d hn (k H locs ls hI hL)
theorem zq_dsub (C : zq_C X own cc nL Ts R0) {x y : UInt64} (d : decode cc pc = .ok (.dsub, 1)) (hpc : pc + 1 = pc') (hn : vf_n64 (FP.dsub x y)) (k : zq_W X cells slots h pc' lv (.double (FP.dsub x y) :: st)) : zq_W X cells slots h pc lv (.double y :: .double x :: st) := by
  subst hpc
  obtain ⟨p, l, e, R, s, m, args, below, meth, c, Q, E⟩ := X
  obtain ⟨hx, hb, hml, hown, hts, hR, hK, hSF, hs0, hlocks, hst⟩ := C
  intro H locs ls hI hL
  exact lv_dsub hx hb d hn (k H locs ls hI hL)
theorem zq_istore_n (C : zq_C X own cc nL Ts R0) {k4 : Fin 4} {i : Nat} {v x : Int32} (d : decode cc pc = .ok (.istore_n k4, 1)) (hpc : pc + 1 = pc') (hi : (k4 : Nat) = i) (hn : i < nL) (e : v = x) (hl : (i, Value.int x) :: zq_f1 i lv = lv') (k : zq_W X cells slots h pc' lv' st) : zq_W X cells slots h pc lv (.int v :: st) := by
  subst e
  subst hpc
  obtain ⟨p, l, e, R, s, m, args, below, meth, c, Q, E⟩ := X
  obtain ⟨hx, hb, hml, hown, hts, hR, hK, hSF, hs0, hlocks, hst⟩ := C
  intro H locs ls hI hL
  exact lv_istore_n hx hb d hi hL (by rw [hml]; exact hn) (by rw [← hl, List.map_cons, ← zq_f1_map]; rfl) (fun ls1 hL1 => k H locs ls1 hI hL1)
theorem zq_istore (C : zq_C X own cc nL Ts R0) {i : Nat} {v x : Int32} (d : decode cc pc = .ok (.istore i, 2)) (hpc : pc + 2 = pc') (hn : i < nL) (e : v = x) (hl : (i, Value.int x) :: zq_f1 i lv = lv') (k : zq_W X cells slots h pc' lv' st) : zq_W X cells slots h pc lv (.int v :: st) := by
  subst e
  subst hpc
  obtain ⟨p, l, e, R, s, m, args, below, meth, c, Q, E⟩ := X
  obtain ⟨hx, hb, hml, hown, hts, hR, hK, hSF, hs0, hlocks, hst⟩ := C
  intro H locs ls hI hL
  exact lv_istore hx hb d hL (by rw [hml]; exact hn) (by rw [← hl, List.map_cons, ← zq_f1_map]; rfl) (fun ls1 hL1 => k H locs ls1 hI hL1)
theorem zq_lstore_n (C : zq_C X own cc nL Ts R0) {k4 : Fin 4} {i : Nat} {v x : Int64} (d : decode cc pc = .ok (.lstore_n k4, 1)) (hpc : pc + 1 = pc') (hi : (k4 : Nat) = i) (hn : i + 1 < nL) (e : v = x) (hl : (i, Value.long x) :: zq_f2 i lv = lv') (k : zq_W X cells slots h pc' lv' st) : zq_W X cells slots h pc lv (.long v :: st) := by
  subst e
  subst hpc
  obtain ⟨p, l, e, R, s, m, args, below, meth, c, Q, E⟩ := X
  obtain ⟨hx, hb, hml, hown, hts, hR, hK, hSF, hs0, hlocks, hst⟩ := C
  intro H locs ls hI hL
  exact lv_lstore_n hx hb d hi hL (by rw [hml]; exact hn) (by rw [← hl, List.map_cons, ← zq_f2_map]; rfl) (fun ls1 hL1 => k H locs ls1 hI hL1)
theorem zq_lstore (C : zq_C X own cc nL Ts R0) {i : Nat} {v x : Int64} (d : decode cc pc = .ok (.lstore i, 2)) (hpc : pc + 2 = pc') (hn : i + 1 < nL) (e : v = x) (hl : (i, Value.long x) :: zq_f2 i lv = lv') (k : zq_W X cells slots h pc' lv' st) : zq_W X cells slots h pc lv (.long v :: st) := by
  subst e
  subst hpc
  obtain ⟨p, l, e, R, s, m, args, below, meth, c, Q, E⟩ := X
  obtain ⟨hx, hb, hml, hown, hts, hR, hK, hSF, hs0, hlocks, hst⟩ := C
  intro H locs ls hI hL
  exact lv_lstore hx hb d hL (by rw [hml]; exact hn) (by rw [← hl, List.map_cons, ← zq_f2_map]; rfl) (fun ls1 hL1 => k H locs ls1 hI hL1)
theorem zq_dstore_n (C : zq_C X own cc nL Ts R0) {k4 : Fin 4} {i : Nat} {v x : UInt64} (d : decode cc pc = .ok (.dstore_n k4, 1)) (hpc : pc + 1 = pc') (hi : (k4 : Nat) = i) (hn : i + 1 < nL) (e : v = x) (hl : (i, Value.double x) :: zq_f2 i lv = lv') (k : zq_W X cells slots h pc' lv' st) : zq_W X cells slots h pc lv (.double v :: st) := by
  subst e
  subst hpc
  obtain ⟨p, l, e, R, s, m, args, below, meth, c, Q, E⟩ := X
  obtain ⟨hx, hb, hml, hown, hts, hR, hK, hSF, hs0, hlocks, hst⟩ := C
  intro H locs ls hI hL
  exact lv_dstore_n hx hb d hi hL (by rw [hml]; exact hn) (by rw [← hl, List.map_cons, ← zq_f2_map]; rfl) (fun ls1 hL1 => k H locs ls1 hI hL1)
theorem zq_dstore (C : zq_C X own cc nL Ts R0) {i : Nat} {v x : UInt64} (d : decode cc pc = .ok (.dstore i, 2)) (hpc : pc + 2 = pc') (hn : i + 1 < nL) (e : v = x) (hl : (i, Value.double x) :: zq_f2 i lv = lv') (k : zq_W X cells slots h pc' lv' st) : zq_W X cells slots h pc lv (.double v :: st) := by
  subst e
  subst hpc
  obtain ⟨p, l, e, R, s, m, args, below, meth, c, Q, E⟩ := X
  obtain ⟨hx, hb, hml, hown, hts, hR, hK, hSF, hs0, hlocks, hst⟩ := C
  intro H locs ls hI hL
  exact lv_dstore hx hb d hL (by rw [hml]; exact hn) (by rw [← hl, List.map_cons, ← zq_f2_map]; rfl) (fun ls1 hL1 => k H locs ls1 hI hL1)
theorem zq_astore_n (C : zq_C X own cc nL Ts R0) {k4 : Fin 4} {i : Nat} {v x : Nat} (d : decode cc pc = .ok (.astore_n k4, 1)) (hpc : pc + 1 = pc') (hi : (k4 : Nat) = i) (hn : i < nL) (e : v = x) (hl : (i, Value.ref x) :: zq_f1 i lv = lv') (k : zq_W X cells slots h pc' lv' st) : zq_W X cells slots h pc lv (.ref v :: st) := by
  subst e
  subst hpc
  obtain ⟨p, l, e, R, s, m, args, below, meth, c, Q, E⟩ := X
  obtain ⟨hx, hb, hml, hown, hts, hR, hK, hSF, hs0, hlocks, hst⟩ := C
  intro H locs ls hI hL
  exact lv_astore_n hx hb d hi hL (by rw [hml]; exact hn) (by rw [← hl, List.map_cons, ← zq_f1_map]; rfl) (fun ls1 hL1 => k H locs ls1 hI hL1)
theorem zq_astore (C : zq_C X own cc nL Ts R0) {i : Nat} {v x : Nat} (d : decode cc pc = .ok (.astore i, 2)) (hpc : pc + 2 = pc') (hn : i < nL) (e : v = x) (hl : (i, Value.ref x) :: zq_f1 i lv = lv') (k : zq_W X cells slots h pc' lv' st) : zq_W X cells slots h pc lv (.ref v :: st) := by
  subst e
  subst hpc
  obtain ⟨p, l, e, R, s, m, args, below, meth, c, Q, E⟩ := X
  obtain ⟨hx, hb, hml, hown, hts, hR, hK, hSF, hs0, hlocks, hst⟩ := C
  intro H locs ls hI hL
  exact lv_astore hx hb d hL (by rw [hml]; exact hn) (by rw [← hl, List.map_cons, ← zq_f1_map]; rfl) (fun ls1 hL1 => k H locs ls1 hI hL1)
theorem zq_iinc (C : zq_C X own cc nL Ts R0) {i : Nat} {n : Int} {x v : Int32} (d : decode cc pc = .ok (.iinc i n, 3)) (hpc : pc + 3 = pc') (hn : i < nL) (j : Nat) (hj : lv[j]? = some (i, .int x)) (he : x + Int32.ofInt n = v) (hl : (i, Value.int v) :: zq_f1 i lv = lv') (k : zq_W X cells slots h pc' lv' st) : zq_W X cells slots h pc lv st := by
  subst hpc
  obtain ⟨p, l, e, R, s, m, args, below, meth, c, Q, E⟩ := X
  obtain ⟨hx, hb, hml, hown, hts, hR, hK, hSF, hs0, hlocks, hst⟩ := C
  intro H locs ls hI hL
  exact lv_iinc hx hb d hL (k := j) (by rw [List.getElem?_map, hj]; rfl) he (by rw [hml]; exact hn) (by rw [← hl, List.map_cons, ← zq_f1_map]; rfl) (fun ls1 hL1 => k H locs ls1 hI hL1)
theorem zq_if_eq (C : zq_C X own cc nL Ts R0) {x : Int32} {off : Int} (tgt : Nat) (d : decode cc pc = .ok (.ifCond .eq off, 3)) (ht : (pc : Int) + off = (tgt : Int)) (hpc : pc + 3 = pc') (kt : x = 0 → zq_W X cells slots h tgt lv st) (kf : ¬ x = 0 → zq_W X cells slots h pc' lv st) : zq_W X cells slots h pc lv (.int x :: st) := by
  subst hpc
  obtain ⟨p, l, e, R, s, m, args, below, meth, c, Q, E⟩ := X
  obtain ⟨hx, hb, hml, hown, hts, hR, hK, hSF, hs0, hlocks, hst⟩ := C
  intro H locs ls hI hL
  exact lv_if_eq hx hb d ht (fun q => kt q H locs ls hI hL) (fun q => kf q H locs ls hI hL)
theorem zq_if_ne (C : zq_C X own cc nL Ts R0) {x : Int32} {off : Int} (tgt : Nat) (d : decode cc pc = .ok (.ifCond .ne off, 3)) (ht : (pc : Int) + off = (tgt : Int)) (hpc : pc + 3 = pc') (kt : ¬ x = 0 → zq_W X cells slots h tgt lv st) (kf : x = 0 → zq_W X cells slots h pc' lv st) : zq_W X cells slots h pc lv (.int x :: st) := by
  subst hpc
  obtain ⟨p, l, e, R, s, m, args, below, meth, c, Q, E⟩ := X
  obtain ⟨hx, hb, hml, hown, hts, hR, hK, hSF, hs0, hlocks, hst⟩ := C
  intro H locs ls hI hL
  exact lv_if_ne hx hb d ht (fun q => kt q H locs ls hI hL) (fun q => kf q H locs ls hI hL)
theorem zq_if_lt (C : zq_C X own cc nL Ts R0) {x : Int32} {off : Int} (tgt : Nat) (d : decode cc pc = .ok (.ifCond .lt off, 3)) (ht : (pc : Int) + off = (tgt : Int)) (hpc : pc + 3 = pc') (kt : x < 0 → zq_W X cells slots h tgt lv st) (kf : ¬ x < 0 → zq_W X cells slots h pc' lv st) : zq_W X cells slots h pc lv (.int x :: st) := by
  subst hpc
  obtain ⟨p, l, e, R, s, m, args, below, meth, c, Q, E⟩ := X
  obtain ⟨hx, hb, hml, hown, hts, hR, hK, hSF, hs0, hlocks, hst⟩ := C
  intro H locs ls hI hL
  exact lv_if_lt hx hb d ht (fun q => kt q H locs ls hI hL) (fun q => kf q H locs ls hI hL)
theorem zq_if_ge (C : zq_C X own cc nL Ts R0) {x : Int32} {off : Int} (tgt : Nat) (d : decode cc pc = .ok (.ifCond .ge off, 3)) (ht : (pc : Int) + off = (tgt : Int)) (hpc : pc + 3 = pc') (kt : 0 ≤ x → zq_W X cells slots h tgt lv st) (kf : ¬ 0 ≤ x → zq_W X cells slots h pc' lv st) : zq_W X cells slots h pc lv (.int x :: st) := by
  subst hpc
  obtain ⟨p, l, e, R, s, m, args, below, meth, c, Q, E⟩ := X
  obtain ⟨hx, hb, hml, hown, hts, hR, hK, hSF, hs0, hlocks, hst⟩ := C
  intro H locs ls hI hL
  exact lv_if_ge hx hb d ht (fun q => kt q H locs ls hI hL) (fun q => kf q H locs ls hI hL)
theorem zq_if_gt (C : zq_C X own cc nL Ts R0) {x : Int32} {off : Int} (tgt : Nat) (d : decode cc pc = .ok (.ifCond .gt off, 3)) (ht : (pc : Int) + off = (tgt : Int)) (hpc : pc + 3 = pc') (kt : 0 < x → zq_W X cells slots h tgt lv st) (kf : ¬ 0 < x → zq_W X cells slots h pc' lv st) : zq_W X cells slots h pc lv (.int x :: st) := by
  subst hpc
  obtain ⟨p, l, e, R, s, m, args, below, meth, c, Q, E⟩ := X
  obtain ⟨hx, hb, hml, hown, hts, hR, hK, hSF, hs0, hlocks, hst⟩ := C
  intro H locs ls hI hL
  exact lv_if_gt hx hb d ht (fun q => kt q H locs ls hI hL) (fun q => kf q H locs ls hI hL)
theorem zq_if_le (C : zq_C X own cc nL Ts R0) {x : Int32} {off : Int} (tgt : Nat) (d : decode cc pc = .ok (.ifCond .le off, 3)) (ht : (pc : Int) + off = (tgt : Int)) (hpc : pc + 3 = pc') (kt : x ≤ 0 → zq_W X cells slots h tgt lv st) (kf : ¬ x ≤ 0 → zq_W X cells slots h pc' lv st) : zq_W X cells slots h pc lv (.int x :: st) := by
  subst hpc
  obtain ⟨p, l, e, R, s, m, args, below, meth, c, Q, E⟩ := X
  obtain ⟨hx, hb, hml, hown, hts, hR, hK, hSF, hs0, hlocks, hst⟩ := C
  intro H locs ls hI hL
  exact lv_if_le hx hb d ht (fun q => kt q H locs ls hI hL) (fun q => kf q H locs ls hI hL)
theorem zq_icmp_eq (C : zq_C X own cc nL Ts R0) {x y : Int32} {off : Int} (tgt : Nat) (d : decode cc pc = .ok (.if_icmp .eq off, 3)) (ht : (pc : Int) + off = (tgt : Int)) (hpc : pc + 3 = pc') (kt : x = y → zq_W X cells slots h tgt lv st) (kf : ¬ x = y → zq_W X cells slots h pc' lv st) : zq_W X cells slots h pc lv (.int y :: .int x :: st) := by
  subst hpc
  obtain ⟨p, l, e, R, s, m, args, below, meth, c, Q, E⟩ := X
  obtain ⟨hx, hb, hml, hown, hts, hR, hK, hSF, hs0, hlocks, hst⟩ := C
  intro H locs ls hI hL
  exact lv_icmp_eq hx hb d ht (fun q => kt q H locs ls hI hL) (fun q => kf q H locs ls hI hL)
theorem zq_icmp_ne (C : zq_C X own cc nL Ts R0) {x y : Int32} {off : Int} (tgt : Nat) (d : decode cc pc = .ok (.if_icmp .ne off, 3)) (ht : (pc : Int) + off = (tgt : Int)) (hpc : pc + 3 = pc') (kt : ¬ x = y → zq_W X cells slots h tgt lv st) (kf : x = y → zq_W X cells slots h pc' lv st) : zq_W X cells slots h pc lv (.int y :: .int x :: st) := by
  subst hpc
  obtain ⟨p, l, e, R, s, m, args, below, meth, c, Q, E⟩ := X
  obtain ⟨hx, hb, hml, hown, hts, hR, hK, hSF, hs0, hlocks, hst⟩ := C
  intro H locs ls hI hL
  exact lv_icmp_ne hx hb d ht (fun q => kt q H locs ls hI hL) (fun q => kf q H locs ls hI hL)
theorem zq_icmp_lt (C : zq_C X own cc nL Ts R0) {x y : Int32} {off : Int} (tgt : Nat) (d : decode cc pc = .ok (.if_icmp .lt off, 3)) (ht : (pc : Int) + off = (tgt : Int)) (hpc : pc + 3 = pc') (kt : x < y → zq_W X cells slots h tgt lv st) (kf : ¬ x < y → zq_W X cells slots h pc' lv st) : zq_W X cells slots h pc lv (.int y :: .int x :: st) := by
  subst hpc
  obtain ⟨p, l, e, R, s, m, args, below, meth, c, Q, E⟩ := X
  obtain ⟨hx, hb, hml, hown, hts, hR, hK, hSF, hs0, hlocks, hst⟩ := C
  intro H locs ls hI hL
  exact lv_icmp_lt hx hb d ht (fun q => kt q H locs ls hI hL) (fun q => kf q H locs ls hI hL)
theorem zq_icmp_ge (C : zq_C X own cc nL Ts R0) {x y : Int32} {off : Int} (tgt : Nat) (d : decode cc pc = .ok (.if_icmp .ge off, 3)) (ht : (pc : Int) + off = (tgt : Int)) (hpc : pc + 3 = pc') (kt : y ≤ x → zq_W X cells slots h tgt lv st) (kf : ¬ y ≤ x → zq_W X cells slots h pc' lv st) : zq_W X cells slots h pc lv (.int y :: .int x :: st) := by
  subst hpc
  obtain ⟨p, l, e, R, s, m, args, below, meth, c, Q, E⟩ := X
  obtain ⟨hx, hb, hml, hown, hts, hR, hK, hSF, hs0, hlocks, hst⟩ := C
  intro H locs ls hI hL
  exact lv_icmp_ge hx hb d ht (fun q => kt q H locs ls hI hL) (fun q => kf q H locs ls hI hL)
theorem zq_icmp_gt (C : zq_C X own cc nL Ts R0) {x y : Int32} {off : Int} (tgt : Nat) (d : decode cc pc = .ok (.if_icmp .gt off, 3)) (ht : (pc : Int) + off = (tgt : Int)) (hpc : pc + 3 = pc') (kt : y < x → zq_W X cells slots h tgt lv st) (kf : ¬ y < x → zq_W X cells slots h pc' lv st) : zq_W X cells slots h pc lv (.int y :: .int x :: st) := by
  subst hpc
  obtain ⟨p, l, e, R, s, m, args, below, meth, c, Q, E⟩ := X
  obtain ⟨hx, hb, hml, hown, hts, hR, hK, hSF, hs0, hlocks, hst⟩ := C
  intro H locs ls hI hL
  exact lv_icmp_gt hx hb d ht (fun q => kt q H locs ls hI hL) (fun q => kf q H locs ls hI hL)
theorem zq_icmp_le (C : zq_C X own cc nL Ts R0) {x y : Int32} {off : Int} (tgt : Nat) (d : decode cc pc = .ok (.if_icmp .le off, 3)) (ht : (pc : Int) + off = (tgt : Int)) (hpc : pc + 3 = pc') (kt : x ≤ y → zq_W X cells slots h tgt lv st) (kf : ¬ x ≤ y → zq_W X cells slots h pc' lv st) : zq_W X cells slots h pc lv (.int y :: .int x :: st) := by
  subst hpc
  obtain ⟨p, l, e, R, s, m, args, below, meth, c, Q, E⟩ := X
  obtain ⟨hx, hb, hml, hown, hts, hR, hK, hSF, hs0, hlocks, hst⟩ := C
  intro H locs ls hI hL
  exact lv_icmp_le hx hb d ht (fun q => kt q H locs ls hI hL) (fun q => kf q H locs ls hI hL)
theorem zq_goto (C : zq_C X own cc nL Ts R0) {off : Int} (tgt : Nat) (d : decode cc pc = .ok (.goto off, 3)) (ht : (pc : Int) + off = (tgt : Int)) (k : zq_W X cells slots h tgt lv st) : zq_W X cells slots h pc lv st := by
  obtain ⟨p, l, e, R, s, m, args, below, meth, c, Q, E⟩ := X
  obtain ⟨hx, hb, hml, hown, hts, hR, hK, hSF, hs0, hlocks, hst⟩ := C
  intro H locs ls hI hL
  exact lv_goto hx hb d ht (k H locs ls hI hL)
theorem zq_tsIn (C : zq_C X own cc nL Ts R0) {dflt lo hi : Int} {offs : Array Int} {len : Nat} {x : Int32} {off : Int} (tgt : Nat) (d : decode cc pc = .ok (.tableswitch dflt lo hi offs, len)) (h1 : ¬ x.toInt < lo) (h2 : ¬ hi < x.toInt) (ho : offs[(x.toInt - lo).toNat]? = some off) (ht : (pc : Int) + off = (tgt : Int)) (k : zq_W X cells slots h tgt lv st) : zq_W X cells slots h pc lv (.int x :: st) := by
  obtain ⟨p, l, e, R, s, m, args, below, meth, c, Q, E⟩ := X
  obtain ⟨hx, hb, hml, hown, hts, hR, hK, hSF, hs0, hlocks, hst⟩ := C
  intro H locs ls hI hL
  exact lv_tableIn hx hb d h1 h2 ho ht (k H locs ls hI hL)
theorem zq_tsOut (C : zq_C X own cc nL Ts R0) {dflt lo hi : Int} {offs : Array Int} {len : Nat} {x : Int32} (tgt : Nat) (d : decode cc pc = .ok (.tableswitch dflt lo hi offs, len)) (ho : x.toInt < lo ∨ hi < x.toInt) (ht : (pc : Int) + dflt = (tgt : Int)) (k : zq_W X cells slots h tgt lv st) : zq_W X cells slots h pc lv (.int x :: st) := by
  obtain ⟨p, l, e, R, s, m, args, below, meth, c, Q, E⟩ := X
  obtain ⟨hx, hb, hml, hown, hts, hR, hK, hSF, hs0, hlocks, hst⟩ := C
  intro H locs ls hI hL
  exact lv_tableOut hx hb d ho ht (k H locs ls hI hL)
theorem zq_lookup (C : zq_C X own cc nL Ts R0) {dflt : Int} {ps : Array (Int × Int)} {len : Nat} {x : Int32} {off : Int} (tgt : Nat) (d : decode cc pc = .ok (.lookupswitch dflt ps, len)) (hp : (ps.toList.zip (ps.toList.drop 1)).all (fun (a, next) => a.1 < next.1) = true) (ho : Op.lookupswitch.offset ps.toList dflt x.toInt = off) (ht : (pc : Int) + off = (tgt : Int)) (k : zq_W X cells slots h tgt lv st) : zq_W X cells slots h pc lv (.int x :: st) := by
  obtain ⟨p, l, e, R, s, m, args, below, meth, c, Q, E⟩ := X
  obtain ⟨hx, hb, hml, hown, hts, hR, hK, hSF, hs0, hlocks, hst⟩ := C
  intro H locs ls hI hL
  exact lv_lookup hx hb d hp ho ht (k H locs ls hI hL)
theorem zq_ifnull (C : zq_C X own cc nL Ts R0) {r : Option Nat} {off : Int} (tgt : Nat) (d : decode cc pc = .ok (.ifnull off, 3)) (ht : (pc : Int) + off = (tgt : Int)) (hpc : pc + 3 = pc') (kt : r = none → zq_W X cells slots h tgt lv st) (kf : ¬ r = none → zq_W X cells slots h pc' lv st) : zq_W X cells slots h pc lv (zq_rv r :: st) := by
  subst hpc
  obtain ⟨p, l, e, R, s, m, args, below, meth, c, Q, E⟩ := X
  obtain ⟨hx, hb, hml, hown, hts, hR, hK, hSF, hs0, hlocks, hst⟩ := C
  intro H locs ls hI hL
  cases r with
  | none => exact lv_ifnullN hx hb d ht (kt rfl H locs ls hI hL)
  | some a => exact lv_ifnull hx hb d (kf (fun q => by cases q) H locs ls hI hL)
theorem zq_ifnonnull (C : zq_C X own cc nL Ts R0) {r : Option Nat} {off : Int} (tgt : Nat) (d : decode cc pc = .ok (.ifnonnull off, 3)) (ht : (pc : Int) + off = (tgt : Int)) (hpc : pc + 3 = pc') (kt : ¬ r = none → zq_W X cells slots h tgt lv st) (kf : r = none → zq_W X cells slots h pc' lv st) : zq_W X cells slots h pc lv (zq_rv r :: st) := by
  subst hpc
  obtain ⟨p, l, e, R, s, m, args, below, meth, c, Q, E⟩ := X
  obtain ⟨hx, hb, hml, hown, hts, hR, hK, hSF, hs0, hlocks, hst⟩ := C
  intro H locs ls hI hL
  cases r with
  | none => exact lv_ifnonnullN hx hb d (kf rfl H locs ls hI hL)
  | some a => exact lv_ifnonnull hx hb d ht (kt (fun q => by cases q) H locs ls hI hL)
theorem zq_acmp_ne (C : zq_C X own cc nL Ts R0) {a b : Nat} {off : Int} (tgt : Nat) (d : decode cc pc = .ok (.if_acmp .ne off, 3)) (ht : (pc : Int) + off = (tgt : Int)) (hpc : pc + 3 = pc') (kt : ¬ a = b → zq_W X cells slots h tgt lv st) (kf : a = b → zq_W X cells slots h pc' lv st) : zq_W X cells slots h pc lv (.ref b :: .ref a :: st) := by
  subst hpc
  obtain ⟨p, l, e, R, s, m, args, below, meth, c, Q, E⟩ := X
  obtain ⟨hx, hb, hml, hown, hts, hR, hK, hSF, hs0, hlocks, hst⟩ := C
  intro H locs ls hI hL
  refine lv_acmp_ne (rx := some (E.2.2.1 + a)) (ry := some (E.2.2.1 + b)) hx hb d ht (fun q => kt (fun z => q (by rw [z])) H locs ls hI hL) (fun q => kf (by have := Option.some.inj q; omega) H locs ls hI hL)
end ZQR
end
section
/-- a table of functions changed at one place -/
def zq_up {α : Type} (f : Nat → Nat → α) (t j : Nat) (v : α) : Nat → Nat → α := fun a b => if a = t ∧ b = j then v else f a b
def zq_row {α : Type} (f : Nat → Nat → α) (t : Nat) (v : α) : Nat → Nat → α := fun a b => if a = t then v else f a b
def zq_gi (h : zq_H) (t c j : Nat) : Option Int32 := if t < h.1 ∧ (zq_sh t).1 = c then some (h.2.1 t j) else none
def zq_gl (h : zq_H) (t c j : Nat) : Option Int64 := if t < h.1 ∧ (zq_sh t).1 = c then some (h.2.2.1 t j) else none
def zq_gr (h : zq_H) (t c j : Nat) : Option Nat := if t < h.1 ∧ (zq_sh t).1 = c then h.2.2.2 t j else none
def zq_gq (h : zq_H) (t c j : Nat) : Option (Option Nat) := if t < h.1 ∧ (zq_sh t).1 = c then some (h.2.2.2 t j) else none
def zq_pi (h : zq_H) (t c j : Nat) (v : Int32) : Option zq_H := if t < h.1 ∧ (zq_sh t).1 = c then some (h.1, zq_up h.2.1 t j v, h.2.2) else none
def zq_pl (h : zq_H) (t c j : Nat) (v : Int64) : Option zq_H := if t < h.1 ∧ (zq_sh t).1 = c then some (h.1, h.2.1, zq_up h.2.2.1 t j v, h.2.2.2) else none
def zq_pr (h : zq_H) (t c j : Nat) (v : Nat) : Option zq_H := if t < h.1 ∧ (zq_sh t).1 = c then some (h.1, h.2.1, h.2.2.1, zq_up h.2.2.2 t j (some v)) else none
def zq_ai (h : zq_H) (a : Nat) (i : Int32) : Option Int32 := if a < h.1 ∧ (zq_sh a).1 = 10 ∧ ¬ (i < 0 ∨ (zq_sh a).2 ≤ i.toNatClampNeg) then some (h.2.1 a i.toNatClampNeg) else none
def zq_al (h : zq_H) (a : Nat) (i : Int32) : Option Int64 := if a < h.1 ∧ (zq_sh a).1 = 11 ∧ ¬ (i < 0 ∨ (zq_sh a).2 ≤ i.toNatClampNeg) then some (h.2.2.1 a i.toNatClampNeg) else none
def zq_aq (h : zq_H) (a c : Nat) (i : Int32) : Option Nat := if a < h.1 ∧ (zq_sh a).1 = c ∧ ¬ (i < 0 ∨ (zq_sh a).2 ≤ i.toNatClampNeg) then h.2.2.2 a i.toNatClampNeg else none
def zq_si (h : zq_H) (a : Nat) (i v : Int32) : Option zq_H := if a < h.1 ∧ (zq_sh a).1 = 10 ∧ ¬ (i < 0 ∨ (zq_sh a).2 ≤ i.toNatClampNeg) then some (h.1, zq_up h.2.1 a i.toNatClampNeg v, h.2.2) else none
def zq_sL (h : zq_H) (a : Nat) (i : Int32) (v : Int64) : Option zq_H := if a < h.1 ∧ (zq_sh a).1 = 11 ∧ ¬ (i < 0 ∨ (zq_sh a).2 ≤ i.toNatClampNeg) then some (h.1, h.2.1, zq_up h.2.2.1 a i.toNatClampNeg v, h.2.2.2) else none
def zq_sq (h : zq_H) (a c co : Nat) (i : Int32) (v : Nat) : Option zq_H := if a < h.1 ∧ (zq_sh a).1 = c ∧ ¬ (i < 0 ∨ (zq_sh a).2 ≤ i.toNatClampNeg) ∧ v < h.1 ∧ (zq_sh v).1 = co then some (h.1, h.2.1, h.2.2.1, zq_up h.2.2.2 a i.toNatClampNeg (some v)) else none
def zq_an (h : zq_H) (a : Nat) : Option Int32 := if a < h.1 ∧ 10 ≤ (zq_sh a).1 ∧ (zq_sh a).1 ≤ 13 then some (nI (zq_sh a).2) else none
/-- a new cell at the place n, all zero -/
def zq_new (h : zq_H) (n : Nat) : zq_H := (n + 1, zq_row h.2.1 n 0, zq_row h.2.2.1 n 0, zq_row h.2.2.2 n none)
def zq_nw1 (h : zq_H) (n c : Nat) : Option zq_H := if h.1 = n ∧ (zq_sh n).1 = c then some (zq_new h n) else none
def zq_na (h : zq_H) (n c B : Nat) (x : Int32) : Option zq_H := if h.1 = n ∧ (zq_sh n).1 = c ∧ ¬ x < 0 ∧ x.toNatClampNeg = (zq_sh n).2 ∧ (zq_sh n).2 ≤ B then some (zq_new h n) else none
/-- a static array's place -/
def zq_st (i : Nat) (x : Int32) : Option Int32 := if ¬ (x < 0 ∨ 6 ≤ x.toNatClampNeg) then some ((zq_tab i).getD x.toNatClampNeg 0) else none
theorem zq_up_same {α : Type} (f : Nat → Nat → α) (t j : Nat) (v : α) : zq_up f t j v t j = v := by simp [zq_up]
theorem zq_up_o {α : Type} (f : Nat → Nat → α) {t a : Nat} (j : Nat) (v : α) (h : a ≠ t) : zq_up f t j v a = f a := by funext b; simp [zq_up, h]
theorem zq_up_j {α : Type} (f : Nat → Nat → α) (t : Nat) {j b : Nat} (v : α) (h : b ≠ j) : zq_up f t j v t b = f t b := by simp [zq_up, h]
theorem zq_up_t {α : Type} (f : Nat → Nat → α) (t j : Nat) (v : α) : zq_up f t j v t = fun b => if b = j then v else f t b := by funext b; simp [zq_up]
theorem zq_row_o {α : Type} (f : Nat → Nat → α) {t a : Nat} (v : α) (h : a ≠ t) : zq_row f t v a = f a := by funext b; simp [zq_row, h]
theorem zq_row_t {α : Type} (f : Nat → Nat → α) (t : Nat) (v : α) : zq_row f t v t = fun _ => v := by funext b; simp [zq_row]
theorem zq_fs_get {c s0 : Nat} {h : zq_H} {t j k : Nat} (hk : (zq_fk c)[j]? = some k) : (zq_fs c s0 h t)[j]? = some (zq_fv s0 h t j k) := by
  simp [zq_fs, List.getElem?_mapIdx, hk]
theorem zq_fs_len (c s0 : Nat) (h : zq_H) (t : Nat) : (zq_fs c s0 h t).length = (zq_fk c).length := by simp [zq_fs]
theorem zq_fs_set {c s0 : Nat} {h h' : zq_H} {t j k : Nat} (hk : (zq_fk c)[j]? = some k) (ho : ∀ i k2, i ≠ j → zq_fv s0 h' t i k2 = zq_fv s0 h t i k2) : zq_fs c s0 h' t = (zq_fs c s0 h t).set j (zq_fv s0 h' t j k) := by
  have hj : j < (zq_fk c).length := (List.getElem?_eq_some_iff.mp hk).1
  apply List.ext_getElem?
  intro i
  by_cases hi : i = j
  · subst hi
    rw [zq_fs_get hk, List.getElem?_set_self (by rw [zq_fs_len]; exact hj)]
  · rw [List.getElem?_set_ne (Ne.symm hi)]
    simp only [zq_fs, List.getElem?_mapIdx]
    cases (zq_fk c)[i]? with
    | none => rfl
    | some k2 => simp only [Option.map_some, ho i k2 hi]
theorem zq_cell_cong {E : zq_E} {h h' : zq_H} {t : Nat} (h1 : h'.2.1 t = h.2.1 t) (h2 : h'.2.2.1 t = h.2.2.1 t) (h3 : h'.2.2.2 t = h.2.2.2 t) : zq_cell E h' t = zq_cell E h t := by
  simp only [zq_cell, zq_fs, zq_fv, h1, h2, h3]
theorem zq_cell_o {E : zq_E} {h : zq_H} {t c : Nat} (hc : (zq_sh t).1 = c) (hlt : c < 10) : zq_cell E h t = .inr (c, zq_fs c E.2.2.1 h t) := by
  subst hc
  unfold zq_cell
  rw [if_neg (by omega), if_neg (by omega), if_neg (by omega), if_neg (by omega)]
theorem zq_cell_i {E : zq_E} {h : zq_H} {t : Nat} (hc : (zq_sh t).1 = 10) : zq_cell E h t = .inl (E.2.1 0, (zq_sh t).2, .inl (h.2.1 t)) := by
  unfold zq_cell
  rw [if_pos hc]
theorem zq_cell_l {E : zq_E} {h : zq_H} {t : Nat} (hc : (zq_sh t).1 = 11) : zq_cell E h t = .inl (E.2.1 1, (zq_sh t).2, .inr (.inl (h.2.2.1 t))) := by
  unfold zq_cell
  rw [if_neg (by omega), if_pos hc]
theorem zq_cell_q {E : zq_E} {h : zq_H} {t c : Nat} (hc : (zq_sh t).1 = c) (h2 : c = 12 ∨ c = 13) : zq_cell E h t = .inl (E.2.1 (c - 10), (zq_sh t).2, .inr (.inr (.inr (.inr (fun j => (h.2.2.2 t j).map (E.2.2.1 + ·)))))) := by
  unfold zq_cell
  rcases h2 with h2 | h2
  · subst h2
    rw [if_neg (by omega), if_neg (by omega), if_pos hc]
  · subst h2
    rw [if_neg (by omega), if_neg (by omega), if_neg (by omega), if_pos hc]
/-- a class's numbers, names and types -/
def zq_K (ci : Nat) (Cn : String) (T : u_T) (N : Nat) (ty : Nat → FieldType) : Prop :=
  vwCl[ci]? = some (Cn, T, N) ∧ (∀ k, k < N → parseFieldDescriptor (T k).2.2.1 = some (ty k)) ∧ (∀ a, a < N → ∀ b, b < N → a ≠ b → (T a).2.1 ≠ (T b).2.1) ∧ ci < 10 ∧ (zq_fk ci).length = N ∧
  (∀ j, j < N → defaultValue (ty j) = zq_fv 0 (0, fun _ _ => 0, fun _ _ => 0, fun _ _ => none) 0 j ((zq_fk ci).getD j 9))
theorem zq_K0 : zq_K 0 RX0 TX0 9 tyX0 := ⟨rfl, tyX0_ok, nmX0, by decide, rfl, by decide +kernel⟩
theorem zq_K1 : zq_K 1 RX1 TX1 9 tyX1 := ⟨rfl, tyX1_ok, nmX1, by decide, rfl, by decide +kernel⟩
theorem zq_K2 : zq_K 2 RX2 TX2 6 tyX2 := ⟨rfl, tyX2_ok, nmX2, by decide, rfl, by decide +kernel⟩
theorem zq_K3 : zq_K 3 RX3 TX3 5 tyX3 := ⟨rfl, tyX3_ok, nmX3, by decide, rfl, by decide +kernel⟩
theorem zq_K4 : zq_K 4 RX4 TX4 2 tyX4 := ⟨rfl, tyX4_ok, nmX4, by decide, rfl, by decide +kernel⟩
theorem zq_K5 : zq_K 5 RX5 TX5 11 tyX5 := ⟨rfl, tyX5_ok, nmX5, by decide, rfl, by decide +kernel⟩
theorem zq_K6 : zq_K 6 RX6 TX6 22 tyX6 := ⟨rfl, tyX6_ok, nmX6, by decide, rfl, by decide +kernel⟩
/-- how a field is linked: in its own class (inl), or by a nest mate (inr) -/
def zq_lk (own : String) (Ts : List Cond) (ix : Nat) (f : String × String × String × Bool) : Prop :=
  Cond.fieldLink own ix f.1 f.2.1 f.2.2.1 ∈ Ts ∨ ∃ host, Cond.fieldLinkNest own ix f.1 f.2.1 f.2.2.1 host ∈ zq_nw
section ZQH
variable {X : zq_X} {own : String} {cc : ByteArray} {nL : Nat} {Ts : List Cond} {R0 : Room} {cells slots : Nat} {h h' : zq_H} {pc pc' : Nat} {lv lv' : List (Nat × Value)} {st : List Value}
variable {ci N ix t j k : Nat} {Cn : String} {T : u_T} {ty : Nat → FieldType}
theorem zq_getf (C : zq_C X own cc nL Ts R0) (K : zq_K ci Cn T N ty) (hin : ∀ w ∈ u_ws Cn T N, w ∈ Ts) (hl : zq_lk own Ts ix (T j)) (hj : j < N) (hk : (zq_fk ci)[j]? = some k) (ht : t < h.1 ∧ (zq_sh t).1 = ci) (d : decode cc pc = .ok (.getfield ix, 3)) (hpc : pc + 3 = pc') {w : Value} (hw : ∀ s0, zq_tr s0 w = zq_fv s0 h t j k) (kk : zq_W X cells slots h pc' lv (w :: st)) : zq_W X cells slots h pc lv (.ref t :: st) := by
  subst hpc
  obtain ⟨p, l, e, R, s, m, args, below, meth, c, Q, E⟩ := X
  obtain ⟨hx, hb, hml, hown, hts, hR, hK, hSF, hs0, hlocks, hst⟩ := C
  obtain ⟨hc, hty, hnm, hci, hlen, -⟩ := K
  intro H locs ls hI hL
  have hcell := zq_wl_get (E := E) ht.1
  rw [zq_cell_o ht.2 hci] at hcell
  have hv : (zq_fs ci E.2.2.1 h t)[j]? = some (zq_tr E.2.2.1 w) := by rw [zq_fs_get hk, hw]
  rcases hl with hl | ⟨host, hl⟩
  · exact va_get (D := E.1) (ci := ci) (C := Cn) (T := T) (N := N) hx hb hts hin hown hK hI.1 t hcell hc j hj (hts _ hl) (fun _ h9 => h9) hv d (kk H locs ls hI hL)
  · exact va_getN (D := E.1) (ci := ci) (C := Cn) (T := T) (N := N) hx hb hts hin hown hK hI.1 t hcell hc j hj (va_Nw.use rfl (hSF.1 _ hl)) (fun _ h9 => h9) hv d (kk H locs ls hI hL)
theorem zq_putf (C : zq_C X own cc nL Ts R0) (K : zq_K ci Cn T N ty) (hin : ∀ w ∈ u_ws Cn T N, w ∈ Ts) (hl : zq_lk own Ts ix (T j)) (hj : j < N) (hk : (zq_fk ci)[j]? = some k) (ht : t < h.1 ∧ (zq_sh t).1 = ci) (d : decode cc pc = .ok (.putfield ix, 3)) (hpc : pc + 3 = pc')
    (hf : (T j).2.2.2 = false ∨ (X.2.2.2.2.2.2.2.2.1.name = "<init>" ∧ (T j).1 = own ∧ (T j).2.2.2 = true ∧ Cond.fieldLink own ix (T j).1 (T j).2.1 (T j).2.2.1 ∈ Ts)) {w : Value} (hn : ∀ s0, narrow (ty j) (zq_tr s0 w) = zq_tr s0 w) (hfit : ∀ s0, fits (ty j) (zq_tr s0 w) = true)
    (h1 : h'.1 = h.1) (hw : ∀ s0, zq_tr s0 w = zq_fv s0 h' t j k) (ho : ∀ a, a ≠ t → h'.2.1 a = h.2.1 a ∧ h'.2.2.1 a = h.2.2.1 a ∧ h'.2.2.2 a = h.2.2.2 a) (hoj : ∀ s0 i k2, i ≠ j → zq_fv s0 h' t i k2 = zq_fv s0 h t i k2)
    (kk : zq_W X cells slots h' pc' lv st) : zq_W X cells slots h pc lv (w :: .ref t :: st) := by
  subst hpc
  obtain ⟨p, l, e, R, s, m, args, below, meth, c, Q, E⟩ := X
  obtain ⟨hx, hb, hml, hown, hts, hR, hK, hSF, hs0, hlocks, hst⟩ := C
  obtain ⟨hc, hty, hnm, hci, hlen, -⟩ := K
  intro H locs ls hI hL
  have hcell := zq_wl_get (E := E) ht.1
  rw [zq_cell_o ht.2 hci] at hcell
  have hws : zq_wl E h' = (zq_wl E h).set t (E.2.2.1 + t, .inr (ci, (zq_fs ci E.2.2.1 h t).set j (zq_tr E.2.2.1 w))) := by
    refine zq_wl_set h1 ht.1 ?_ (fun a ha => zq_cell_cong (ho a ha).1 (ho a ha).2.1 (ho a ha).2.2)
    rw [zq_cell_o ht.2 hci, zq_fs_set (h := h) hk (hoj E.2.2.1), hw]
  have hlt : j < (zq_fs ci E.2.2.1 h t).length := by rw [zq_fs_len, hlen]; exact hj
  rcases hf with hf | ⟨hin2, hdecl, hfin, hl2⟩
  · rcases hl with hl | ⟨host, hl⟩
    · exact va_put (D := E.1) (ci := ci) (C := Cn) (T := T) (N := N) hx hb hts hin ty hty hnm hown hK hI.1 (zq_wl_D E h) hI.2 t hcell hc j hj (hts _ hl) (fun _ h9 => h9) hf (hty j hj) (hn _) (hfit _) hlt d (fun H1 locs1 a1 _ a3 => kk H1 locs1 ls ⟨by rw [hws]; exact a1, a3⟩ hL)
    · exact va_putN (D := E.1) (ci := ci) (C := Cn) (T := T) (N := N) hx hb hts hin ty hty hnm hown hK hI.1 (zq_wl_D E h) hI.2 t hcell hc j hj (va_Nw.use rfl (hSF.1 _ hl)) (fun _ h9 => h9) hf (hty j hj) (hn _) (hfit _) hlt d (fun H1 locs1 a1 _ a3 => kk H1 locs1 ls ⟨by rw [hws]; exact a1, a3⟩ hL)
  · exact va_putF (D := E.1) (ci := ci) (C := Cn) (T := T) (N := N) hx hb hts hin ty hty hnm hown hK hI.1 (zq_wl_D E h) hI.2 t hcell hc j hj (hts _ hl2) (fun _ h9 => h9) hfin hin2 hdecl (hty j hj) (hn _) (hfit _) hlt d (fun H1 locs1 a1 _ a3 => kk H1 locs1 ls ⟨by rw [hws]; exact a1, a3⟩ hL)
theorem zq_getI (C : zq_C X own cc nL Ts R0) (K : zq_K ci Cn T N ty) (hin : ∀ w ∈ u_ws Cn T N, w ∈ Ts) (hl : zq_lk own Ts ix (T j)) (hj : j < N) (hk : (zq_fk ci)[j]? = some 0) (d : decode cc pc = .ok (.getfield ix, 3)) (hpc : pc + 3 = pc') {v : Int32} (hg : zq_gi h t ci j = some v) (kk : zq_W X cells slots h pc' lv (.int v :: st)) : zq_W X cells slots h pc lv (.ref t :: st) := by
  obtain ⟨h1, h2⟩ := zq_if1 hg
  cases h2
  exact zq_getf C K hin hl hj hk h1 d hpc (w := .int (h.2.1 t j)) (fun _ => rfl) kk
theorem zq_getL (C : zq_C X own cc nL Ts R0) (K : zq_K ci Cn T N ty) (hin : ∀ w ∈ u_ws Cn T N, w ∈ Ts) (hl : zq_lk own Ts ix (T j)) (hj : j < N) (hk : (zq_fk ci)[j]? = some 1) (d : decode cc pc = .ok (.getfield ix, 3)) (hpc : pc + 3 = pc') {v : Int64} (hg : zq_gl h t ci j = some v) (kk : zq_W X cells slots h pc' lv (.long v :: st)) : zq_W X cells slots h pc lv (.ref t :: st) := by
  obtain ⟨h1, h2⟩ := zq_if1 hg
  cases h2
  exact zq_getf C K hin hl hj hk h1 d hpc (w := .long (h.2.2.1 t j)) (fun _ => rfl) kk
theorem zq_getR (C : zq_C X own cc nL Ts R0) (K : zq_K ci Cn T N ty) (hin : ∀ w ∈ u_ws Cn T N, w ∈ Ts) (hl : zq_lk own Ts ix (T j)) (hj : j < N) (hk : (zq_fk ci)[j]? = some 2) (d : decode cc pc = .ok (.getfield ix, 3)) (hpc : pc + 3 = pc') {v : Nat} (hg : zq_gr h t ci j = some v) (kk : zq_W X cells slots h pc' lv (.ref v :: st)) : zq_W X cells slots h pc lv (.ref t :: st) := by
  obtain ⟨h1, h2⟩ := zq_if1 hg
  exact zq_getf C K hin hl hj hk h1 d hpc (w := .ref v) (fun s0 => by show _ = va_rf ((h.2.2.2 t j).map (s0 + ·)); rw [h2]; rfl) kk
theorem zq_getQ (C : zq_C X own cc nL Ts R0) (K : zq_K ci Cn T N ty) (hin : ∀ w ∈ u_ws Cn T N, w ∈ Ts) (hl : zq_lk own Ts ix (T j)) (hj : j < N) (hk : (zq_fk ci)[j]? = some 2) (d : decode cc pc = .ok (.getfield ix, 3)) (hpc : pc + 3 = pc') {v : Option Nat} (hg : zq_gq h t ci j = some v) (kk : zq_W X cells slots h pc' lv (zq_rv v :: st)) : zq_W X cells slots h pc lv (.ref t :: st) := by
  obtain ⟨h1, h2⟩ := zq_if1 hg
  cases h2
  exact zq_getf C K hin hl hj hk h1 d hpc (w := zq_rv (h.2.2.2 t j)) (fun s0 => zq_tr_rv s0 _) kk
theorem zq_putI (C : zq_C X own cc nL Ts R0) (K : zq_K ci Cn T N ty) (hin : ∀ w ∈ u_ws Cn T N, w ∈ Ts) (hl : zq_lk own Ts ix (T j)) (hj : j < N) (hk : (zq_fk ci)[j]? = some 0) (hty : ty j = .int) (d : decode cc pc = .ok (.putfield ix, 3)) (hpc : pc + 3 = pc')
    (hf : (T j).2.2.2 = false ∨ (X.2.2.2.2.2.2.2.2.1.name = "<init>" ∧ (T j).1 = own ∧ (T j).2.2.2 = true ∧ Cond.fieldLink own ix (T j).1 (T j).2.1 (T j).2.2.1 ∈ Ts)) {v : Int32} (hg : zq_pi h t ci j v = some h') (kk : zq_W X cells slots h' pc' lv st) : zq_W X cells slots h pc lv (.int v :: .ref t :: st) := by
  obtain ⟨h1, h2⟩ := zq_if1 hg
  cases h2
  refine zq_putf (h' := (h.1, zq_up h.2.1 t j v, h.2.2)) C K hin hl hj hk h1 d hpc hf (w := .int v) (fun _ => by rw [hty]; rfl) (fun _ => by rw [hty]; rfl) rfl (fun _ => ?_) (fun a ha => ⟨zq_up_o _ _ _ ha, rfl, rfl⟩) (fun s0 i k2 hi => ?_) kk
  · simp [zq_fv, zq_up, zq_tr]
  · simp [zq_fv, zq_up, hi]
theorem zq_putL (C : zq_C X own cc nL Ts R0) (K : zq_K ci Cn T N ty) (hin : ∀ w ∈ u_ws Cn T N, w ∈ Ts) (hl : zq_lk own Ts ix (T j)) (hj : j < N) (hk : (zq_fk ci)[j]? = some 1) (hty : ty j = .long) (d : decode cc pc = .ok (.putfield ix, 3)) (hpc : pc + 3 = pc')
    (hf : (T j).2.2.2 = false ∨ (X.2.2.2.2.2.2.2.2.1.name = "<init>" ∧ (T j).1 = own ∧ (T j).2.2.2 = true ∧ Cond.fieldLink own ix (T j).1 (T j).2.1 (T j).2.2.1 ∈ Ts)) {v : Int64} (hg : zq_pl h t ci j v = some h') (kk : zq_W X cells slots h' pc' lv st) : zq_W X cells slots h pc lv (.long v :: .ref t :: st) := by
  obtain ⟨h1, h2⟩ := zq_if1 hg
  cases h2
  refine zq_putf (h' := (h.1, h.2.1, zq_up h.2.2.1 t j v, h.2.2.2)) C K hin hl hj hk h1 d hpc hf (w := .long v) (fun _ => by rw [hty]; rfl) (fun _ => by rw [hty]; rfl) rfl (fun _ => ?_) (fun a ha => ⟨rfl, zq_up_o _ _ _ ha, rfl⟩) (fun s0 i k2 hi => ?_) kk
  · simp [zq_fv, zq_up, zq_tr]
  · simp [zq_fv, zq_up, hi]
theorem zq_putR (C : zq_C X own cc nL Ts R0) (K : zq_K ci Cn T N ty) (hin : ∀ w ∈ u_ws Cn T N, w ∈ Ts) (hl : zq_lk own Ts ix (T j)) (hj : j < N) (hk : (zq_fk ci)[j]? = some 2) (hty : (∃ n, ty j = .object n) ∨ ∃ n, ty j = .array n) (d : decode cc pc = .ok (.putfield ix, 3)) (hpc : pc + 3 = pc')
    (hf : (T j).2.2.2 = false ∨ (X.2.2.2.2.2.2.2.2.1.name = "<init>" ∧ (T j).1 = own ∧ (T j).2.2.2 = true ∧ Cond.fieldLink own ix (T j).1 (T j).2.1 (T j).2.2.1 ∈ Ts)) {v : Nat} (hg : zq_pr h t ci j v = some h') (kk : zq_W X cells slots h' pc' lv st) : zq_W X cells slots h pc lv (.ref v :: .ref t :: st) := by
  obtain ⟨h1, h2⟩ := zq_if1 hg
  cases h2
  refine zq_putf (h' := (h.1, h.2.1, h.2.2.1, zq_up h.2.2.2 t j (some v))) C K hin hl hj hk h1 d hpc hf (w := .ref v) (fun _ => ?_) (fun _ => ?_) rfl (fun _ => ?_) (fun a ha => ⟨rfl, rfl, zq_up_o _ _ _ ha⟩) (fun s0 i k2 hi => ?_) kk
  · rcases hty with ⟨n, e⟩ | ⟨n, e⟩ <;> rw [e] <;> rfl
  · rcases hty with ⟨n, e⟩ | ⟨n, e⟩ <;> rw [e] <;> rfl
  · simp [zq_fv, zq_up, zq_tr, va_rf]
  · simp [zq_fv, zq_up, hi]
theorem zq_iaload (C : zq_C X own cc nL Ts R0) {a : Nat} {i v : Int32} (d : decode cc pc = .ok (.iaload, 1)) (hpc : pc + 1 = pc') (hg : zq_ai h a i = some v) (kk : zq_W X cells slots h pc' lv (.int v :: st)) : zq_W X cells slots h pc lv (.int i :: .ref a :: st) := by
  subst hpc
  obtain ⟨h1, h2⟩ := zq_if1 hg
  cases h2
  obtain ⟨p, l, e, R, s, m, args, below, meth, c, Q, E⟩ := X
  obtain ⟨hx, hb, hml, hown, hts, hR, hK, hSF, hs0, hlocks, hst⟩ := C
  intro H locs ls hI hL
  have hcell := zq_wl_get (E := E) h1.1
  rw [zq_cell_i h1.2.1] at hcell
  exact va_iald hx hb hK hI.1 a 0 hcell rfl h1.2.2 d (kk H locs ls hI hL)
theorem zq_laload (C : zq_C X own cc nL Ts R0) {a : Nat} {i : Int32} {v : Int64} (d : decode cc pc = .ok (.laload, 1)) (hpc : pc + 1 = pc') (hg : zq_al h a i = some v) (kk : zq_W X cells slots h pc' lv (.long v :: st)) : zq_W X cells slots h pc lv (.int i :: .ref a :: st) := by
  subst hpc
  obtain ⟨h1, h2⟩ := zq_if1 hg
  cases h2
  obtain ⟨p, l, e, R, s, m, args, below, meth, c, Q, E⟩ := X
  obtain ⟨hx, hb, hml, hown, hts, hR, hK, hSF, hs0, hlocks, hst⟩ := C
  intro H locs ls hI hL
  have hcell := zq_wl_get (E := E) h1.1
  rw [zq_cell_l h1.2.1] at hcell
  exact va_lald hx hb hK hI.1 a 1 hcell rfl h1.2.2 d (kk H locs ls hI hL)
theorem zq_aaload (C : zq_C X own cc nL Ts R0) (ck : Nat) (hck : ck = 12 ∨ ck = 13) {a v : Nat} {i : Int32} (d : decode cc pc = .ok (.aaload, 1)) (hpc : pc + 1 = pc') (hg : zq_aq h a ck i = some v) (kk : zq_W X cells slots h pc' lv (.ref v :: st)) : zq_W X cells slots h pc lv (.int i :: .ref a :: st) := by
  subst hpc
  obtain ⟨h1, h2⟩ := zq_if1 hg
  obtain ⟨p, l, e, R, s, m, args, below, meth, c, Q, E⟩ := X
  obtain ⟨hx, hb, hml, hown, hts, hR, hK, hSF, hs0, hlocks, hst⟩ := C
  intro H locs ls hI hL
  have hcell := zq_wl_get (E := E) h1.1
  rw [zq_cell_q h1.2.1 hck] at hcell
  have hk2 := kk H locs ls hI hL
  have e1 : zq_tr E.2.2.1 (.ref v) = va_rf ((h.2.2.2 a i.toNatClampNeg).map (E.2.2.1 + ·)) := by rw [h2]; rfl
  rw [List.map_cons, e1] at hk2
  rcases hck with rfl | rfl
  · exact va_aldq (C := "FlipPolygons$FlipGraph") hx hb hK hI.1 a 2 hcell rfl h1.2.2 d hk2
  · exact va_aldq (C := "FlipPolygons$State") hx hb hK hI.1 a 3 hcell rfl h1.2.2 d hk2
theorem zq_iastore (C : zq_C X own cc nL Ts R0) {a : Nat} {i v : Int32} (d : decode cc pc = .ok (.iastore, 1)) (hpc : pc + 1 = pc') (hg : zq_si h a i v = some h') (kk : zq_W X cells slots h' pc' lv st) : zq_W X cells slots h pc lv (.int v :: .int i :: .ref a :: st) := by
  subst hpc
  obtain ⟨h1, h2⟩ := zq_if1 hg
  cases h2
  obtain ⟨p, l, e, R, s, m, args, below, meth, c, Q, E⟩ := X
  obtain ⟨hx, hb, hml, hown, hts, hR, hK, hSF, hs0, hlocks, hst⟩ := C
  intro H locs ls hI hL
  have hcell := zq_wl_get (E := E) h1.1
  rw [zq_cell_i h1.2.1] at hcell
  refine va_iast hx hb hK hI.1 (zq_wl_D E h) hI.2 a 0 hcell rfl h1.2.2 d (fun H1 locs1 a1 _ a3 => kk H1 locs1 ls ⟨?_, a3⟩ hL)
  rw [zq_wl_set (h := h) (h' := (h.1, zq_up h.2.1 a i.toNatClampNeg v, h.2.2)) rfl h1.1 (zq_cell_i h1.2.1) (fun b hb2 => zq_cell_cong (zq_up_o _ _ _ hb2) rfl rfl)]
  rw [show (h.1, zq_up h.2.1 a i.toNatClampNeg v, h.2.2).2.1 a = upd (h.2.1 a) i.toNatClampNeg v from by funext q; simp [zq_up, upd]]
  exact a1
theorem zq_lastore (C : zq_C X own cc nL Ts R0) {a : Nat} {i : Int32} {v : Int64} (d : decode cc pc = .ok (.lastore, 1)) (hpc : pc + 1 = pc') (hg : zq_sL h a i v = some h') (kk : zq_W X cells slots h' pc' lv st) : zq_W X cells slots h pc lv (.long v :: .int i :: .ref a :: st) := by
  subst hpc
  obtain ⟨h1, h2⟩ := zq_if1 hg
  cases h2
  obtain ⟨p, l, e, R, s, m, args, below, meth, c, Q, E⟩ := X
  obtain ⟨hx, hb, hml, hown, hts, hR, hK, hSF, hs0, hlocks, hst⟩ := C
  intro H locs ls hI hL
  have hcell := zq_wl_get (E := E) h1.1
  rw [zq_cell_l h1.2.1] at hcell
  refine va_last hx hb hK hI.1 (zq_wl_D E h) hI.2 a 1 hcell rfl h1.2.2 d (fun H1 locs1 a1 _ a3 => kk H1 locs1 ls ⟨?_, a3⟩ hL)
  rw [zq_wl_set (h := h) (h' := (h.1, h.2.1, zq_up h.2.2.1 a i.toNatClampNeg v, h.2.2.2)) rfl h1.1 (zq_cell_l h1.2.1) (fun b hb2 => zq_cell_cong rfl (zq_up_o _ _ _ hb2) rfl)]
  rw [show (h.1, h.2.1, zq_up h.2.2.1 a i.toNatClampNeg v, h.2.2.2).2.2.1 a = vp_updL (h.2.2.1 a) i.toNatClampNeg v from by funext q; simp [zq_up, vp_updL]]
  exact a1
theorem zq_aastore (C : zq_C X own cc nL Ts R0) (ck co : Nat) (hck : (ck = 12 ∧ co = 0) ∨ (ck = 13 ∧ co = 3)) {a v : Nat} {i : Int32} (d : decode cc pc = .ok (.aastore, 1)) (hpc : pc + 1 = pc') (hg : zq_sq h a ck co i v = some h') (kk : zq_W X cells slots h' pc' lv st) : zq_W X cells slots h pc lv (.ref v :: .int i :: .ref a :: st) := by
  subst hpc
  obtain ⟨h1, h2⟩ := zq_if1 hg
  cases h2
  obtain ⟨p, l, e, R, s, m, args, below, meth, c, Q, E⟩ := X
  obtain ⟨hx, hb, hml, hown, hts, hR, hK, hSF, hs0, hlocks, hst⟩ := C
  intro H locs ls hI hL
  have hck2 : ck = 12 ∨ ck = 13 := by rcases hck with h | h; exact Or.inl h.1; exact Or.inr h.1
  have hcell := zq_wl_get (E := E) h1.1
  rw [zq_cell_q h1.2.1 hck2] at hcell
  have hcv := zq_wl_get (E := E) h1.2.2.2.1
  rw [zq_cell_o h1.2.2.2.2 (by rcases hck with h | h <;> omega)] at hcv
  have fin : ∀ (H1 : Heap), va_P E.1 vwCl ((zq_wl E h).set a (E.2.2.1 + a, .inl (E.2.1 (ck - 10), (zq_sh a).2, .inr (.inr (.inr (.inr (va_up (fun j => (h.2.2.2 a j).map (E.2.2.1 + ·)) i.toNatClampNeg (some (E.2.2.1 + v))))))))) H1 → va_P E.1 vwCl (zq_wl E (h.1, h.2.1, h.2.2.1, zq_up h.2.2.2 a i.toNatClampNeg (some v))) H1 := by
    intro H1 a1
    rw [zq_wl_set (h := h) (h' := (h.1, h.2.1, h.2.2.1, zq_up h.2.2.2 a i.toNatClampNeg (some v))) rfl h1.1 (zq_cell_q h1.2.1 hck2) (fun b hb2 => zq_cell_cong rfl rfl (zq_up_o _ _ _ hb2))]
    rw [show (fun j => ((h.1, h.2.1, h.2.2.1, zq_up h.2.2.2 a i.toNatClampNeg (some v)).2.2.2 a j).map (E.2.2.1 + ·)) = va_up (fun j => (h.2.2.2 a j).map (E.2.2.1 + ·)) i.toNatClampNeg (some (E.2.2.1 + v)) from by
      funext q
      by_cases hq : q = i.toNatClampNeg
      · subst hq; simp [zq_up, va_up]
      · simp [zq_up, va_up, hq]]
    exact a1
  rcases hck with ⟨rfl, rfl⟩ | ⟨rfl, rfl⟩
  · exact va_astq (r := (RX0, TX0, 9)) hx hb hK hI.1 (zq_wl_D E h) hI.2 a 2 v 0 hcell rfl hcv rfl h1.2.2.1 d (fun H1 locs1 a1 _ a3 => kk H1 locs1 ls ⟨fin H1 a1, a3⟩ hL)
  · exact va_astq (r := (RX3, TX3, 5)) hx hb hK hI.1 (zq_wl_D E h) hI.2 a 3 v 3 hcell rfl hcv rfl h1.2.2.1 d (fun H1 locs1 a1 _ a3 => kk H1 locs1 ls ⟨fin H1 a1, a3⟩ hL)
theorem zq_alen (C : zq_C X own cc nL Ts R0) {a : Nat} {v : Int32} (d : decode cc pc = .ok (.arraylength, 1)) (hpc : pc + 1 = pc') (hg : zq_an h a = some v) (kk : zq_W X cells slots h pc' lv (.int v :: st)) : zq_W X cells slots h pc lv (.ref a :: st) := by
  subst hpc
  obtain ⟨h1, h2⟩ := zq_if1 hg
  cases h2
  obtain ⟨p, l, e, R, s, m, args, below, meth, c, Q, E⟩ := X
  obtain ⟨hx, hb, hml, hown, hts, hR, hK, hSF, hs0, hlocks, hst⟩ := C
  intro H locs ls hI hL
  have hcell := zq_wl_get (E := E) h1.1
  have hc4 : (zq_sh a).1 = 10 ∨ (zq_sh a).1 = 11 ∨ (zq_sh a).1 = 12 ∨ (zq_sh a).1 = 13 := by omega
  rcases hc4 with hc | hc | hc | hc
  · rw [zq_cell_i hc] at hcell
    exact va_alen hx hb hK hI.1 a 0 hcell rfl rfl d (kk H locs ls hI hL)
  · rw [zq_cell_l hc] at hcell
    exact va_alen hx hb hK hI.1 a 1 hcell rfl rfl d (kk H locs ls hI hL)
  · rw [zq_cell_q hc (Or.inl rfl)] at hcell
    exact va_alen hx hb hK hI.1 a 2 hcell rfl rfl d (kk H locs ls hI hL)
  · rw [zq_cell_q hc (Or.inr rfl)] at hcell
    exact va_alen hx hb hK hI.1 a 3 hcell rfl rfl d (kk H locs ls hI hL)
end ZQH
end
section
/-- what a callee asks of a method's name and description -/
abbrev zq_Y (y : MethodName) (n : Nat) : Prop := y.cls ≠ "java/lang/invoke/MethodHandle" ∧ y.cls ≠ "java/lang/invoke/VarHandle" ∧ (parseMethodDescriptor y.desc).map (fun d => d.parameters.length) = some n
abbrev zq_Rm (rm R0 : Room) (maxL : Nat) : Prop := rm.frames + 1 ≤ R0.frames ∧ 8 + (maxL + 11) + rm.locals ≤ R0.locals
theorem zq_pre {E : zq_E} {s U : State} {h : zq_H} {tz : Option Nat} {H : Heap} {locs : List Loc} (hK : va_K E.1 vwCl (zq_tys E) s) (hSF : zq_SF E s s.heap) (hs0 : E.2.2.1 ≤ s.heap.size) (hI : zq_In E s h H locs) (hz : ∀ n, tz = some n → H.size = E.2.2.1 + n) (hU : U.heap = H) (hW : s.WarmedH U.vm) : zq_Pre E h tz U := by
  refine ⟨by rw [hU]; exact hI.1, va_K.moved hW.alike hK, ?_, by rw [hU]; exact Nat.le_trans hs0 hI.2.1, fun n hn => by rw [hU]; exact hz n hn⟩
  rw [hU]
  exact zq_SF.moved hW (fun a h1 h2 => hI.2.2.1 a h1 h2) hSF
theorem zq_size {p : Program} {l : Launch} {e : Env} {R : Room} {s : State} {m : MethodId} {args : Array Value} {below : List Frame} {meth : Method} {c : Code} {T : State} {E : zq_E} {h : zq_H} {H : Heap} {locs : List Loc} {cells slots n0 n : Nat} (hI : zq_In E s h H locs) (hs0 : E.2.2.1 ≤ s.heap.size) (ht : s.heap.size = E.2.2.1 + n0) (hn : n0 + cells = n) (hh : h.1 = n) (hT : T.heap = H) (X : Stand p l e R s m args below meth c T locs cells slots) : H.size = E.2.2.1 + n := by
  have h1 : T.heap.size ≤ s.heap.size + cells := X.same.2.2.1
  rw [hT] at h1
  have h2 : E.2.2.1 + n ≤ H.size := by
    by_cases h0 : n = 0
    · have := hI.2.1
      omega
    · have hlt : n - 1 < h.1 := by omega
      have := (hI.1 (n - 1) _ (zq_wl_get hlt)).lt
      simp only at this
      omega
  omega
section ZQC
variable {X : zq_X} {own : String} {cc : ByteArray} {nL : Nat} {Ts : List Cond} {R0 : Room} {cells slots : Nat} {h h' : zq_H} {pc pc' : Nat} {lv lv' : List (Nat × Value)} {st : List Value}
theorem zq_run {p : Program} {l : Launch} {e : Env} {R : Room} {s : State} {m : MethodId} {args : Array Value} {below : List Frame} {meth : Method} {c : Code} {Q : State → Prop} {E : zq_E} {H : Heap} {locs : List Loc} {ls : Array Slot} {mc ms : Nat} {rv : Option Value} {a : Array Value} {st0 : List Value} (hI : zq_In E s h H locs) (hL : lv_has ls c.maxLocals (lv.map (fun q => (q.1, zq_tr E.2.2.1 q.2))))
    (hr : va_Run p l e R s m args below meth c H locs cells slots mc ms (F0 m pc ls st0) (st.map (zq_tr E.2.2.1)) (zq_Q E rv h' a) (zq_A E)) (k : zq_W (p, l, e, R, s, m, args, below, meth, c, Q, E) (cells + mc) (slots + ms) h' (pc + 3) lv (rv.toList ++ st)) : W p l e R s m args below meth c H locs cells slots Q (F0 m pc ls st0) := by
  intro T hT XX
  obtain ⟨v, s9, t, T', L, h0, X', hL9, e1, e2, ⟨hv, hP, hF⟩, hgo⟩ := hr T hT XX
  cases hv
  obtain ⟨f1, f2⟩ := hF
  rw [h0] at f1 f2
  have hS := hI.2
  obtain ⟨t2, a1, b1⟩ := k T'.heap (locs ++ L) ls ⟨by rw [e1]; exact hP, Nat.le_trans hS.1 (by rw [e1]; exact f1), fun q h1 h2 => by rw [e1, f2 q (Nat.lt_of_lt_of_le h1 hS.1) h2]; exact hS.2.1 q h1 h2, fun q hq => by
      rcases List.mem_append.mp hq with h | h
      · exact hS.2.2 q h
      · exact hL9 q h⟩ hL T' rfl X'
  refine ⟨t2, hgo t2 ?_, b1⟩
  cases rv <;> exact a1
theorem zq_callV (C : zq_C X own cc nL Ts R0) {y : MethodName} {ws ws' : List Cond} {rm : Room} {b ci N index maxL : Nat} {as st0 : List Value} {rv : Option Value} {Cn : String} {T : u_T} {ty : Nat → FieldType} {bytes : ByteArray} {ret : Option FieldType} (hM : zq_M none y ws rm (.ref b :: as) h rv h') (g : GoodIn Ts (wsV own index Cn y ws)) (hw : ws = Cond.code y bytes maxL ret :: ws') (hd : y.cls = Cn ∧ zq_Y y as.length) (K : zq_K ci Cn T N ty) (hb : b < h.1 ∧ (zq_sh b).1 = ci) (d : decode cc pc = .ok (.invokevirtual index, 3)) (hpc : pc + 3 = pc') (hst0 : st0 = as.reverse ++ .ref b :: st) (hR : zq_Rm rm R0 maxL) (hcat : (st.map fun v => v.category).sum ≤ 8) (hcs : cells + rm.cells ≤ R0.cells ∧ slots + rm.slots ≤ R0.slots)
    (k : zq_W X (cells + rm.cells) (slots + rm.slots) h' pc' lv (rv.toList ++ st)) : zq_W X cells slots h pc lv st0 := by
  subst hpc; subst hst0
  obtain ⟨p, l, e, R, s, m, args, below, meth, c, Q, E⟩ := X
  obtain ⟨hx, hbb, hml, hown, hts, rfl, hK, hSF, hs0, hlocks, hst⟩ := C
  intro H locs ls hI hL
  have hcell := zq_wl_get (E := E) hb.1
  rw [zq_cell_o hb.2 K.2.2.2.1] at hcell
  refine zq_run hI hL (va_runV (As := as.map (zq_tr E.2.2.1)) (C := Cn) ⟨hx, hbb, hml, hown, hts⟩ (hM l E hst) (cwV as.length hts g hw rfl rfl hd hR) ⟨zq_Pre.blind _, va_recv hK hI.1 K.1 hcell, fun U hU hW => ⟨rfl, zq_pre hK hSF hs0 hI (fun n hn => by cases hn) hU hW⟩⟩ rfl (by simp) (by rw [← hml]; exact hL.1) (by simp [zq_tr]) (lv_room (by rw [zq_tr_sum]; exact hcat)) d hcs) k
theorem zq_callS (C : zq_C X own cc nL Ts R0) {y : MethodName} {ws ws' : List Cond} {rm : Room} {index maxL : Nat} {as st0 : List Value} {rv : Option Value} {bytes : ByteArray} {ret : Option FieldType} (hM : zq_M none y ws rm as h rv h') (g : GoodIn Ts (va_wsS own index y ws)) (hw : ws = Cond.code y bytes maxL ret :: ws') (hd : zq_Y y as.length) (d : decode cc pc = .ok (.invokestatic index, 3)) (hpc : pc + 3 = pc') (hst0 : st0 = as.reverse ++ st) (hR : zq_Rm rm R0 maxL) (hcat : (st.map fun v => v.category).sum ≤ 8) (hcs : cells + rm.cells ≤ R0.cells ∧ slots + rm.slots ≤ R0.slots)
    (k : zq_W X (cells + rm.cells) (slots + rm.slots) h' pc' lv (rv.toList ++ st)) : zq_W X cells slots h pc lv st0 := by
  subst hpc; subst hst0
  obtain ⟨p, l, e, R, s, m, args, below, meth, c, Q, E⟩ := X
  obtain ⟨hx, hbb, hml, hown, hts, rfl, hK, hSF, hs0, hlocks, hst⟩ := C
  intro H locs ls hI hL
  refine zq_run hI hL (va_runS (As := as.map (zq_tr E.2.2.1)) ⟨hx, hbb, hml, hown, hts⟩ (hM l E hst) (va_cwS as.length hts g hw rfl rfl hd hR) ⟨zq_Pre.blind _, fun U hU hW => ⟨rfl, zq_pre hK hSF hs0 hI (fun n hn => by cases hn) hU hW⟩⟩ rfl (by simp) (by rw [← hml]; exact hL.1) (by simp) (lv_room (by rw [zq_tr_sum]; exact hcat)) d hcs) k
theorem zq_callSN (C : zq_C X own cc nL Ts R0) {y : MethodName} {ws ws' : List Cond} {rm : Room} {index maxL : Nat} {as st0 : List Value} {rv : Option Value} {bytes : ByteArray} {ret : Option FieldType} {host : String} (hM : zq_M none y ws rm as h rv h') (g : GoodIn Ts ws) (hw : ws = Cond.code y bytes maxL ret :: ws') (hl : Cond.methodLinkNest own index y host ∈ zq_nw) (hini : Cond.initialized y.cls ∈ Ts) (hstat : Cond.static y ∈ Ts) (hd : zq_Y y as.length) (d : decode cc pc = .ok (.invokestatic index, 3)) (hpc : pc + 3 = pc') (hst0 : st0 = as.reverse ++ st) (hR : zq_Rm rm R0 maxL) (hcat : (st.map fun v => v.category).sum ≤ 8) (hcs : cells + rm.cells ≤ R0.cells ∧ slots + rm.slots ≤ R0.slots)
    (k : zq_W X (cells + rm.cells) (slots + rm.slots) h' pc' lv (rv.toList ++ st)) : zq_W X cells slots h pc lv st0 := by
  subst hpc; subst hst0
  obtain ⟨p, l, e, R, s, m, args, below, meth, c, Q, E⟩ := X
  obtain ⟨hx, hbb, hml, hown, hts, rfl, hK, hSF, hs0, hlocks, hst⟩ := C
  intro H locs ls hI hL
  refine zq_run hI hL (va_runSN (As := as.map (zq_tr E.2.2.1)) ⟨hx, hbb, hml, hown, hts⟩ (hM l E hst) ⟨va_cnB as.length hts g hw rfl rfl (hSF.1 _ hl) (hts _ hini) hd hR, hts _ hstat, trivial⟩ ⟨zq_Pre.blind _, fun U hU hW => ⟨rfl, zq_pre hK hSF hs0 hI (fun n hn => by cases hn) hU hW⟩⟩ rfl (by simp) (by rw [← hml]; exact hL.1) (by simp) (lv_room (by rw [zq_tr_sum]; exact hcat)) d hcs) k
theorem zq_callI (C : zq_C X own cc nL Ts R0) {tz : Option Nat} {y : MethodName} {ws ws' : List Cond} {rm : Room} {b index maxL : Nat} {as st0 : List Value} {bytes : ByteArray} (hM : zq_M tz y ws rm (.ref b :: as) h none h') (hz : ∀ n, tz = some n → ∃ n0, zq_T X (some n0) ∧ n0 + cells = n ∧ h.1 = n) (g : GoodIn Ts ws) (hw : ws = Cond.code y bytes maxL none :: ws') (hini : Cond.initialized y.cls ∈ Ts) (hl : Cond.methodLink own index y ∈ Ts) (hin : Cond.instanceMethod y ∈ Ts) (hy1 : y.name = "<init>") (hd : zq_Y y as.length) (d : decode cc pc = .ok (.invokespecial index, 3)) (hpc : pc + 3 = pc') (hst0 : st0 = as.reverse ++ .ref b :: st) (hR : zq_Rm rm R0 maxL) (hcat : (st.map fun v => v.category).sum ≤ 8) (hcs : cells + rm.cells ≤ R0.cells ∧ slots + rm.slots ≤ R0.slots)
    (k : zq_W X (cells + rm.cells) (slots + rm.slots) h' pc' lv st) : zq_W X cells slots h pc lv st0 := by
  subst hpc; subst hst0
  obtain ⟨p, l, e, R, s, m, args, below, meth, c, Q, E⟩ := X
  obtain ⟨hx, hbb, hml, hown, hts, rfl, hK, hSF, hs0, hlocks, hst⟩ := C
  intro H locs ls hI hL T hT XX
  have hz2 : ∀ n, tz = some n → H.size = E.2.2.1 + n := fun n hn => by
    obtain ⟨n0, a1, a2, a3⟩ := hz n hn
    exact zq_size hI hs0 (a1 n0 rfl) a2 a3 hT XX
  exact zq_run hI hL (va_runI (As := as.map (zq_tr E.2.2.1)) ⟨hx, hbb, hml, hown, hts⟩ (hM l E hst) (cwI as.length hts g hw rfl rfl (hts _ hini) (hts _ hl) (hts _ hin) hy1 hd hR) ⟨zq_Pre.blind _, fun U hU hW => ⟨rfl, zq_pre hK hSF hs0 hI hz2 hU hW⟩⟩ rfl (by simp) (by rw [← hml]; exact hL.1) (by simp [zq_tr]) (lv_room (by rw [zq_tr_sum]; exact hcat)) d hcs) k T hT XX
theorem zq_callIN (C : zq_C X own cc nL Ts R0) {y : MethodName} {ws ws' : List Cond} {rm : Room} {b index maxL : Nat} {as st0 : List Value} {bytes : ByteArray} {host : String} (hM : zq_M none y ws rm (.ref b :: as) h none h') (g : GoodIn Ts ws) (hw : ws = Cond.code y bytes maxL none :: ws') (hini : Cond.initialized y.cls ∈ Ts) (hl : Cond.methodLinkNest own index y host ∈ zq_nw) (hin : Cond.instanceMethod y ∈ Ts) (hy1 : y.name = "<init>") (hd : zq_Y y as.length) (d : decode cc pc = .ok (.invokespecial index, 3)) (hpc : pc + 3 = pc') (hst0 : st0 = as.reverse ++ .ref b :: st) (hR : zq_Rm rm R0 maxL) (hcat : (st.map fun v => v.category).sum ≤ 8) (hcs : cells + rm.cells ≤ R0.cells ∧ slots + rm.slots ≤ R0.slots)
    (k : zq_W X (cells + rm.cells) (slots + rm.slots) h' pc' lv st) : zq_W X cells slots h pc lv st0 := by
  subst hpc; subst hst0
  obtain ⟨p, l, e, R, s, m, args, below, meth, c, Q, E⟩ := X
  obtain ⟨hx, hbb, hml, hown, hts, rfl, hK, hSF, hs0, hlocks, hst⟩ := C
  intro H locs ls hI hL
  exact zq_run hI hL (va_runIN (As := as.map (zq_tr E.2.2.1)) ⟨hx, hbb, hml, hown, hts⟩ (hM l E hst) ⟨va_cnB as.length hts g hw rfl rfl (hSF.1 _ hl) (hts _ hini) hd hR, hy1, hts _ hin⟩ ⟨zq_Pre.blind _, fun U hU hW => ⟨rfl, zq_pre hK hSF hs0 hI (fun n hn => by cases hn) hU hW⟩⟩ rfl (by simp) (by rw [← hml]; exact hL.1) (by simp [zq_tr]) (lv_room (by rw [zq_tr_sum]; exact hcat)) d hcs) k
theorem zq_objInit (C : zq_C X own cc nL Ts R0) {idx a : Nat} (hl : Cond.methodLink own idx Lib.objectInit ∈ Ts) (hin : Cond.instanceMethod Lib.objectInit ∈ Ts) (hcode : Cond.code Lib.objectInit ⟨#[0xb1]⟩ 1 none ∈ Ts) (d : decode cc pc = .ok (.invokespecial idx, 3)) (hpc : pc + 3 = pc') (hf : 1 ≤ R0.frames) (hlo : 20 ≤ R0.locals) (hcat : (st.map fun v => v.category).sum ≤ 8) (k : zq_W X cells slots h pc' lv st) : zq_W X cells slots h pc lv (.ref a :: st) := by
  subst hpc
  obtain ⟨p, l, e, R, s, m, args, below, meth, c, Q, E⟩ := X
  obtain ⟨hx, hbb, hml, hown, hts, rfl, hK, hSF, hs0, hlocks, hst⟩ := C
  intro H locs ls hI hL
  refine W.objInit hx hbb hown (hts _ hl) (hts _ hin) (hts _ hcode) rfl hL.1 rfl d hf ?_ (k H locs ls hI hL)
  have h1 := lv_room (m := m) (pc := pc) (ls := ls) (rest := zq_tr E.2.2.1 (.ref a) :: st.map (zq_tr E.2.2.1)) (st := st.map (zq_tr E.2.2.1)) (by rw [zq_tr_sum]; exact hcat)
  exact Nat.le_trans (Nat.add_le_add_right h1 12) hlo
theorem zq_mmax (C : zq_C X own cc nL Ts R0) {index : Nat} {x y : Int32} (hl : Cond.methodLink own index Lib.Math.max.name ∈ Ts) (hs : Cond.static Lib.Math.max.name ∈ Ts) (hi : Cond.initialized "java/lang/Math" ∈ Ts) (hc : Cond.code Lib.Math.max.name Lib.Math.max.code 2 (some .int) ∈ Ts) (d : decode cc pc = .ok (.invokestatic index, 3)) (hpc : pc + 3 = pc') (hf : 1 ≤ R0.frames) (hlo : (st.map fun v => v.category).sum + 13 ≤ R0.locals) (hcs : cells ≤ R0.cells ∧ slots ≤ R0.slots) (k : zq_W X cells slots h pc' lv (.int (if x < y then y else x) :: st)) : zq_W X cells slots h pc lv (.int y :: .int x :: st) := by
  subst hpc
  obtain ⟨p, l, e, R, s, m, args, below, meth, c, Q, E⟩ := X
  obtain ⟨hx, hbb, hml, hown, hts, rfl, hK, hSF, hs0, hlocks, hst⟩ := C
  intro H locs ls hI hL
  exact va_mmax hx hbb hL.1.symm hown (hts _ hl) (hts _ hs) (hts _ hi) (hts _ hc) hf (by rw [zq_tr_sum]; exact hlo) hcs.1 hcs.2 d (k H locs ls hI hL)
theorem zq_mmin (C : zq_C X own cc nL Ts R0) {index : Nat} {x y : Int32} (hl : Cond.methodLink own index Lib.Math.min.name ∈ Ts) (hs : Cond.static Lib.Math.min.name ∈ Ts) (hi : Cond.initialized "java/lang/Math" ∈ Ts) (hc : Cond.code Lib.Math.min.name Lib.Math.min.code 2 (some .int) ∈ Ts) (d : decode cc pc = .ok (.invokestatic index, 3)) (hpc : pc + 3 = pc') (hf : 1 ≤ R0.frames) (hlo : (st.map fun v => v.category).sum + 13 ≤ R0.locals) (hcs : cells ≤ R0.cells ∧ slots ≤ R0.slots) (k : zq_W X cells slots h pc' lv (.int (if y < x then y else x) :: st)) : zq_W X cells slots h pc lv (.int y :: .int x :: st) := by
  subst hpc
  obtain ⟨p, l, e, R, s, m, args, below, meth, c, Q, E⟩ := X
  obtain ⟨hx, hbb, hml, hown, hts, rfl, hK, hSF, hs0, hlocks, hst⟩ := C
  intro H locs ls hI hL
  exact va_mmin hx hbb hL.1.symm hown (hts _ hl) (hts _ hs) (hts _ hi) (hts _ hc) hf (by rw [zq_tr_sum]; exact hlo) hcs.1 hcs.2 d (k H locs ls hI hL)
theorem zq_d2bits (C : zq_C X own cc nL Ts R0) {index : Nat} {b : UInt64} (hl : Cond.methodLink own index ⟨"java/lang/Double", "doubleToRawLongBits", "(D)J"⟩ ∈ Ts) (hn : Cond.native ⟨"java/lang/Double", "doubleToRawLongBits", "(D)J"⟩ ∈ Ts) (hs : Cond.static ⟨"java/lang/Double", "doubleToRawLongBits", "(D)J"⟩ ∈ Ts) (hi : Cond.initialized "java/lang/Double" ∈ Ts) (d : decode cc pc = .ok (.invokestatic index, 3)) (hpc : pc + 3 = pc') (hf : 1 ≤ R0.frames) (hlo : (st.map fun v => v.category).sum + 15 ≤ R0.locals) (k : zq_W X cells slots h pc' lv (.long b.toInt64 :: st)) : zq_W X cells slots h pc lv (.double b :: st) := by
  subst hpc
  obtain ⟨p, l, e, R, s, m, args, below, meth, c, Q, E⟩ := X
  obtain ⟨hx, hbb, hml, hown, hts, rfl, hK, hSF, hs0, hlocks, hst⟩ := C
  intro H locs ls hI hL
  exact vn_d2l hx hbb hL.1.symm hown (hts _ hl) (hts _ hn) (hts _ hs) (hts _ hi) hf (by rw [zq_tr_sum]; exact hlo) d (k H locs ls hI hL)
/-- new -/
theorem zq_newo (C : zq_C X own cc nL Ts R0) {ci N ix n n0 : Nat} {Cn : String} {T : u_T} {ty : Nat → FieldType} (K : zq_K ci Cn T N ty) (hin : ∀ w ∈ u_ws Cn T N, w ∈ Ts) (hcl : Cond.classLink own ix Cn ∈ Ts) (hinst : Cond.instantiable Cn N ∈ Ts) (hini : Cond.initialized Cn ∈ Ts) (ht : zq_T X (some n0)) (hn : n0 + cells = n) (d : decode cc pc = .ok (.new ix, 3)) (hpc : pc + 3 = pc') (hg : zq_nw1 h n ci = some h') (hcs : cells + 1 ≤ R0.cells ∧ slots + N ≤ R0.slots) (k : zq_W X (cells + 1) (slots + N) h' pc' lv (.ref n :: st)) : zq_W X cells slots h pc lv st := by
  subst hpc
  obtain ⟨hg1, hg2⟩ := zq_if1 hg
  cases hg2
  obtain ⟨p, l, e, R, s, m, args, below, meth, c, Q, E⟩ := X
  obtain ⟨hx, hbb, hml, hown, hts, rfl, hK, hSF, hs0, hlocks, hst⟩ := C
  obtain ⟨hc, hty, hnm, hci, hlen, hdf⟩ := K
  intro H locs ls hI hL T9 hT9 XX
  have hsz := zq_size hI hs0 (ht n0 rfl) hn hg1.1 hT9 XX
  have hKn := hK.1 ci _ hc
  have hP := hI.1
  suffices key : W p l e R s m args below meth c H locs cells slots Q (F0 m pc ls ((st).map (zq_tr E.2.2.1))) from key T9 hT9 XX
  refine W.newcK hx hbb hown (hts _ hcl) (hts _ hinst) (hts _ hini) rfl d hcs.1 hcs.2 hKn.2.1 hsz (fun H1 kC hkC e1 z1 o1 => ?_)
  have hk : ∀ (k : Nat) (x : Nat × va_E), (zq_wl E h)[k]? = some x → H1[x.1]? = H[x.1]? := fun k x hx => o1 x.1 (by rw [← hsz]; exact (hP k x hx).lt)
  refine k H1 locs ls ⟨?_, Nat.le_trans hI.2.1 (by omega), fun x h1 h2 => (o1 x (by have := hI.2.1; omega)).trans (hI.2.2.1 x h1 h2), hI.2.2.2⟩ hL
  have hn1 := hg1.1
  have hsh := hg1.2
  rw [zq_wl_push (h := h) (h' := zq_new h n) (e := .inr (ci, zq_fs ci E.2.2.1 (zq_new h n) n)) (show n + 1 = h.1 + 1 by rw [hn1]) (by rw [hn1]; exact zq_cell_o hsh hci) (fun j hj => zq_cell_cong (zq_row_o _ _ (by omega)) (zq_row_o _ _ (by omega)) (zq_row_o _ _ (by omega))), hn1]
  refine (hP.kept hk).app (fun k x hx => ?_)
  have hz : k < 1 := (List.getElem?_eq_some_iff.mp hx).1
  rw [show k = 0 by omega] at hx
  cases hx
  refine ⟨_, hc, (u_born ty hts hin hKn hkC e1 hty).to (fun j hj => ?_)⟩
  have hj2 : j < (zq_fk ci).length := by rw [hlen]; exact hj
  have hkj : (zq_fk ci)[j]? = some ((zq_fk ci).getD j 9) := by
    rw [List.getD_eq_getElem?_getD, List.getElem?_eq_getElem hj2]
    rfl
  rw [hdf j hj]
  generalize (zq_fk ci).getD j 9 = kj at hkj ⊢
  show _ = (zq_fs ci E.2.2.1 (zq_new h n) n).getD j .null
  rw [List.getD_eq_getElem?_getD, zq_fs_get hkj]
  simp [zq_fv, zq_new, zq_row_t]
theorem zq_newI (C : zq_C X own cc nL Ts R0) {n n0 B : Nat} {x : Int32} (harr : Cond.arrayClass .int ∈ Ts) (ht : zq_T X (some n0)) (hn : n0 + cells = n) (d : decode cc pc = .ok (.newarray .int, 2)) (hpc : pc + 2 = pc') (hg : zq_na h n 10 B x = some h') (hB : B ≤ 100000) (hcs : cells + 1 ≤ R0.cells ∧ slots + B ≤ R0.slots) (k : zq_W X (cells + 1) (slots + B) h' pc' lv (.ref n :: st)) : zq_W X cells slots h pc lv (.int x :: st) := by
  subst hpc
  obtain ⟨⟨hn1, hsh, hx0, hxl, hxB⟩, hg2⟩ := zq_if1 hg
  cases hg2
  obtain ⟨p, l, e, R, s, m, args, below, meth, c, Q, E⟩ := X
  obtain ⟨hx, hbb, hml, hown, hts, rfl, hK, hSF, hs0, hlocks, hst⟩ := C
  intro H locs ls hI hL T9 hT9 XX
  have hsz := zq_size hI hs0 (ht n0 rfl) hn hn1 hT9 XX
  have hP := hI.1
  suffices key : W p l e R s m args below meth c H locs cells slots Q (F0 m pc ls ((Value.int x :: st).map (zq_tr E.2.2.1))) from key T9 hT9 XX
  refine va_newaK (atype := .int) hx hbb (hts _ harr) rfl d rfl hx0 hxl (by show _ * 4 ≤ _; omega) hcs.1 (by omega) hsz (fun H1 cA e1 z1 o1 hAr hNm => ?_)
  have hk : ∀ (k : Nat) (x : Nat × va_E), (zq_wl E h)[k]? = some x → H1[x.1]? = H[x.1]? := fun k x hx => o1 x.1 (by rw [← hsz]; exact (hP k x hx).lt)
  refine W.widen (k := cells + 1) (n := slots + B) (Nat.le_refl _) (by omega) ?_
  refine k H1 locs ls ⟨?_, Nat.le_trans hI.2.1 (by omega), fun x h1 h2 => (o1 x (by have := hI.2.1; omega)).trans (hI.2.2.1 x h1 h2), hI.2.2.2⟩ hL
  rw [zq_wl_push (h := h) (h' := zq_new h n) (e := .inl (E.2.1 0, (zq_sh n).2, .inl ((zq_new h n).2.1 n))) (show n + 1 = h.1 + 1 by rw [hn1]) (by rw [hn1]; exact zq_cell_i hsh) (fun j hj => zq_cell_cong (zq_row_o _ _ (by omega)) (zq_row_o _ _ (by omega)) (zq_row_o _ _ (by omega))), hn1]
  refine (hP.kept hk).app (fun k x hx => ?_)
  have hz : k < 1 := (List.getElem?_eq_some_iff.mp hx).1
  rw [show k = 0 by omega] at hx
  cases hx
  have hcA : cA = E.2.1 0 := Option.some.inj (hNm.symm.trans (hK.2 0 _ rfl).2)
  subst hcA
  show H1[E.2.2.1 + n]? = some (vp_cell _ _)
  rw [e1]
  simp only [zq_new, zq_row_t]
  rfl
theorem zq_newL (C : zq_C X own cc nL Ts R0) {n n0 B : Nat} {x : Int32} (harr : Cond.arrayClass .long ∈ Ts) (ht : zq_T X (some n0)) (hn : n0 + cells = n) (d : decode cc pc = .ok (.newarray .long, 2)) (hpc : pc + 2 = pc') (hg : zq_na h n 11 B x = some h') (hB : B ≤ 100000) (hcs : cells + 1 ≤ R0.cells ∧ slots + B ≤ R0.slots) (k : zq_W X (cells + 1) (slots + B) h' pc' lv (.ref n :: st)) : zq_W X cells slots h pc lv (.int x :: st) := by
  subst hpc
  obtain ⟨⟨hn1, hsh, hx0, hxl, hxB⟩, hg2⟩ := zq_if1 hg
  cases hg2
  obtain ⟨p, l, e, R, s, m, args, below, meth, c, Q, E⟩ := X
  obtain ⟨hx, hbb, hml, hown, hts, rfl, hK, hSF, hs0, hlocks, hst⟩ := C
  intro H locs ls hI hL T9 hT9 XX
  have hsz := zq_size hI hs0 (ht n0 rfl) hn hn1 hT9 XX
  have hP := hI.1
  suffices key : W p l e R s m args below meth c H locs cells slots Q (F0 m pc ls ((Value.int x :: st).map (zq_tr E.2.2.1))) from key T9 hT9 XX
  refine va_newaK (atype := .long) hx hbb (hts _ harr) rfl d rfl hx0 hxl (by show _ * 8 ≤ _; omega) hcs.1 (by omega) hsz (fun H1 cA e1 z1 o1 hAr hNm => ?_)
  have hk : ∀ (k : Nat) (x : Nat × va_E), (zq_wl E h)[k]? = some x → H1[x.1]? = H[x.1]? := fun k x hx => o1 x.1 (by rw [← hsz]; exact (hP k x hx).lt)
  refine W.widen (k := cells + 1) (n := slots + B) (Nat.le_refl _) (by omega) ?_
  refine k H1 locs ls ⟨?_, Nat.le_trans hI.2.1 (by omega), fun x h1 h2 => (o1 x (by have := hI.2.1; omega)).trans (hI.2.2.1 x h1 h2), hI.2.2.2⟩ hL
  rw [zq_wl_push (h := h) (h' := zq_new h n) (e := .inl (E.2.1 1, (zq_sh n).2, .inr (.inl ((zq_new h n).2.2.1 n)))) (show n + 1 = h.1 + 1 by rw [hn1]) (by rw [hn1]; exact zq_cell_l hsh) (fun j hj => zq_cell_cong (zq_row_o _ _ (by omega)) (zq_row_o _ _ (by omega)) (zq_row_o _ _ (by omega))), hn1]
  refine (hP.kept hk).app (fun k x hx => ?_)
  have hz : k < 1 := (List.getElem?_eq_some_iff.mp hx).1
  rw [show k = 0 by omega] at hx
  cases hx
  have hcA : cA = E.2.1 1 := Option.some.inj (hNm.symm.trans (hK.2 1 _ rfl).2)
  subst hcA
  show H1[E.2.2.1 + n]? = some (vp_cell _ _)
  rw [e1]
  simp only [zq_new, zq_row_t]
  rfl
theorem zq_newQ (C : zq_C X own cc nL Ts R0) (ck : Nat) (Cn : String) (hck : (ck = 12 ∧ Cn = "FlipPolygons$FlipGraph") ∨ (ck = 13 ∧ Cn = "FlipPolygons$State")) {n n0 B ix : Nat} {x : Int32} (hcl : Cond.classLink own ix Cn ∈ Ts) (ht : zq_T X (some n0)) (hn : n0 + cells = n) (d : decode cc pc = .ok (.anewarray ix, 3)) (hpc : pc + 3 = pc') (hg : zq_na h n ck B x = some h') (hB : B ≤ 100000) (hcs : cells + 1 ≤ R0.cells ∧ slots + B ≤ R0.slots) (k : zq_W X (cells + 1) (slots + B) h' pc' lv (.ref n :: st)) : zq_W X cells slots h pc lv (.int x :: st) := by
  subst hpc
  obtain ⟨⟨hn1, hsh, hx0, hxl, hxB⟩, hg2⟩ := zq_if1 hg
  cases hg2
  obtain ⟨p, l, e, R, s, m, args, below, meth, c, Q, E⟩ := X
  obtain ⟨hx, hbb, hml, hown, hts, rfl, hK, hSF, hs0, hlocks, hst⟩ := C
  intro H locs ls hI hL T9 hT9 XX
  have hsz := zq_size hI hs0 (ht n0 rfl) hn hn1 hT9 XX
  have hP := hI.1
  suffices key : W p l e R s m args below meth c H locs cells slots Q (F0 m pc ls ((Value.int x :: st).map (zq_tr E.2.2.1))) from key T9 hT9 XX
  have hover : va_AO Cn s := by
    rcases hck with ⟨_, rfl⟩ | ⟨_, rfl⟩
    · exact hSF.2.2.2.2.2.1
    · exact hSF.2.2.2.2.2.2
  refine W.anew hx hbb hown (hts _ hcl) (va_AO.use hover) rfl d rfl hx0 (by rw [hxl]; omega) hcs.1 (by rw [hxl]; omega) (fun cA kA comp f1 f2 f3 f4 => ?_)
  generalize hH1 : H.push ({ cls := cA, slots := Array.replicate x.toNatClampNeg .null, vm := .none } : Cell) = H1
  have z1 : H1.size = H.size + 1 := by rw [← hH1, Array.size_push]
  have e1 : H1[H.size]? = some (arrV cA x.toNatClampNeg (fun _ => .null)) := by rw [← hH1, Array.getElem?_push_size, ← arrV_new]
  have o1 : ∀ q : Nat, q < H.size → H1[q]? = H[q]? := fun q hq => by rw [← hH1, Array.getElem?_push, if_neg (Nat.ne_of_lt hq)]
  have hk : ∀ (k : Nat) (x : Nat × va_E), (zq_wl E h)[k]? = some x → H1[x.1]? = H[x.1]? := fun k x hx => o1 x.1 ((hP k x hx).lt)
  refine W.widen (k := cells + 1) (n := slots + B) (Nat.le_refl _) (by rw [hxl]; omega) ?_
  have k2 := k H1 locs ls ⟨?_, Nat.le_trans hI.2.1 (by omega), fun x h1 h2 => (o1 x (by have := hI.2.1; omega)).trans (hI.2.2.1 x h1 h2), hI.2.2.2⟩ hL
  · rw [List.map_cons, show zq_tr E.2.2.1 (.ref n) = .ref H.size from by rw [hsz]; rfl] at k2
    exact k2
  · have hck2 : ck = 12 ∨ ck = 13 := by rcases hck with h | h; exact Or.inl h.1; exact Or.inr h.1
    rw [zq_wl_push (h := h) (h' := zq_new h n) (e := .inl (E.2.1 (ck - 10), (zq_sh n).2, .inr (.inr (.inr (.inr (fun j => ((zq_new h n).2.2.2 n j).map (E.2.2.1 + ·)))))) ) (show n + 1 = h.1 + 1 by rw [hn1]) (by rw [hn1]; exact zq_cell_q hsh hck2) (fun j hj => zq_cell_cong (zq_row_o _ _ (by omega)) (zq_row_o _ _ (by omega)) (zq_row_o _ _ (by omega))), hn1]
    refine (hP.kept hk).app (fun k x hx => ?_)
    have hz : k < 1 := (List.getElem?_eq_some_iff.mp hx).1
    rw [show k = 0 by omega] at hx
    cases hx
    have hcA : cA = E.2.1 (ck - 10) := by
      rcases hck with ⟨rfl, rfl⟩ | ⟨rfl, rfl⟩
      · obtain ⟨_, _, _, _, _, g4⟩ := (hK.2 2 _ rfl).2
        exact Option.some.inj (f1.symm.trans g4)
      · obtain ⟨_, _, _, _, _, g4⟩ := (hK.2 3 _ rfl).2
        exact Option.some.inj (f1.symm.trans g4)
    rw [← hcA, ← hsz]
    show H1[H.size]? = some (vp_cell _ _)
    rw [e1, hxl]
    simp only [zq_new, zq_row_t]
    rfl
/-- a static array, read at once -/
theorem zq_getst (C : zq_C X own cc nL Ts R0) {i ix : Nat} {host : String} (hi : i < 3) (hl : Cond.fieldLinkNest own ix "FlipPolygons" (zq_stn i) "[I" host ∈ zq_nw) (d : decode cc pc = .ok (.getstatic ix, 3)) (hpc : pc + 3 = pc') (k : ∀ a, (∀ (x v : Int32) (pc9 pc2 : Nat) (st9 : List Value), decode cc pc9 = .ok (.iaload, 1) → pc9 + 1 = pc2 → zq_st i x = some v → zq_W X cells slots h pc2 lv (.int v :: st9) → zq_W X cells slots h pc9 lv (.int x :: .retAddr a :: st9)) → zq_W X cells slots h pc' lv (.retAddr a :: st)) : zq_W X cells slots h pc lv st := by
  subst hpc
  obtain ⟨p, l, e, R, s, m, args, below, meth, c, Q, E⟩ := X
  obtain ⟨hx, hbb, hml, hown, hts, rfl, hK, hSF, hs0, hlocks, hst⟩ := C
  obtain ⟨hZ, hTt⟩ := hSF.2.1 i hi
  have k2 := k (E.2.2.2 i) (fun x v pc9 pc2 st9 d9 hp9 hg9 k9 => by
    subst hp9
    obtain ⟨g1, g2⟩ := zq_if1 hg9
    intro H locs ls hI hL
    exact va_ti hx hbb hTt hI.2 g1 (v := .int v) (by rw [show (zq_tab i).getD x.toNatClampNeg 0 = v from Option.some.inj g2]) d9 (k9 H locs ls hI hL))
  intro H locs ls hI hL
  exact va_getsN hx hbb hZ hI.2 hown (va_Nw.use rfl (hSF.1 _ hl)) (fun _ h9 => h9) d (k2 H locs ls hI hL)
end ZQC
/-! shorter forms: the words are zq_all, the callee makes nothing -/
theorem zq_goodV {own Cn : String} {ix : Nat} {y : MethodName} {cw : Cond} (h1 : Cond.methodLink own ix y ∈ zq_all) (h2 : Cond.instanceMethod y ∈ zq_all) (h3 : Cond.selects Cn y y ∈ zq_all) (h4 : Cond.initialized Cn ∈ zq_all) (h5 : cw ∈ zq_all) : GoodIn zq_all (wsV own ix Cn y (cw :: zq_all)) := by
  intro w hw
  have hm : w ∈ zq_all := by
    simp only [wsV, List.cons_append, List.nil_append, List.mem_cons] at hw
    rcases hw with rfl | rfl | rfl | rfl | rfl | hw
    · exact h1
    · exact h2
    · exact h3
    · exact h4
    · exact h5
    · exact hw
  exact ⟨hm, good_of_word (List.mem_filter.mp hm).2⟩
theorem zq_goodS {own : String} {ix : Nat} {y : MethodName} {cw : Cond} (h1 : Cond.methodLink own ix y ∈ zq_all) (h2 : Cond.static y ∈ zq_all) (h4 : Cond.initialized y.cls ∈ zq_all) (h5 : cw ∈ zq_all) : GoodIn zq_all (va_wsS own ix y (cw :: zq_all)) := by
  intro w hw
  have hm : w ∈ zq_all := by
    simp only [va_wsS, List.cons_append, List.nil_append, List.mem_cons] at hw
    rcases hw with rfl | rfl | rfl | rfl | hw
    · exact h1
    · exact h2
    · exact h4
    · exact h5
    · exact hw
  exact ⟨hm, good_of_word (List.mem_filter.mp hm).2⟩
theorem zq_goodC {cw : Cond} (h5 : cw ∈ zq_all) : GoodIn zq_all (cw :: zq_all) := by
  intro w hw
  have hm : w ∈ zq_all := by
    rcases List.mem_cons.mp hw with rfl | hw
    · exact h5
    · exact hw
  exact ⟨hm, good_of_word (List.mem_filter.mp hm).2⟩
theorem zq_met2 {tz : Option Nat} {y : MethodName} {rm : Room} {cc : ByteArray} {nL : Nat} {ret : Option FieldType} {own : String} {as : List Value} {h h' : zq_H} {rv : Option Value} {lv : List (Nat × Value)} (hy : plainName y.cls = true) (hcls : y.cls = own) (hlen : (lg_sl as).length ≤ nL) (hlv : lv_args 0 as = lv) (hrv : zq_rok ret rv)
    (body : ∀ X : zq_X, zq_C X own cc nL zq_all rm → zq_T X tz → X.2.2.2.2.2.2.2.2.1.name = y.name → zq_End X cc rm.cells rm.slots rv h' → zq_W X 0 0 h 0 lv []) : zq_M tz y (Cond.code y cc nL ret :: zq_all) rm as h rv h' := by
  subst hlv
  refine zq_met hy rfl hcls hlen hrv (fun X C => body X ?_)
  obtain ⟨p, l, e, R, s, m, args, below, meth, c, Q, E⟩ := X
  obtain ⟨hx, hbb, hml, hown, hts, hR, hK, hSF, hs0, hlocks, hst⟩ := C
  exact ⟨hx, hbb, hml, hown, fun w hw => hts w (List.mem_cons_of_mem _ hw), hR, hK, hSF, hs0, hlocks, hst⟩
/-- loops: a body is run until it leaves -/
def zq_lp {σ ρ : Type} (b : σ → Option (σ ⊕ ρ)) : Nat → σ → Option ρ
  | 0, _ => none
  | n + 1, s => match b s with
    | none => none
    | some (.inl s2) => zq_lp b n s2
    | some (.inr r) => some r
theorem zq_lpW {σ ρ : Type} {b : σ → Option (σ ⊕ ρ)} {n : Nat} {s0 : σ} {r0 : ρ} (P : σ → Prop) (T : ρ → Prop) (hr : zq_lp b n s0 = some r0) (hs : ∀ s r, b s = some r → (∀ s2, r = .inl s2 → P s2) → (∀ x, r = .inr x → T x) → P s) (hT : T r0) : P s0 := by
  induction n generalizing s0 with
  | zero => cases hr
  | succ n ih =>
    unfold zq_lp at hr
    cases hb : b s0 with
    | none => rw [hb] at hr; cases hr
    | some r =>
      rw [hb] at hr
      refine hs s0 r hb (fun s2 e => ?_) (fun x e => ?_)
      · subst e; exact ih hr
      · subst e
        cases hr
        exact hT
def zq_N : Nat := 4294967296
end
section
def zq_b (b : Bool) : Int32 := if b = true then 1 else 0
theorem zq_b0 {b : Bool} : zq_b b = 0 ↔ b = false := by cases b <;> decide
theorem zq_bd2 {α β : Type} {x : Option α} {f : α → Option β} {r : β} (h : x.bind f = some r) : ∃ v, x = some v ∧ f v = some r := zq_bd h
abbrev zq_calV (y : MethodName) (Cn : String) (bytes : ByteArray) (maxL : Nat) (ret : Option FieldType) (n : Nat) : Prop := (y.cls = Cn ∧ zq_Y y n) ∧ Cond.code y bytes maxL ret ∈ zq_all ∧ Cond.instanceMethod y ∈ zq_all ∧ Cond.selects Cn y y ∈ zq_all ∧ Cond.initialized Cn ∈ zq_all
abbrev zq_calS (y : MethodName) (bytes : ByteArray) (maxL : Nat) (ret : Option FieldType) (n : Nat) : Prop := zq_Y y n ∧ Cond.code y bytes maxL ret ∈ zq_all ∧ Cond.static y ∈ zq_all ∧ Cond.initialized y.cls ∈ zq_all
section ZQS
variable {X : zq_X} {own : String} {cc : ByteArray} {nL : Nat} {R0 : Room} {cells slots : Nat} {h h' : zq_H} {pc pc' : Nat} {lv lv' : List (Nat × Value)} {st : List Value}
theorem zq_cV (C : zq_C X own cc nL zq_all R0) {y : MethodName} {rm : Room} {b ci N index maxL n : Nat} {as st0 st2 : List Value} {rv : Option Value} {Cn : String} {T : u_T} {ty : Nat → FieldType} {bytes : ByteArray} {ret : Option FieldType} (hM : zq_M none y (Cond.code y bytes maxL ret :: zq_all) rm (.ref b :: as) h rv h') (Y : zq_calV y Cn bytes maxL ret n) (hl : Cond.methodLink own index y ∈ zq_all) (K : zq_K ci Cn T N ty) (hb : b < h.1 ∧ (zq_sh b).1 = ci) (d : decode cc pc = .ok (.invokevirtual index, 3)) (hpc : pc + 3 = pc') (hst0 : st0 = as.reverse ++ .ref b :: st) (hn : n = as.length) (hR : zq_Rm rm R0 maxL) (hcat : (st.map fun v => v.category).sum ≤ 8) (h0 : rm.cells = 0 ∧ rm.slots = 0) (hcs : cells ≤ R0.cells ∧ slots ≤ R0.slots) (hst2 : rv.toList ++ st = st2)
    (k : zq_W X cells slots h' pc' lv st2) : zq_W X cells slots h pc lv st0 := by
  subst hst2; subst hn
  exact zq_callV C hM (zq_goodV hl Y.2.2.1 Y.2.2.2.1 Y.2.2.2.2 Y.2.1) rfl Y.1 K hb d hpc hst0 hR hcat (by rw [h0.1, h0.2]; exact hcs) (by rw [h0.1, h0.2]; exact k)
theorem zq_cS (C : zq_C X own cc nL zq_all R0) {y : MethodName} {rm : Room} {index maxL n : Nat} {as st0 st2 : List Value} {rv : Option Value} {bytes : ByteArray} {ret : Option FieldType} (hM : zq_M none y (Cond.code y bytes maxL ret :: zq_all) rm as h rv h') (Y : zq_calS y bytes maxL ret n) (hl : Cond.methodLink own index y ∈ zq_all) (d : decode cc pc = .ok (.invokestatic index, 3)) (hpc : pc + 3 = pc') (hst0 : st0 = as.reverse ++ st) (hn : n = as.length) (hR : zq_Rm rm R0 maxL) (hcat : (st.map fun v => v.category).sum ≤ 8) (h0 : rm.cells = 0 ∧ rm.slots = 0) (hcs : cells ≤ R0.cells ∧ slots ≤ R0.slots) (hst2 : rv.toList ++ st = st2)
    (k : zq_W X cells slots h' pc' lv st2) : zq_W X cells slots h pc lv st0 := by
  subst hst2; subst hn
  exact zq_callS C hM (zq_goodS hl Y.2.2.1 Y.2.2.2 Y.2.1) rfl Y.1 d hpc hst0 hR hcat (by rw [h0.1, h0.2]; exact hcs) (by rw [h0.1, h0.2]; exact k)
theorem zq_cSN (C : zq_C X own cc nL zq_all R0) {y : MethodName} {rm : Room} {index maxL n : Nat} {as st0 st2 : List Value} {rv : Option Value} {bytes : ByteArray} {ret : Option FieldType} {host : String} (hM : zq_M none y (Cond.code y bytes maxL ret :: zq_all) rm as h rv h') (Y : zq_calS y bytes maxL ret n) (hl : Cond.methodLinkNest own index y host ∈ zq_nw) (d : decode cc pc = .ok (.invokestatic index, 3)) (hpc : pc + 3 = pc') (hst0 : st0 = as.reverse ++ st) (hn : n = as.length) (hR : zq_Rm rm R0 maxL) (hcat : (st.map fun v => v.category).sum ≤ 8) (h0 : rm.cells = 0 ∧ rm.slots = 0) (hcs : cells ≤ R0.cells ∧ slots ≤ R0.slots) (hst2 : rv.toList ++ st = st2)
    (k : zq_W X cells slots h' pc' lv st2) : zq_W X cells slots h pc lv st0 := by
  subst hst2; subst hn
  exact zq_callSN C hM (zq_goodC Y.2.1) rfl hl Y.2.2.2 Y.2.2.1 Y.1 d hpc hst0 hR hcat (by rw [h0.1, h0.2]; exact hcs) (by rw [h0.1, h0.2]; exact k)
end ZQS
def zq_nz {α : Type} (y : Int32) (f : Unit → Option α) : Option α := if ¬ y = 0 then f () else none
theorem zq_nz_e {α : Type} {y : Int32} {f : Unit → Option α} {r : α} (h : zq_nz y f = some r) : ¬ y = 0 ∧ f () = some r := zq_if1 h
def zq_nn {α : Type} (x : UInt64) (f : Unit → Option α) : Option α := if x &&& 0x7fffffffffffffff ≤ 0x7ff0000000000000 then f () else none
theorem zq_nn_e {α : Type} {x : UInt64} {f : Unit → Option α} {r : α} (e : zq_nn x f = some r) : vf_n64 x ∧ f () = some r := by
  unfold zq_nn at e
  obtain ⟨h1, h2⟩ := zq_if1 e
  exact ⟨h1, h2⟩
def zq_z {α : Type} (x : Int32) (f : Bool → Option α) : Option α := if x = 1 then f true else if x = 0 then f false else none
theorem zq_z_e {α : Type} {x : Int32} {f : Bool → Option α} {r : α} (h : zq_z x f = some r) : ∃ b, x = zq_b b ∧ f b = some r := by
  unfold zq_z at h
  by_cases h1 : x = 1
  · rw [if_pos h1] at h; exact ⟨true, h1, h⟩
  · rw [if_neg h1] at h
    by_cases h0 : x = 0
    · rw [if_pos h0] at h; exact ⟨false, h0, h⟩
    · rw [if_neg h0] at h; cases h
def zq_ck {α : Type} (h : zq_H) (b c : Nat) (f : Unit → Option α) : Option α := if b < h.1 ∧ (zq_sh b).1 = c then f () else none
theorem zq_ck_e {α : Type} {h : zq_H} {b c : Nat} {f : Unit → Option α} {r : α} (e : zq_ck h b c f = some r) : (b < h.1 ∧ (zq_sh b).1 = c) ∧ f () = some r := zq_if1 e
def zq_at {α : Type} (h : zq_H) (n : Nat) (f : Unit → Option α) : Option α := if h.1 = n then f () else none
theorem zq_at_e {α : Type} {h : zq_H} {n : Nat} {f : Unit → Option α} {r : α} (e : zq_at h n f = some r) : h.1 = n ∧ f () = some r := zq_if1 e
theorem zq_gi_pi {h h' : zq_H} {t c j : Nat} {v : Int32} (e : zq_pi h t c j v = some h') : zq_gi h' t c j = some v := by
  obtain ⟨h1, h2⟩ := zq_if1 e
  cases h2
  unfold zq_gi
  rw [if_pos h1]
  simp [zq_up]
theorem zq_bnar (b : Bool) : narrow .boolean (.int (zq_b b)) = .int (zq_b b) := by cases b <;> rfl
theorem fa_eq9 (a b : Int32) : a = b ↔ a.toInt = b.toInt := ⟨fun h => by rw [h], fun h => Int32.toInt_inj.mp h⟩
theorem zq_out {x : Int32} {lo hi : Int} {n : Nat} (hl : lo = 0) (hh : hi = (n : Int) - 1) (hn : n < 100) (h : ∀ k : Nat, k < n → ¬ x = nI k) : x.toInt < lo ∨ hi < x.toInt := by
  by_cases h1 : x.toInt < lo
  · exact Or.inl h1
  · refine Or.inr ?_
    by_cases h2 : hi < x.toInt
    · exact h2
    · exfalso
      have h3 : x.toInt.toNat < n := by omega
      refine h _ h3 ?_
      have h4 : x.toInt = (x.toInt.toNat : Int) := by omega
      refine (fa_eq9 x _).mpr ?_
      rw [nI_toInt (by omega)]
      exact h4
theorem zq_in0w : ∀ w ∈ u_ws RX0 TX0 9, w ∈ zq_all := List.forall_mem_cons.mpr ⟨wd_923, List.forall_mem_cons.mpr ⟨wd_924, List.forall_mem_cons.mpr ⟨wd_925, List.forall_mem_cons.mpr ⟨wd_926, List.forall_mem_cons.mpr ⟨wd_927, List.forall_mem_cons.mpr ⟨wd_928, List.forall_mem_cons.mpr ⟨wd_929, List.forall_mem_cons.mpr ⟨wd_930, List.forall_mem_cons.mpr ⟨wd_931, fun _ h => absurd h List.not_mem_nil⟩⟩⟩⟩⟩⟩⟩⟩⟩
theorem zq_in1w : ∀ w ∈ u_ws RX1 TX1 9, w ∈ zq_all := List.forall_mem_cons.mpr ⟨wd_914, List.forall_mem_cons.mpr ⟨wd_915, List.forall_mem_cons.mpr ⟨wd_916, List.forall_mem_cons.mpr ⟨wd_917, List.forall_mem_cons.mpr ⟨wd_918, List.forall_mem_cons.mpr ⟨wd_919, List.forall_mem_cons.mpr ⟨wd_920, List.forall_mem_cons.mpr ⟨wd_921, List.forall_mem_cons.mpr ⟨wd_922, fun _ h => absurd h List.not_mem_nil⟩⟩⟩⟩⟩⟩⟩⟩⟩
theorem zq_in2w : ∀ w ∈ u_ws RX2 TX2 6, w ∈ zq_all := List.forall_mem_cons.mpr ⟨wd_939, List.forall_mem_cons.mpr ⟨wd_940, List.forall_mem_cons.mpr ⟨wd_941, List.forall_mem_cons.mpr ⟨wd_942, List.forall_mem_cons.mpr ⟨wd_943, List.forall_mem_cons.mpr ⟨wd_944, fun _ h => absurd h List.not_mem_nil⟩⟩⟩⟩⟩⟩
theorem zq_in3w : ∀ w ∈ u_ws RX3 TX3 5, w ∈ zq_all := List.forall_mem_cons.mpr ⟨wd_932, List.forall_mem_cons.mpr ⟨wd_933, List.forall_mem_cons.mpr ⟨wd_934, List.forall_mem_cons.mpr ⟨wd_935, List.forall_mem_cons.mpr ⟨wd_936, fun _ h => absurd h List.not_mem_nil⟩⟩⟩⟩⟩
theorem zq_in4w : ∀ w ∈ u_ws RX4 TX4 2, w ∈ zq_all := List.forall_mem_cons.mpr ⟨wd_937, List.forall_mem_cons.mpr ⟨wd_938, fun _ h => absurd h List.not_mem_nil⟩⟩
theorem zq_in5w : ∀ w ∈ u_ws RX5 TX5 11, w ∈ zq_all := List.forall_mem_cons.mpr ⟨wd_945, List.forall_mem_cons.mpr ⟨wd_946, List.forall_mem_cons.mpr ⟨wd_947, List.forall_mem_cons.mpr ⟨wd_948, List.forall_mem_cons.mpr ⟨wd_949, List.forall_mem_cons.mpr ⟨wd_950, List.forall_mem_cons.mpr ⟨wd_951, List.forall_mem_cons.mpr ⟨wd_952, List.forall_mem_cons.mpr ⟨wd_953, List.forall_mem_cons.mpr ⟨wd_954, List.forall_mem_cons.mpr ⟨wd_955, fun _ h => absurd h List.not_mem_nil⟩⟩⟩⟩⟩⟩⟩⟩⟩⟩⟩
theorem zq_in6w : ∀ w ∈ u_ws RX6 TX6 22, w ∈ zq_all := List.forall_mem_cons.mpr ⟨wd_963, List.forall_mem_cons.mpr ⟨wd_964, List.forall_mem_cons.mpr ⟨wd_965, List.forall_mem_cons.mpr ⟨wd_966, List.forall_mem_cons.mpr ⟨wd_967, List.forall_mem_cons.mpr ⟨wd_968, List.forall_mem_cons.mpr ⟨wd_969, List.forall_mem_cons.mpr ⟨wd_970, List.forall_mem_cons.mpr ⟨wd_971, List.forall_mem_cons.mpr ⟨wd_972, List.forall_mem_cons.mpr ⟨wd_973, List.forall_mem_cons.mpr ⟨wd_974, List.forall_mem_cons.mpr ⟨wd_975, List.forall_mem_cons.mpr ⟨wd_976, List.forall_mem_cons.mpr ⟨wd_977, List.forall_mem_cons.mpr ⟨wd_978, List.forall_mem_cons.mpr ⟨wd_979, List.forall_mem_cons.mpr ⟨wd_980, List.forall_mem_cons.mpr ⟨wd_981, List.forall_mem_cons.mpr ⟨wd_982, List.forall_mem_cons.mpr ⟨wd_983, List.forall_mem_cons.mpr ⟨wd_984, fun _ h => absurd h List.not_mem_nil⟩⟩⟩⟩⟩⟩⟩⟩⟩⟩⟩⟩⟩⟩⟩⟩⟩⟩⟩⟩⟩⟩
end
section
def f_J6_bitCount_0f7a4 (h : zq_H) (x0 : Int32) : Option Int32 := (zq_let (x0 - ((x0.toUInt32 >>> ((1 : Int32).toUInt32 &&& Int32.toUInt32 31)).toInt32 &&& 1431655765)) fun v_1 => (zq_let ((v_1 &&& 858993459) + ((v_1.toUInt32 >>> ((2 : Int32).toUInt32 &&& Int32.toUInt32 31)).toInt32 &&& 858993459)) fun v_3 => (zq_let ((v_3 + (v_3.toUInt32 >>> ((4 : Int32).toUInt32 &&& Int32.toUInt32 31)).toInt32) &&& 252645135) fun v_5 => (zq_let (v_5 + (v_5.toUInt32 >>> ((8 : Int32).toUInt32 &&& Int32.toUInt32 31)).toInt32) fun v_7 => (zq_let (v_7 + (v_7.toUInt32 >>> ((16 : Int32).toUInt32 &&& Int32.toUInt32 31)).toInt32) fun v_9 => some (v_9 &&& 63))))))
abbrev rm_J6_bitCount_0f7a4 : Room := { frames := 0, cells := 0, slots := 0, locals := 0 }
theorem dJ6_bitCount_0f7a4_0 : decode cJ6_bitCount_0f7a4 0 = .ok (.iload_n 0, 1) := by decide +kernel
theorem dJ6_bitCount_0f7a4_1 : decode cJ6_bitCount_0f7a4 1 = .ok (.iload_n 0, 1) := by decide +kernel
theorem dJ6_bitCount_0f7a4_2 : decode cJ6_bitCount_0f7a4 2 = .ok (.iconst 1, 1) := by decide +kernel
theorem dJ6_bitCount_0f7a4_3 : decode cJ6_bitCount_0f7a4 3 = .ok (.iushr, 1) := by decide +kernel
theorem dJ6_bitCount_0f7a4_4 : decode cJ6_bitCount_0f7a4 4 = .ok (.ldc_w 265, 3) := by decide +kernel
theorem dJ6_bitCount_0f7a4_7 : decode cJ6_bitCount_0f7a4 7 = .ok (.iand, 1) := by decide +kernel
theorem dJ6_bitCount_0f7a4_8 : decode cJ6_bitCount_0f7a4 8 = .ok (.isub, 1) := by decide +kernel
theorem dJ6_bitCount_0f7a4_9 : decode cJ6_bitCount_0f7a4 9 = .ok (.istore_n 0, 1) := by decide +kernel
theorem dJ6_bitCount_0f7a4_10 : decode cJ6_bitCount_0f7a4 10 = .ok (.iload_n 0, 1) := by decide +kernel
theorem dJ6_bitCount_0f7a4_11 : decode cJ6_bitCount_0f7a4 11 = .ok (.ldc_w 266, 3) := by decide +kernel
theorem dJ6_bitCount_0f7a4_14 : decode cJ6_bitCount_0f7a4 14 = .ok (.iand, 1) := by decide +kernel
theorem dJ6_bitCount_0f7a4_15 : decode cJ6_bitCount_0f7a4 15 = .ok (.iload_n 0, 1) := by decide +kernel
theorem dJ6_bitCount_0f7a4_16 : decode cJ6_bitCount_0f7a4 16 = .ok (.iconst 2, 1) := by decide +kernel
theorem dJ6_bitCount_0f7a4_17 : decode cJ6_bitCount_0f7a4 17 = .ok (.iushr, 1) := by decide +kernel
theorem dJ6_bitCount_0f7a4_18 : decode cJ6_bitCount_0f7a4 18 = .ok (.ldc_w 266, 3) := by decide +kernel
theorem dJ6_bitCount_0f7a4_21 : decode cJ6_bitCount_0f7a4 21 = .ok (.iand, 1) := by decide +kernel
theorem dJ6_bitCount_0f7a4_22 : decode cJ6_bitCount_0f7a4 22 = .ok (.iadd, 1) := by decide +kernel
theorem dJ6_bitCount_0f7a4_23 : decode cJ6_bitCount_0f7a4 23 = .ok (.istore_n 0, 1) := by decide +kernel
theorem dJ6_bitCount_0f7a4_24 : decode cJ6_bitCount_0f7a4 24 = .ok (.iload_n 0, 1) := by decide +kernel
theorem dJ6_bitCount_0f7a4_25 : decode cJ6_bitCount_0f7a4 25 = .ok (.iload_n 0, 1) := by decide +kernel
theorem dJ6_bitCount_0f7a4_26 : decode cJ6_bitCount_0f7a4 26 = .ok (.iconst 4, 1) := by decide +kernel
theorem dJ6_bitCount_0f7a4_27 : decode cJ6_bitCount_0f7a4 27 = .ok (.iushr, 1) := by decide +kernel
theorem dJ6_bitCount_0f7a4_28 : decode cJ6_bitCount_0f7a4 28 = .ok (.iadd, 1) := by decide +kernel
theorem dJ6_bitCount_0f7a4_29 : decode cJ6_bitCount_0f7a4 29 = .ok (.ldc_w 267, 3) := by decide +kernel
theorem dJ6_bitCount_0f7a4_32 : decode cJ6_bitCount_0f7a4 32 = .ok (.iand, 1) := by decide +kernel
theorem dJ6_bitCount_0f7a4_33 : decode cJ6_bitCount_0f7a4 33 = .ok (.istore_n 0, 1) := by decide +kernel
theorem dJ6_bitCount_0f7a4_34 : decode cJ6_bitCount_0f7a4 34 = .ok (.iload_n 0, 1) := by decide +kernel
theorem dJ6_bitCount_0f7a4_35 : decode cJ6_bitCount_0f7a4 35 = .ok (.iload_n 0, 1) := by decide +kernel
theorem dJ6_bitCount_0f7a4_36 : decode cJ6_bitCount_0f7a4 36 = .ok (.bipush 8, 2) := by decide +kernel
theorem dJ6_bitCount_0f7a4_38 : decode cJ6_bitCount_0f7a4 38 = .ok (.iushr, 1) := by decide +kernel
theorem dJ6_bitCount_0f7a4_39 : decode cJ6_bitCount_0f7a4 39 = .ok (.iadd, 1) := by decide +kernel
theorem dJ6_bitCount_0f7a4_40 : decode cJ6_bitCount_0f7a4 40 = .ok (.istore_n 0, 1) := by decide +kernel
theorem dJ6_bitCount_0f7a4_41 : decode cJ6_bitCount_0f7a4 41 = .ok (.iload_n 0, 1) := by decide +kernel
theorem dJ6_bitCount_0f7a4_42 : decode cJ6_bitCount_0f7a4 42 = .ok (.iload_n 0, 1) := by decide +kernel
theorem dJ6_bitCount_0f7a4_43 : decode cJ6_bitCount_0f7a4 43 = .ok (.bipush 16, 2) := by decide +kernel
theorem dJ6_bitCount_0f7a4_45 : decode cJ6_bitCount_0f7a4 45 = .ok (.iushr, 1) := by decide +kernel
theorem dJ6_bitCount_0f7a4_46 : decode cJ6_bitCount_0f7a4 46 = .ok (.iadd, 1) := by decide +kernel
theorem dJ6_bitCount_0f7a4_47 : decode cJ6_bitCount_0f7a4 47 = .ok (.istore_n 0, 1) := by decide +kernel
theorem dJ6_bitCount_0f7a4_48 : decode cJ6_bitCount_0f7a4 48 = .ok (.iload_n 0, 1) := by decide +kernel
theorem dJ6_bitCount_0f7a4_49 : decode cJ6_bitCount_0f7a4 49 = .ok (.bipush 63, 2) := by decide +kernel
theorem dJ6_bitCount_0f7a4_51 : decode cJ6_bitCount_0f7a4 51 = .ok (.iand, 1) := by decide +kernel
theorem dJ6_bitCount_0f7a4_52 : decode cJ6_bitCount_0f7a4 52 = .ok (.ireturn, 1) := by decide +kernel
set_option maxRecDepth 100000 in
set_option maxHeartbeats 4000000 in
theorem v_J6_bitCount_0f7a4 {X : zq_X} (C : zq_C X RJ6 cJ6_bitCount_0f7a4 1 zq_all rm_J6_bitCount_0f7a4) (T : zq_T X none) (hn : X.2.2.2.2.2.2.2.2.1.name = yJ6_bitCount_0f7a4.name) {h : zq_H} {x0 : Int32} {out : Int32} (hF : f_J6_bitCount_0f7a4 h x0 = some out) (hE : zq_End X cJ6_bitCount_0f7a4 0 0 (some (.int out)) h) : zq_W X 0 0 h 0 [(0, .int x0)] [] := by
  unfold f_J6_bitCount_0f7a4 at hF
  refine zq_iload_n (pc' := 1) C dJ6_bitCount_0f7a4_0 rfl rfl rfl ?_
  refine zq_iload_n (pc' := 2) C dJ6_bitCount_0f7a4_1 rfl rfl rfl ?_
  refine zq_iconst (pc' := 3) C 1 dJ6_bitCount_0f7a4_2 rfl (by decide) ?_
  refine zq_iushr (pc' := 4) C dJ6_bitCount_0f7a4_3 rfl ?_
  refine zq_ldcw (pc' := 7) C 1431655765 dJ6_bitCount_0f7a4_4 rfl wd_33 ?_
  refine zq_iand (pc' := 8) C dJ6_bitCount_0f7a4_7 rfl ?_
  refine zq_isub (pc' := 9) C dJ6_bitCount_0f7a4_8 rfl ?_
  obtain ⟨v_1, e_2, hF⟩ := zq_let_e hF
  refine zq_istore_n (lv' := [(0, .int v_1)]) (pc' := 10) C dJ6_bitCount_0f7a4_9 rfl rfl (by decide) e_2 rfl ?_
  refine zq_iload_n (pc' := 11) C dJ6_bitCount_0f7a4_10 rfl rfl rfl ?_
  refine zq_ldcw (pc' := 14) C 858993459 dJ6_bitCount_0f7a4_11 rfl wd_34 ?_
  refine zq_iand (pc' := 15) C dJ6_bitCount_0f7a4_14 rfl ?_
  refine zq_iload_n (pc' := 16) C dJ6_bitCount_0f7a4_15 rfl rfl rfl ?_
  refine zq_iconst (pc' := 17) C 2 dJ6_bitCount_0f7a4_16 rfl (by decide) ?_
  refine zq_iushr (pc' := 18) C dJ6_bitCount_0f7a4_17 rfl ?_
  refine zq_ldcw (pc' := 21) C 858993459 dJ6_bitCount_0f7a4_18 rfl wd_34 ?_
  refine zq_iand (pc' := 22) C dJ6_bitCount_0f7a4_21 rfl ?_
  refine zq_iadd (pc' := 23) C dJ6_bitCount_0f7a4_22 rfl ?_
  obtain ⟨v_3, e_4, hF⟩ := zq_let_e hF
  refine zq_istore_n (lv' := [(0, .int v_3)]) (pc' := 24) C dJ6_bitCount_0f7a4_23 rfl rfl (by decide) e_4 rfl ?_
  refine zq_iload_n (pc' := 25) C dJ6_bitCount_0f7a4_24 rfl rfl rfl ?_
  refine zq_iload_n (pc' := 26) C dJ6_bitCount_0f7a4_25 rfl rfl rfl ?_
  refine zq_iconst (pc' := 27) C 4 dJ6_bitCount_0f7a4_26 rfl (by decide) ?_
  refine zq_iushr (pc' := 28) C dJ6_bitCount_0f7a4_27 rfl ?_
  refine zq_iadd (pc' := 29) C dJ6_bitCount_0f7a4_28 rfl ?_
  refine zq_ldcw (pc' := 32) C 252645135 dJ6_bitCount_0f7a4_29 rfl wd_35 ?_
  refine zq_iand (pc' := 33) C dJ6_bitCount_0f7a4_32 rfl ?_
  obtain ⟨v_5, e_6, hF⟩ := zq_let_e hF
  refine zq_istore_n (lv' := [(0, .int v_5)]) (pc' := 34) C dJ6_bitCount_0f7a4_33 rfl rfl (by decide) e_6 rfl ?_
  refine zq_iload_n (pc' := 35) C dJ6_bitCount_0f7a4_34 rfl rfl rfl ?_
  refine zq_iload_n (pc' := 36) C dJ6_bitCount_0f7a4_35 rfl rfl rfl ?_
  refine zq_bipush (pc' := 38) C 8 dJ6_bitCount_0f7a4_36 rfl (by decide) ?_
  refine zq_iushr (pc' := 39) C dJ6_bitCount_0f7a4_38 rfl ?_
  refine zq_iadd (pc' := 40) C dJ6_bitCount_0f7a4_39 rfl ?_
  obtain ⟨v_7, e_8, hF⟩ := zq_let_e hF
  refine zq_istore_n (lv' := [(0, .int v_7)]) (pc' := 41) C dJ6_bitCount_0f7a4_40 rfl rfl (by decide) e_8 rfl ?_
  refine zq_iload_n (pc' := 42) C dJ6_bitCount_0f7a4_41 rfl rfl rfl ?_
  refine zq_iload_n (pc' := 43) C dJ6_bitCount_0f7a4_42 rfl rfl rfl ?_
  refine zq_bipush (pc' := 45) C 16 dJ6_bitCount_0f7a4_43 rfl (by decide) ?_
  refine zq_iushr (pc' := 46) C dJ6_bitCount_0f7a4_45 rfl ?_
  refine zq_iadd (pc' := 47) C dJ6_bitCount_0f7a4_46 rfl ?_
  obtain ⟨v_9, e_10, hF⟩ := zq_let_e hF
  refine zq_istore_n (lv' := [(0, .int v_9)]) (pc' := 48) C dJ6_bitCount_0f7a4_47 rfl rfl (by decide) e_10 rfl ?_
  refine zq_iload_n (pc' := 49) C dJ6_bitCount_0f7a4_48 rfl rfl rfl ?_
  refine zq_bipush (pc' := 51) C 63 dJ6_bitCount_0f7a4_49 rfl (by decide) ?_
  refine zq_iand (pc' := 52) C dJ6_bitCount_0f7a4_51 rfl ?_
  cases hF
  exact hE _ _ _ _ (Nat.le_of_ble_eq_true rfl) (Nat.le_of_ble_eq_true rfl) dJ6_bitCount_0f7a4_52
theorem c_J6_bitCount_0f7a4 {h : zq_H} {x0 : Int32} {out : Int32} (hF : f_J6_bitCount_0f7a4 h x0 = some out) : zq_M none yJ6_bitCount_0f7a4 (Cond.code yJ6_bitCount_0f7a4 cJ6_bitCount_0f7a4 1 (some .int) :: zq_all) rm_J6_bitCount_0f7a4 [.int x0] h (some (.int out)) h := zq_met2 (own := RJ6) (by decide +kernel) rfl (Nat.le_of_ble_eq_true rfl) rfl ⟨.int, rfl, rfl⟩ (fun X C T hn hE => v_J6_bitCount_0f7a4 C T hn hF hE)
theorem ys_J6_bitCount_0f7a4 : zq_calS yJ6_bitCount_0f7a4 cJ6_bitCount_0f7a4 1 (some .int) 1 := ⟨by decide +kernel, wd_32, wd_50, wd_51⟩
def f_X1_isCorner (h : zq_H) (t : Nat) (x1 : Int32) : Option Bool := (if x1 < 0 then some false else (Option.bind (zq_gi h t 1 0) fun v_2 => (if v_2 ≤ x1 then some false else some true)))
abbrev rm_X1_isCorner : Room := { frames := 0, cells := 0, slots := 0, locals := 0 }
theorem dX1_isCorner_0 : decode cX1_isCorner 0 = .ok (.iload_n 1, 1) := by decide +kernel
theorem dX1_isCorner_1 : decode cX1_isCorner 1 = .ok (.ifCond .lt 15, 3) := by decide +kernel
theorem dX1_isCorner_4 : decode cX1_isCorner 4 = .ok (.iload_n 1, 1) := by decide +kernel
theorem dX1_isCorner_5 : decode cX1_isCorner 5 = .ok (.aload_n 0, 1) := by decide +kernel
theorem dX1_isCorner_6 : decode cX1_isCorner 6 = .ok (.getfield 9, 3) := by decide +kernel
theorem dX1_isCorner_9 : decode cX1_isCorner 9 = .ok (.if_icmp .ge 7, 3) := by decide +kernel
theorem dX1_isCorner_12 : decode cX1_isCorner 12 = .ok (.iconst 1, 1) := by decide +kernel
theorem dX1_isCorner_13 : decode cX1_isCorner 13 = .ok (.goto 4, 3) := by decide +kernel
theorem dX1_isCorner_16 : decode cX1_isCorner 16 = .ok (.iconst 0, 1) := by decide +kernel
theorem dX1_isCorner_17 : decode cX1_isCorner 17 = .ok (.ireturn, 1) := by decide +kernel
set_option maxRecDepth 100000 in
set_option maxHeartbeats 4000000 in
theorem v_X1_isCorner {X : zq_X} (C : zq_C X RX1 cX1_isCorner 2 zq_all rm_X1_isCorner) (T : zq_T X none) (hn : X.2.2.2.2.2.2.2.2.1.name = yX1_isCorner.name) {h : zq_H} {t : Nat} {x1 : Int32} {out : Bool} (hF : f_X1_isCorner h t x1 = some out) (hE : zq_End X cX1_isCorner 0 0 (some (.int (zq_b out))) h) : zq_W X 0 0 h 0 [(0, .ref t), (1, .int x1)] [] := by
  unfold f_X1_isCorner at hF
  refine zq_iload_n (pc' := 1) C dX1_isCorner_0 rfl rfl rfl ?_
  refine zq_if_lt (pc' := 4) C 16 dX1_isCorner_1 (by decide) rfl (fun c_1 => ?_) (fun c_1 => ?_)
  · have hF := (zq_ifp hF c_1)
    skip
    refine zq_iconst (pc' := 17) C 0 dX1_isCorner_16 rfl (by decide) ?_
    cases hF
    exact hE _ _ _ _ (Nat.le_of_ble_eq_true rfl) (Nat.le_of_ble_eq_true rfl) dX1_isCorner_17
  · have hF := (zq_ifn hF c_1)
    refine zq_iload_n (pc' := 5) C dX1_isCorner_4 rfl rfl rfl ?_
    refine zq_aload_n (pc' := 6) C dX1_isCorner_5 rfl rfl rfl ?_
    obtain ⟨v_2, e_3, hF⟩ := zq_bd hF
    refine zq_getI (j := 0) (pc' := 9) C zq_K1 zq_in1w (Or.inl wd_18) (by decide) rfl dX1_isCorner_6 rfl e_3 ?_
    refine zq_icmp_ge (pc' := 12) C 16 dX1_isCorner_9 (by decide) rfl (fun c_4 => ?_) (fun c_4 => ?_)
    · have hF := (zq_ifp hF c_4)
      skip
      refine zq_iconst (pc' := 17) C 0 dX1_isCorner_16 rfl (by decide) ?_
      cases hF
      exact hE _ _ _ _ (Nat.le_of_ble_eq_true rfl) (Nat.le_of_ble_eq_true rfl) dX1_isCorner_17
    · have hF := (zq_ifn hF c_4)
      refine zq_iconst (pc' := 13) C 1 dX1_isCorner_12 rfl (by decide) ?_
      refine zq_goto C 17 dX1_isCorner_13 (by decide) ?_
      cases hF
      exact hE _ _ _ _ (Nat.le_of_ble_eq_true rfl) (Nat.le_of_ble_eq_true rfl) dX1_isCorner_17
theorem c_X1_isCorner {h : zq_H} {t : Nat} {x1 : Int32} {out : Bool} (hF : f_X1_isCorner h t x1 = some out) : zq_M none yX1_isCorner (Cond.code yX1_isCorner cX1_isCorner 2 (some .boolean) :: zq_all) rm_X1_isCorner [.ref t, .int x1] h (some (.int (zq_b out))) h := zq_met2 (own := RX1) (by decide +kernel) rfl (Nat.le_of_ble_eq_true rfl) rfl ⟨.boolean, rfl, by cases out <;> rfl⟩ (fun X C T hn hE => v_X1_isCorner C T hn hF hE)
theorem yv_X1_isCorner : zq_calV yX1_isCorner RX1 cX1_isCorner 2 (some .boolean) 1 := ⟨by decide +kernel, wd_17, wd_22, wd_23, wd_24⟩
def f_X1_numberOf (h : zq_H) (t : Nat) (x1 : Int32) (x2 : Int32) : Option Int32 := (zq_ck h t 1 fun _ => (Option.bind (f_X1_isCorner h t x1) fun v_1 => (if v_1 = false then some (-1) else (zq_ck h t 1 fun _ => (Option.bind (f_X1_isCorner h t x2) fun v_5 => (if v_5 = false then some (-1) else (Option.bind (zq_gr h t 1 4) fun v_9 => (Option.bind (zq_gi h t 1 0) fun v_11 => (Option.bind (zq_ai h v_9 ((x1 * v_11) + x2)) fun v_13 => some v_13)))))))))
abbrev rm_X1_numberOf : Room := { frames := 1, cells := 0, slots := 0, locals := 21 }
theorem dX1_numberOf_0 : decode cX1_numberOf 0 = .ok (.aload_n 0, 1) := by decide +kernel
theorem dX1_numberOf_1 : decode cX1_numberOf 1 = .ok (.iload_n 1, 1) := by decide +kernel
theorem dX1_numberOf_2 : decode cX1_numberOf 2 = .ok (.invokevirtual 59, 3) := by decide +kernel
theorem dX1_numberOf_5 : decode cX1_numberOf 5 = .ok (.ifCond .eq 27, 3) := by decide +kernel
theorem dX1_numberOf_8 : decode cX1_numberOf 8 = .ok (.aload_n 0, 1) := by decide +kernel
theorem dX1_numberOf_9 : decode cX1_numberOf 9 = .ok (.iload_n 2, 1) := by decide +kernel
theorem dX1_numberOf_10 : decode cX1_numberOf 10 = .ok (.invokevirtual 59, 3) := by decide +kernel
theorem dX1_numberOf_13 : decode cX1_numberOf 13 = .ok (.ifCond .eq 19, 3) := by decide +kernel
theorem dX1_numberOf_16 : decode cX1_numberOf 16 = .ok (.aload_n 0, 1) := by decide +kernel
theorem dX1_numberOf_17 : decode cX1_numberOf 17 = .ok (.getfield 25, 3) := by decide +kernel
theorem dX1_numberOf_20 : decode cX1_numberOf 20 = .ok (.iload_n 1, 1) := by decide +kernel
theorem dX1_numberOf_21 : decode cX1_numberOf 21 = .ok (.aload_n 0, 1) := by decide +kernel
theorem dX1_numberOf_22 : decode cX1_numberOf 22 = .ok (.getfield 9, 3) := by decide +kernel
theorem dX1_numberOf_25 : decode cX1_numberOf 25 = .ok (.imul, 1) := by decide +kernel
theorem dX1_numberOf_26 : decode cX1_numberOf 26 = .ok (.iload_n 2, 1) := by decide +kernel
theorem dX1_numberOf_27 : decode cX1_numberOf 27 = .ok (.iadd, 1) := by decide +kernel
theorem dX1_numberOf_28 : decode cX1_numberOf 28 = .ok (.iaload, 1) := by decide +kernel
theorem dX1_numberOf_29 : decode cX1_numberOf 29 = .ok (.goto 4, 3) := by decide +kernel
theorem dX1_numberOf_32 : decode cX1_numberOf 32 = .ok (.iconst (-1), 1) := by decide +kernel
theorem dX1_numberOf_33 : decode cX1_numberOf 33 = .ok (.ireturn, 1) := by decide +kernel
set_option maxRecDepth 100000 in
set_option maxHeartbeats 4000000 in
theorem v_X1_numberOf {X : zq_X} (C : zq_C X RX1 cX1_numberOf 3 zq_all rm_X1_numberOf) (T : zq_T X none) (hn : X.2.2.2.2.2.2.2.2.1.name = yX1_numberOf.name) {h : zq_H} {t : Nat} {x1 : Int32} {x2 : Int32} {out : Int32} (hF : f_X1_numberOf h t x1 x2 = some out) (hE : zq_End X cX1_numberOf 0 0 (some (.int out)) h) : zq_W X 0 0 h 0 [(0, .ref t), (1, .int x1), (2, .int x2)] [] := by
  unfold f_X1_numberOf at hF
  refine zq_aload_n (pc' := 1) C dX1_numberOf_0 rfl rfl rfl ?_
  refine zq_iload_n (pc' := 2) C dX1_numberOf_1 rfl rfl rfl ?_
  obtain ⟨e_3, hF⟩ := zq_ck_e hF
  obtain ⟨v_1, e_2, hF⟩ := zq_bd hF
  refine zq_cV (pc' := 5) C (c_X1_isCorner e_2) yv_X1_isCorner wd_21 zq_K1 e_3 dX1_numberOf_2 rfl rfl rfl ⟨Nat.le_of_ble_eq_true rfl, Nat.le_of_ble_eq_true rfl⟩ (Nat.le_of_ble_eq_true rfl) ⟨rfl, rfl⟩ ⟨Nat.le_of_ble_eq_true rfl, Nat.le_of_ble_eq_true rfl⟩ rfl ?_
  refine zq_if_eq (pc' := 8) C 32 dX1_numberOf_5 (by decide) rfl (fun c_4 => ?_) (fun c_4 => ?_)
  · have hF := (zq_ifp hF (zq_b0.mp c_4))
    skip
    refine zq_iconst (pc' := 33) C (-1) dX1_numberOf_32 rfl (by decide) ?_
    cases hF
    exact hE _ _ _ _ (Nat.le_of_ble_eq_true rfl) (Nat.le_of_ble_eq_true rfl) dX1_numberOf_33
  · have hF := (zq_ifn hF (fun q => c_4 (zq_b0.mpr q)))
    refine zq_aload_n (pc' := 9) C dX1_numberOf_8 rfl rfl rfl ?_
    refine zq_iload_n (pc' := 10) C dX1_numberOf_9 rfl rfl rfl ?_
    obtain ⟨e_7, hF⟩ := zq_ck_e hF
    obtain ⟨v_5, e_6, hF⟩ := zq_bd hF
    refine zq_cV (pc' := 13) C (c_X1_isCorner e_6) yv_X1_isCorner wd_21 zq_K1 e_7 dX1_numberOf_10 rfl rfl rfl ⟨Nat.le_of_ble_eq_true rfl, Nat.le_of_ble_eq_true rfl⟩ (Nat.le_of_ble_eq_true rfl) ⟨rfl, rfl⟩ ⟨Nat.le_of_ble_eq_true rfl, Nat.le_of_ble_eq_true rfl⟩ rfl ?_
    refine zq_if_eq (pc' := 16) C 32 dX1_numberOf_13 (by decide) rfl (fun c_8 => ?_) (fun c_8 => ?_)
    · have hF := (zq_ifp hF (zq_b0.mp c_8))
      skip
      refine zq_iconst (pc' := 33) C (-1) dX1_numberOf_32 rfl (by decide) ?_
      cases hF
      exact hE _ _ _ _ (Nat.le_of_ble_eq_true rfl) (Nat.le_of_ble_eq_true rfl) dX1_numberOf_33
    · have hF := (zq_ifn hF (fun q => c_8 (zq_b0.mpr q)))
      refine zq_aload_n (pc' := 17) C dX1_numberOf_16 rfl rfl rfl ?_
      obtain ⟨v_9, e_10, hF⟩ := zq_bd hF
      refine zq_getR (j := 4) (pc' := 20) C zq_K1 zq_in1w (Or.inl wd_60) (by decide) rfl dX1_numberOf_17 rfl e_10 ?_
      refine zq_iload_n (pc' := 21) C dX1_numberOf_20 rfl rfl rfl ?_
      refine zq_aload_n (pc' := 22) C dX1_numberOf_21 rfl rfl rfl ?_
      obtain ⟨v_11, e_12, hF⟩ := zq_bd hF
      refine zq_getI (j := 0) (pc' := 25) C zq_K1 zq_in1w (Or.inl wd_18) (by decide) rfl dX1_numberOf_22 rfl e_12 ?_
      refine zq_imul (pc' := 26) C dX1_numberOf_25 rfl ?_
      refine zq_iload_n (pc' := 27) C dX1_numberOf_26 rfl rfl rfl ?_
      refine zq_iadd (pc' := 28) C dX1_numberOf_27 rfl ?_
      obtain ⟨v_13, e_14, hF⟩ := zq_bd hF
      refine zq_iaload (pc' := 29) C dX1_numberOf_28 rfl e_14 ?_
      refine zq_goto C 33 dX1_numberOf_29 (by decide) ?_
      cases hF
      exact hE _ _ _ _ (Nat.le_of_ble_eq_true rfl) (Nat.le_of_ble_eq_true rfl) dX1_numberOf_33
theorem c_X1_numberOf {h : zq_H} {t : Nat} {x1 : Int32} {x2 : Int32} {out : Int32} (hF : f_X1_numberOf h t x1 x2 = some out) : zq_M none yX1_numberOf (Cond.code yX1_numberOf cX1_numberOf 3 (some .int) :: zq_all) rm_X1_numberOf [.ref t, .int x1, .int x2] h (some (.int out)) h := zq_met2 (own := RX1) (by decide +kernel) rfl (Nat.le_of_ble_eq_true rfl) rfl ⟨.int, rfl, rfl⟩ (fun X C T hn hE => v_X1_numberOf C T hn hF hE)
theorem yv_X1_numberOf : zq_calV yX1_numberOf RX1 cX1_numberOf 3 (some .int) 2 := ⟨by decide +kernel, wd_67, wd_72, wd_73, wd_24⟩
def f_X1_fanOf (h : zq_H) (t : Nat) (x1 : Int32) : Option Int32 := (zq_ck h t 1 fun _ => (Option.bind (f_X1_isCorner h t x1) fun v_1 => (if v_1 = false then some 0 else (Option.bind (zq_gr h t 1 5) fun v_5 => (Option.bind (zq_ai h v_5 x1) fun v_7 => some v_7)))))
abbrev rm_X1_fanOf : Room := { frames := 1, cells := 0, slots := 0, locals := 21 }
theorem dX1_fanOf_0 : decode cX1_fanOf 0 = .ok (.aload_n 0, 1) := by decide +kernel
theorem dX1_fanOf_1 : decode cX1_fanOf 1 = .ok (.iload_n 1, 1) := by decide +kernel
theorem dX1_fanOf_2 : decode cX1_fanOf 2 = .ok (.invokevirtual 59, 3) := by decide +kernel
theorem dX1_fanOf_5 : decode cX1_fanOf 5 = .ok (.ifCond .eq 12, 3) := by decide +kernel
theorem dX1_fanOf_8 : decode cX1_fanOf 8 = .ok (.aload_n 0, 1) := by decide +kernel
theorem dX1_fanOf_9 : decode cX1_fanOf 9 = .ok (.getfield 28, 3) := by decide +kernel
theorem dX1_fanOf_12 : decode cX1_fanOf 12 = .ok (.iload_n 1, 1) := by decide +kernel
theorem dX1_fanOf_13 : decode cX1_fanOf 13 = .ok (.iaload, 1) := by decide +kernel
theorem dX1_fanOf_14 : decode cX1_fanOf 14 = .ok (.goto 4, 3) := by decide +kernel
theorem dX1_fanOf_17 : decode cX1_fanOf 17 = .ok (.iconst 0, 1) := by decide +kernel
theorem dX1_fanOf_18 : decode cX1_fanOf 18 = .ok (.ireturn, 1) := by decide +kernel
set_option maxRecDepth 100000 in
set_option maxHeartbeats 4000000 in
theorem v_X1_fanOf {X : zq_X} (C : zq_C X RX1 cX1_fanOf 2 zq_all rm_X1_fanOf) (T : zq_T X none) (hn : X.2.2.2.2.2.2.2.2.1.name = yX1_fanOf.name) {h : zq_H} {t : Nat} {x1 : Int32} {out : Int32} (hF : f_X1_fanOf h t x1 = some out) (hE : zq_End X cX1_fanOf 0 0 (some (.int out)) h) : zq_W X 0 0 h 0 [(0, .ref t), (1, .int x1)] [] := by
  unfold f_X1_fanOf at hF
  refine zq_aload_n (pc' := 1) C dX1_fanOf_0 rfl rfl rfl ?_
  refine zq_iload_n (pc' := 2) C dX1_fanOf_1 rfl rfl rfl ?_
  obtain ⟨e_3, hF⟩ := zq_ck_e hF
  obtain ⟨v_1, e_2, hF⟩ := zq_bd hF
  refine zq_cV (pc' := 5) C (c_X1_isCorner e_2) yv_X1_isCorner wd_21 zq_K1 e_3 dX1_fanOf_2 rfl rfl rfl ⟨Nat.le_of_ble_eq_true rfl, Nat.le_of_ble_eq_true rfl⟩ (Nat.le_of_ble_eq_true rfl) ⟨rfl, rfl⟩ ⟨Nat.le_of_ble_eq_true rfl, Nat.le_of_ble_eq_true rfl⟩ rfl ?_
  refine zq_if_eq (pc' := 8) C 17 dX1_fanOf_5 (by decide) rfl (fun c_4 => ?_) (fun c_4 => ?_)
  · have hF := (zq_ifp hF (zq_b0.mp c_4))
    skip
    refine zq_iconst (pc' := 18) C 0 dX1_fanOf_17 rfl (by decide) ?_
    cases hF
    exact hE _ _ _ _ (Nat.le_of_ble_eq_true rfl) (Nat.le_of_ble_eq_true rfl) dX1_fanOf_18
  · have hF := (zq_ifn hF (fun q => c_4 (zq_b0.mpr q)))
    refine zq_aload_n (pc' := 9) C dX1_fanOf_8 rfl rfl rfl ?_
    obtain ⟨v_5, e_6, hF⟩ := zq_bd hF
    refine zq_getR (j := 5) (pc' := 12) C zq_K1 zq_in1w (Or.inl wd_20) (by decide) rfl dX1_fanOf_9 rfl e_6 ?_
    refine zq_iload_n (pc' := 13) C dX1_fanOf_12 rfl rfl rfl ?_
    obtain ⟨v_7, e_8, hF⟩ := zq_bd hF
    refine zq_iaload (pc' := 14) C dX1_fanOf_13 rfl e_8 ?_
    refine zq_goto C 18 dX1_fanOf_14 (by decide) ?_
    cases hF
    exact hE _ _ _ _ (Nat.le_of_ble_eq_true rfl) (Nat.le_of_ble_eq_true rfl) dX1_fanOf_18
theorem c_X1_fanOf {h : zq_H} {t : Nat} {x1 : Int32} {out : Int32} (hF : f_X1_fanOf h t x1 = some out) : zq_M none yX1_fanOf (Cond.code yX1_fanOf cX1_fanOf 2 (some .int) :: zq_all) rm_X1_fanOf [.ref t, .int x1] h (some (.int out)) h := zq_met2 (own := RX1) (by decide +kernel) rfl (Nat.le_of_ble_eq_true rfl) rfl ⟨.int, rfl, rfl⟩ (fun X C T hn hE => v_X1_fanOf C T hn hF hE)
theorem yv_X1_fanOf : zq_calV yX1_fanOf RX1 cX1_fanOf 2 (some .int) 1 := ⟨by decide +kernel, wd_19, wd_44, wd_45, wd_24⟩
def f_X1_degreeIn (h : zq_H) (t : Nat) (x1 : Int32) (x2 : Int32) : Option Int32 := (zq_ck h t 1 fun _ => (Option.bind (f_X1_fanOf h t x2) fun v_1 => (Option.bind (f_J6_bitCount_0f7a4 h (x1 &&& v_1)) fun v_4 => some v_4)))
abbrev rm_X1_degreeIn : Room := { frames := 2, cells := 0, slots := 0, locals := 42 }
theorem dX1_degreeIn_0 : decode cX1_degreeIn 0 = .ok (.iload_n 1, 1) := by decide +kernel
theorem dX1_degreeIn_1 : decode cX1_degreeIn 1 = .ok (.aload_n 0, 1) := by decide +kernel
theorem dX1_degreeIn_2 : decode cX1_degreeIn 2 = .ok (.iload_n 2, 1) := by decide +kernel
theorem dX1_degreeIn_3 : decode cX1_degreeIn 3 = .ok (.invokevirtual 63, 3) := by decide +kernel
theorem dX1_degreeIn_6 : decode cX1_degreeIn 6 = .ok (.iand, 1) := by decide +kernel
theorem dX1_degreeIn_7 : decode cX1_degreeIn 7 = .ok (.invokestatic 67, 3) := by decide +kernel
theorem dX1_degreeIn_10 : decode cX1_degreeIn 10 = .ok (.ireturn, 1) := by decide +kernel
set_option maxRecDepth 100000 in
set_option maxHeartbeats 4000000 in
theorem v_X1_degreeIn {X : zq_X} (C : zq_C X RX1 cX1_degreeIn 3 zq_all rm_X1_degreeIn) (T : zq_T X none) (hn : X.2.2.2.2.2.2.2.2.1.name = yX1_degreeIn.name) {h : zq_H} {t : Nat} {x1 : Int32} {x2 : Int32} {out : Int32} (hF : f_X1_degreeIn h t x1 x2 = some out) (hE : zq_End X cX1_degreeIn 0 0 (some (.int out)) h) : zq_W X 0 0 h 0 [(0, .ref t), (1, .int x1), (2, .int x2)] [] := by
  unfold f_X1_degreeIn at hF
  refine zq_iload_n (pc' := 1) C dX1_degreeIn_0 rfl rfl rfl ?_
  refine zq_aload_n (pc' := 2) C dX1_degreeIn_1 rfl rfl rfl ?_
  refine zq_iload_n (pc' := 3) C dX1_degreeIn_2 rfl rfl rfl ?_
  obtain ⟨e_3, hF⟩ := zq_ck_e hF
  obtain ⟨v_1, e_2, hF⟩ := zq_bd hF
  refine zq_cV (pc' := 6) C (c_X1_fanOf e_2) yv_X1_fanOf wd_86 zq_K1 e_3 dX1_degreeIn_3 rfl rfl rfl ⟨Nat.le_of_ble_eq_true rfl, Nat.le_of_ble_eq_true rfl⟩ (Nat.le_of_ble_eq_true rfl) ⟨rfl, rfl⟩ ⟨Nat.le_of_ble_eq_true rfl, Nat.le_of_ble_eq_true rfl⟩ rfl ?_
  refine zq_iand (pc' := 7) C dX1_degreeIn_6 rfl ?_
  obtain ⟨v_4, e_5, hF⟩ := zq_bd hF
  refine zq_cS (pc' := 10) C (c_J6_bitCount_0f7a4 e_5) ys_J6_bitCount_0f7a4 wd_87 dX1_degreeIn_7 rfl rfl rfl ⟨Nat.le_of_ble_eq_true rfl, Nat.le_of_ble_eq_true rfl⟩ (Nat.le_of_ble_eq_true rfl) ⟨rfl, rfl⟩ ⟨Nat.le_of_ble_eq_true rfl, Nat.le_of_ble_eq_true rfl⟩ rfl ?_
  cases hF
  exact hE _ _ _ _ (Nat.le_of_ble_eq_true rfl) (Nat.le_of_ble_eq_true rfl) dX1_degreeIn_10
theorem c_X1_degreeIn {h : zq_H} {t : Nat} {x1 : Int32} {x2 : Int32} {out : Int32} (hF : f_X1_degreeIn h t x1 x2 = some out) : zq_M none yX1_degreeIn (Cond.code yX1_degreeIn cX1_degreeIn 3 (some .int) :: zq_all) rm_X1_degreeIn [.ref t, .int x1, .int x2] h (some (.int out)) h := zq_met2 (own := RX1) (by decide +kernel) rfl (Nat.le_of_ble_eq_true rfl) rfl ⟨.int, rfl, rfl⟩ (fun X C T hn hE => v_X1_degreeIn C T hn hF hE)
theorem yv_X1_degreeIn : zq_calV yX1_degreeIn RX1 cX1_degreeIn 3 (some .int) 2 := ⟨by decide +kernel, wd_85, wd_111, wd_112, wd_24⟩
def f_X1_otherOf (h : zq_H) (t : Nat) (x1 : Int32) (x2 : Int32) : Option Int32 := (zq_let (1 <<< (x2 &&& 31)) fun v_1 => (if (x1 &&& v_1) = 0 then some (-1) else ((zq_lp (σ := Int32) (ρ := (Unit) ⊕ Int32) (fun s_4 => (Option.bind (zq_gi h t 1 1) fun v_12 => (if v_12 ≤ s_4 then some (.inr (.inl ())) else (Option.bind (zq_gr h t 1 6) fun v_15 => (Option.bind (zq_ai h v_15 s_4) fun v_17 => (if (v_17 &&& x1) = v_1 then some (.inr (.inr (s_4))) else (zq_let (s_4 + 1) fun v_20 => some (.inl v_20)))))))) zq_N 0).bind (Sum.elim (fun y_7 : Unit => some (-1)) (fun z_8 => some z_8)))))
abbrev rm_X1_otherOf : Room := { frames := 0, cells := 0, slots := 0, locals := 0 }
theorem dX1_otherOf_0 : decode cX1_otherOf 0 = .ok (.iconst 1, 1) := by decide +kernel
theorem dX1_otherOf_1 : decode cX1_otherOf 1 = .ok (.iload_n 2, 1) := by decide +kernel
theorem dX1_otherOf_2 : decode cX1_otherOf 2 = .ok (.ishl, 1) := by decide +kernel
theorem dX1_otherOf_3 : decode cX1_otherOf 3 = .ok (.istore_n 3, 1) := by decide +kernel
theorem dX1_otherOf_4 : decode cX1_otherOf 4 = .ok (.iload_n 1, 1) := by decide +kernel
theorem dX1_otherOf_5 : decode cX1_otherOf 5 = .ok (.iload_n 3, 1) := by decide +kernel
theorem dX1_otherOf_6 : decode cX1_otherOf 6 = .ok (.iand, 1) := by decide +kernel
theorem dX1_otherOf_7 : decode cX1_otherOf 7 = .ok (.ifCond .ne 5, 3) := by decide +kernel
theorem dX1_otherOf_10 : decode cX1_otherOf 10 = .ok (.iconst (-1), 1) := by decide +kernel
theorem dX1_otherOf_11 : decode cX1_otherOf 11 = .ok (.ireturn, 1) := by decide +kernel
theorem dX1_otherOf_12 : decode cX1_otherOf 12 = .ok (.iconst 0, 1) := by decide +kernel
theorem dX1_otherOf_13 : decode cX1_otherOf 13 = .ok (.istore 4, 2) := by decide +kernel
theorem dX1_otherOf_15 : decode cX1_otherOf 15 = .ok (.iload 4, 2) := by decide +kernel
theorem dX1_otherOf_17 : decode cX1_otherOf 17 = .ok (.aload_n 0, 1) := by decide +kernel
theorem dX1_otherOf_18 : decode cX1_otherOf 18 = .ok (.getfield 15, 3) := by decide +kernel
theorem dX1_otherOf_21 : decode cX1_otherOf 21 = .ok (.if_icmp .ge 25, 3) := by decide +kernel
theorem dX1_otherOf_24 : decode cX1_otherOf 24 = .ok (.aload_n 0, 1) := by decide +kernel
theorem dX1_otherOf_25 : decode cX1_otherOf 25 = .ok (.getfield 31, 3) := by decide +kernel
theorem dX1_otherOf_28 : decode cX1_otherOf 28 = .ok (.iload 4, 2) := by decide +kernel
theorem dX1_otherOf_30 : decode cX1_otherOf 30 = .ok (.iaload, 1) := by decide +kernel
theorem dX1_otherOf_31 : decode cX1_otherOf 31 = .ok (.iload_n 1, 1) := by decide +kernel
theorem dX1_otherOf_32 : decode cX1_otherOf 32 = .ok (.iand, 1) := by decide +kernel
theorem dX1_otherOf_33 : decode cX1_otherOf 33 = .ok (.iload_n 3, 1) := by decide +kernel
theorem dX1_otherOf_34 : decode cX1_otherOf 34 = .ok (.if_icmp .ne 6, 3) := by decide +kernel
theorem dX1_otherOf_37 : decode cX1_otherOf 37 = .ok (.iload 4, 2) := by decide +kernel
theorem dX1_otherOf_39 : decode cX1_otherOf 39 = .ok (.ireturn, 1) := by decide +kernel
theorem dX1_otherOf_40 : decode cX1_otherOf 40 = .ok (.iinc 4 1, 3) := by decide +kernel
theorem dX1_otherOf_43 : decode cX1_otherOf 43 = .ok (.goto (-28), 3) := by decide +kernel
theorem dX1_otherOf_46 : decode cX1_otherOf 46 = .ok (.iconst (-1), 1) := by decide +kernel
theorem dX1_otherOf_47 : decode cX1_otherOf 47 = .ok (.ireturn, 1) := by decide +kernel
set_option maxRecDepth 100000 in
set_option maxHeartbeats 4000000 in
theorem v_X1_otherOf {X : zq_X} (C : zq_C X RX1 cX1_otherOf 5 zq_all rm_X1_otherOf) (T : zq_T X none) (hn : X.2.2.2.2.2.2.2.2.1.name = yX1_otherOf.name) {h : zq_H} {t : Nat} {x1 : Int32} {x2 : Int32} {out : Int32} (hF : f_X1_otherOf h t x1 x2 = some out) (hE : zq_End X cX1_otherOf 0 0 (some (.int out)) h) : zq_W X 0 0 h 0 [(0, .ref t), (1, .int x1), (2, .int x2)] [] := by
  unfold f_X1_otherOf at hF
  refine zq_iconst (pc' := 1) C 1 dX1_otherOf_0 rfl (by decide) ?_
  refine zq_iload_n (pc' := 2) C dX1_otherOf_1 rfl rfl rfl ?_
  refine zq_ishl (pc' := 3) C dX1_otherOf_2 rfl ?_
  obtain ⟨v_1, e_2, hF⟩ := zq_let_e hF
  refine zq_istore_n (lv' := [(3, .int v_1), (0, .ref t), (1, .int x1), (2, .int x2)]) (pc' := 4) C dX1_otherOf_3 rfl rfl (by decide) e_2 rfl ?_
  refine zq_iload_n (pc' := 5) C dX1_otherOf_4 rfl rfl rfl ?_
  refine zq_iload_n (pc' := 6) C dX1_otherOf_5 rfl rfl rfl ?_
  refine zq_iand (pc' := 7) C dX1_otherOf_6 rfl ?_
  refine zq_if_ne (pc' := 10) C 12 dX1_otherOf_7 (by decide) rfl (fun c_3 => ?_) (fun c_3 => ?_)
  · have hF := (zq_ifn hF c_3)
    skip
    refine zq_iconst (pc' := 13) C 0 dX1_otherOf_12 rfl (by decide) ?_
    refine zq_istore (lv' := [(4, .int 0), (3, .int v_1), (0, .ref t), (1, .int x1), (2, .int x2)]) (pc' := 15) C dX1_otherOf_13 rfl (by decide) rfl rfl ?_
    refine zq_sub [2, 3, 1, 0] rfl ?_
    obtain ⟨r_5, e_6, hF⟩ := zq_bd hF
    refine zq_lpW (fun s_4 => zq_W X 0 0 h 15 [(0, .ref t), (1, .int x1), (3, .int v_1), (4, .int s_4)] []) (Sum.elim (fun y_7 => zq_W X 0 0 h 46 [] []) (fun z_8 => out = z_8)) e_6 (fun s_4 q_11 hF hrec_9 hex_10 => ?_) ?_
    · skip
      refine zq_iload (pc' := 17) C dX1_otherOf_15 rfl rfl ?_
      refine zq_aload_n (pc' := 18) C dX1_otherOf_17 rfl rfl rfl ?_
      obtain ⟨v_12, e_13, hF⟩ := zq_bd hF
      refine zq_getI (j := 1) (pc' := 21) C zq_K1 zq_in1w (Or.inl wd_37) (by decide) rfl dX1_otherOf_18 rfl e_13 ?_
      refine zq_icmp_ge (pc' := 24) C 46 dX1_otherOf_21 (by decide) rfl (fun c_14 => ?_) (fun c_14 => ?_)
      · have hF := (zq_ifp hF c_14)
        skip
        cases hF
        exact zq_sub [] rfl (hex_10 _ rfl)
      · have hF := (zq_ifn hF c_14)
        refine zq_aload_n (pc' := 25) C dX1_otherOf_24 rfl rfl rfl ?_
        obtain ⟨v_15, e_16, hF⟩ := zq_bd hF
        refine zq_getR (j := 6) (pc' := 28) C zq_K1 zq_in1w (Or.inl wd_38) (by decide) rfl dX1_otherOf_25 rfl e_16 ?_
        refine zq_iload (pc' := 30) C dX1_otherOf_28 rfl rfl ?_
        obtain ⟨v_17, e_18, hF⟩ := zq_bd hF
        refine zq_iaload (pc' := 31) C dX1_otherOf_30 rfl e_18 ?_
        refine zq_iload_n (pc' := 32) C dX1_otherOf_31 rfl rfl rfl ?_
        refine zq_iand (pc' := 33) C dX1_otherOf_32 rfl ?_
        refine zq_iload_n (pc' := 34) C dX1_otherOf_33 rfl rfl rfl ?_
        refine zq_icmp_ne (pc' := 37) C 40 dX1_otherOf_34 (by decide) rfl (fun c_19 => ?_) (fun c_19 => ?_)
        · have hF := (zq_ifn hF c_19)
          skip
          obtain ⟨v_20, e_21, hF⟩ := zq_let_e hF
          refine zq_iinc (lv' := [(4, .int v_20), (0, .ref t), (1, .int x1), (3, .int v_1)]) (pc' := 43) C dX1_otherOf_40 rfl (by decide) 3 rfl e_21 rfl ?_
          refine zq_goto C 15 dX1_otherOf_43 (by decide) ?_
          cases hF
          exact zq_sub [1, 2, 3, 0] rfl (hrec_9 _ rfl)
        · have hF := (zq_ifp hF c_19)
          refine zq_iload (pc' := 39) C dX1_otherOf_37 rfl rfl ?_
          cases hF
          have q9 : out = s_4 := hex_10 _ rfl
          subst q9
          exact hE _ _ _ _ (Nat.le_of_ble_eq_true rfl) (Nat.le_of_ble_eq_true rfl) dX1_otherOf_39
    · rcases r_5 with y_7 | z_8
      · dsimp only [Sum.elim_inl] at hF
        show zq_W X 0 0 h 46 [] []
        refine zq_iconst (pc' := 47) C (-1) dX1_otherOf_46 rfl (by decide) ?_
        cases hF
        exact hE _ _ _ _ (Nat.le_of_ble_eq_true rfl) (Nat.le_of_ble_eq_true rfl) dX1_otherOf_47
      · cases hF; rfl
  · have hF := (zq_ifp hF c_3)
    refine zq_iconst (pc' := 11) C (-1) dX1_otherOf_10 rfl (by decide) ?_
    cases hF
    exact hE _ _ _ _ (Nat.le_of_ble_eq_true rfl) (Nat.le_of_ble_eq_true rfl) dX1_otherOf_11
theorem c_X1_otherOf {h : zq_H} {t : Nat} {x1 : Int32} {x2 : Int32} {out : Int32} (hF : f_X1_otherOf h t x1 x2 = some out) : zq_M none yX1_otherOf (Cond.code yX1_otherOf cX1_otherOf 5 (some .int) :: zq_all) rm_X1_otherOf [.ref t, .int x1, .int x2] h (some (.int out)) h := zq_met2 (own := RX1) (by decide +kernel) rfl (Nat.le_of_ble_eq_true rfl) rfl ⟨.int, rfl, rfl⟩ (fun X C T hn hE => v_X1_otherOf C T hn hF hE)
theorem yv_X1_otherOf : zq_calV yX1_otherOf RX1 cX1_otherOf 5 (some .int) 2 := ⟨by decide +kernel, wd_36, wd_41, wd_42, wd_24⟩
def f_X1_ears (h : zq_H) (t : Nat) (x1 : Int32) : Option Int32 := ((zq_lp (σ := Int32 × Int32) (ρ := Int32) (fun s_1 => (Option.bind (zq_gi h t 1 0) fun v_9 => (if v_9 ≤ s_1.2 then some (.inr s_1.1) else (zq_ck h t 1 fun _ => (Option.bind (f_X1_degreeIn h t x1 s_1.2) fun v_12 => (if v_12 = 0 then (zq_let (s_1.1 + 1) fun v_20 => (zq_let (s_1.2 + 1) fun v_22 => some (.inl (v_20, v_22)))) else (zq_let (s_1.1 + 0) fun v_16 => (zq_let (s_1.2 + 1) fun v_18 => some (.inl (v_16, v_18)))))))))) zq_N (0, 0)).bind (fun y_4 : Int32 => some y_4))
abbrev rm_X1_ears : Room := { frames := 3, cells := 0, slots := 0, locals := 64 }
theorem dX1_ears_0 : decode cX1_ears 0 = .ok (.iconst 0, 1) := by decide +kernel
theorem dX1_ears_1 : decode cX1_ears 1 = .ok (.istore_n 2, 1) := by decide +kernel
theorem dX1_ears_2 : decode cX1_ears 2 = .ok (.iconst 0, 1) := by decide +kernel
theorem dX1_ears_3 : decode cX1_ears 3 = .ok (.istore_n 3, 1) := by decide +kernel
theorem dX1_ears_4 : decode cX1_ears 4 = .ok (.iload_n 3, 1) := by decide +kernel
theorem dX1_ears_5 : decode cX1_ears 5 = .ok (.aload_n 0, 1) := by decide +kernel
theorem dX1_ears_6 : decode cX1_ears 6 = .ok (.getfield 9, 3) := by decide +kernel
theorem dX1_ears_9 : decode cX1_ears 9 = .ok (.if_icmp .ge 26, 3) := by decide +kernel
theorem dX1_ears_12 : decode cX1_ears 12 = .ok (.iload_n 2, 1) := by decide +kernel
theorem dX1_ears_13 : decode cX1_ears 13 = .ok (.aload_n 0, 1) := by decide +kernel
theorem dX1_ears_14 : decode cX1_ears 14 = .ok (.iload_n 1, 1) := by decide +kernel
theorem dX1_ears_15 : decode cX1_ears 15 = .ok (.iload_n 3, 1) := by decide +kernel
theorem dX1_ears_16 : decode cX1_ears 16 = .ok (.invokevirtual 94, 3) := by decide +kernel
theorem dX1_ears_19 : decode cX1_ears 19 = .ok (.ifCond .ne 7, 3) := by decide +kernel
theorem dX1_ears_22 : decode cX1_ears 22 = .ok (.iconst 1, 1) := by decide +kernel
theorem dX1_ears_23 : decode cX1_ears 23 = .ok (.goto 4, 3) := by decide +kernel
theorem dX1_ears_26 : decode cX1_ears 26 = .ok (.iconst 0, 1) := by decide +kernel
theorem dX1_ears_27 : decode cX1_ears 27 = .ok (.iadd, 1) := by decide +kernel
theorem dX1_ears_28 : decode cX1_ears 28 = .ok (.istore_n 2, 1) := by decide +kernel
theorem dX1_ears_29 : decode cX1_ears 29 = .ok (.iinc 3 1, 3) := by decide +kernel
theorem dX1_ears_32 : decode cX1_ears 32 = .ok (.goto (-28), 3) := by decide +kernel
theorem dX1_ears_35 : decode cX1_ears 35 = .ok (.iload_n 2, 1) := by decide +kernel
theorem dX1_ears_36 : decode cX1_ears 36 = .ok (.ireturn, 1) := by decide +kernel
set_option maxRecDepth 100000 in
set_option maxHeartbeats 4000000 in
theorem v_X1_ears {X : zq_X} (C : zq_C X RX1 cX1_ears 4 zq_all rm_X1_ears) (T : zq_T X none) (hn : X.2.2.2.2.2.2.2.2.1.name = yX1_ears.name) {h : zq_H} {t : Nat} {x1 : Int32} {out : Int32} (hF : f_X1_ears h t x1 = some out) (hE : zq_End X cX1_ears 0 0 (some (.int out)) h) : zq_W X 0 0 h 0 [(0, .ref t), (1, .int x1)] [] := by
  unfold f_X1_ears at hF
  refine zq_iconst (pc' := 1) C 0 dX1_ears_0 rfl (by decide) ?_
  refine zq_istore_n (lv' := [(2, .int 0), (0, .ref t), (1, .int x1)]) (pc' := 2) C dX1_ears_1 rfl rfl (by decide) rfl rfl ?_
  refine zq_iconst (pc' := 3) C 0 dX1_ears_2 rfl (by decide) ?_
  refine zq_istore_n (lv' := [(3, .int 0), (2, .int 0), (0, .ref t), (1, .int x1)]) (pc' := 4) C dX1_ears_3 rfl rfl (by decide) rfl rfl ?_
  refine zq_sub [2, 3, 1, 0] rfl ?_
  obtain ⟨r_2, e_3, hF⟩ := zq_bd hF
  refine zq_lpW (fun s_1 => zq_W X 0 0 h 4 [(0, .ref t), (1, .int x1), (2, .int s_1.1), (3, .int s_1.2)] []) (fun y_4 => zq_W X 0 0 h 35 [(2, .int y_4)] []) e_3 (fun s_1 q_8 hF hrec_6 hex_7 => ?_) ?_
  · skip
    refine zq_iload_n (pc' := 5) C dX1_ears_4 rfl rfl rfl ?_
    refine zq_aload_n (pc' := 6) C dX1_ears_5 rfl rfl rfl ?_
    obtain ⟨v_9, e_10, hF⟩ := zq_bd hF
    refine zq_getI (j := 0) (pc' := 9) C zq_K1 zq_in1w (Or.inl wd_18) (by decide) rfl dX1_ears_6 rfl e_10 ?_
    refine zq_icmp_ge (pc' := 12) C 35 dX1_ears_9 (by decide) rfl (fun c_11 => ?_) (fun c_11 => ?_)
    · have hF := (zq_ifp hF c_11)
      skip
      cases hF
      exact zq_sub [2] rfl (hex_7 _ rfl)
    · have hF := (zq_ifn hF c_11)
      refine zq_iload_n (pc' := 13) C dX1_ears_12 rfl rfl rfl ?_
      refine zq_aload_n (pc' := 14) C dX1_ears_13 rfl rfl rfl ?_
      refine zq_iload_n (pc' := 15) C dX1_ears_14 rfl rfl rfl ?_
      refine zq_iload_n (pc' := 16) C dX1_ears_15 rfl rfl rfl ?_
      obtain ⟨e_14, hF⟩ := zq_ck_e hF
      obtain ⟨v_12, e_13, hF⟩ := zq_bd hF
      refine zq_cV (pc' := 19) C (c_X1_degreeIn e_13) yv_X1_degreeIn wd_110 zq_K1 e_14 dX1_ears_16 rfl rfl rfl ⟨Nat.le_of_ble_eq_true rfl, Nat.le_of_ble_eq_true rfl⟩ (Nat.le_of_ble_eq_true rfl) ⟨rfl, rfl⟩ ⟨Nat.le_of_ble_eq_true rfl, Nat.le_of_ble_eq_true rfl⟩ rfl ?_
      refine zq_if_ne (pc' := 22) C 26 dX1_ears_19 (by decide) rfl (fun c_15 => ?_) (fun c_15 => ?_)
      · have hF := (zq_ifn hF c_15)
        skip
        refine zq_iconst (pc' := 27) C 0 dX1_ears_26 rfl (by decide) ?_
        refine zq_iadd (pc' := 28) C dX1_ears_27 rfl ?_
        obtain ⟨v_16, e_17, hF⟩ := zq_let_e hF
        refine zq_istore_n (lv' := [(2, .int v_16), (0, .ref t), (1, .int x1), (3, .int s_1.2)]) (pc' := 29) C dX1_ears_28 rfl rfl (by decide) e_17 rfl ?_
        obtain ⟨v_18, e_19, hF⟩ := zq_let_e hF
        refine zq_iinc (lv' := [(3, .int v_18), (2, .int v_16), (0, .ref t), (1, .int x1)]) (pc' := 32) C dX1_ears_29 rfl (by decide) 3 rfl e_19 rfl ?_
        refine zq_goto C 4 dX1_ears_32 (by decide) ?_
        cases hF
        exact zq_sub [2, 3, 1, 0] rfl (hrec_6 _ rfl)
      · have hF := (zq_ifp hF c_15)
        refine zq_iconst (pc' := 23) C 1 dX1_ears_22 rfl (by decide) ?_
        refine zq_goto C 27 dX1_ears_23 (by decide) ?_
        refine zq_iadd (pc' := 28) C dX1_ears_27 rfl ?_
        obtain ⟨v_20, e_21, hF⟩ := zq_let_e hF
        refine zq_istore_n (lv' := [(2, .int v_20), (0, .ref t), (1, .int x1), (3, .int s_1.2)]) (pc' := 29) C dX1_ears_28 rfl rfl (by decide) e_21 rfl ?_
        obtain ⟨v_22, e_23, hF⟩ := zq_let_e hF
        refine zq_iinc (lv' := [(3, .int v_22), (2, .int v_20), (0, .ref t), (1, .int x1)]) (pc' := 32) C dX1_ears_29 rfl (by decide) 3 rfl e_23 rfl ?_
        refine zq_goto C 4 dX1_ears_32 (by decide) ?_
        cases hF
        exact zq_sub [2, 3, 1, 0] rfl (hrec_6 _ rfl)
  · skip
    obtain ⟨y_4, rfl⟩ : ∃ z9, z9 = r_2 := ⟨_, rfl⟩
    show zq_W X 0 0 h 35 [(2, .int y_4)] []
    refine zq_iload_n (pc' := 36) C dX1_ears_35 rfl rfl rfl ?_
    cases hF
    exact hE _ _ _ _ (Nat.le_of_ble_eq_true rfl) (Nat.le_of_ble_eq_true rfl) dX1_ears_36
theorem c_X1_ears {h : zq_H} {t : Nat} {x1 : Int32} {out : Int32} (hF : f_X1_ears h t x1 = some out) : zq_M none yX1_ears (Cond.code yX1_ears cX1_ears 4 (some .int) :: zq_all) rm_X1_ears [.ref t, .int x1] h (some (.int out)) h := zq_met2 (own := RX1) (by decide +kernel) rfl (Nat.le_of_ble_eq_true rfl) rfl ⟨.int, rfl, rfl⟩ (fun X C T hn hE => v_X1_ears C T hn hF hE)
theorem yv_X1_ears : zq_calV yX1_ears RX1 cX1_ears 4 (some .int) 1 := ⟨by decide +kernel, wd_109, wd_339, wd_340, wd_24⟩
end
