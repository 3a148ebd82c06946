section
-- ===== PART A: goes FIRST, ahead of the names: the tables' words, and 'selects' of the private methods out of them =====
/-- a private method of a class that the tables say can be made, by its rows of tables_1 -/
def lw_okq (q : MethodName × Nat) : Prop := (q.1.cls ≠ "java/lang/invoke/MethodHandle" ∧ q.1.cls ≠ "java/lang/invoke/VarHandle") ∧ Cond.instantiable q.1.cls q.2 ∈ tables_1 ∧ Cond.privateMethod q.1 ∈ tables_1 ∧ Cond.instanceMethod q.1 ∈ tables_1
theorem lw_p0 : lw_okq (⟨"StrokeRaster", "forget", "()V"⟩, 12) := ⟨⟨by decide +kernel, by decide +kernel⟩, List.mem_of_getElem? (i := 20) (by decide +kernel), List.mem_of_getElem? (i := 332) (by decide +kernel), List.mem_of_getElem? (i := 333) (by decide +kernel)⟩
theorem lw_p1 : lw_okq (⟨"StrokeRaster$Walker", "passPhase", "()V"⟩, 17) := ⟨⟨by decide +kernel, by decide +kernel⟩, List.mem_of_getElem? (i := 160) (by decide +kernel), List.mem_of_getElem? (i := 352) (by decide +kernel), List.mem_of_getElem? (i := 353) (by decide +kernel)⟩
theorem lw_p2 : lw_okq (⟨"StrokeRaster$Walker", "dashAfter", "(I)I"⟩, 17) := ⟨⟨by decide +kernel, by decide +kernel⟩, List.mem_of_getElem? (i := 160) (by decide +kernel), List.mem_of_getElem? (i := 359) (by decide +kernel), List.mem_of_getElem? (i := 360) (by decide +kernel)⟩
theorem lw_p3 : lw_okq (⟨"StrokeRaster$Walker", "walkSubpath", "(I)V"⟩, 17) := ⟨⟨by decide +kernel, by decide +kernel⟩, List.mem_of_getElem? (i := 160) (by decide +kernel), List.mem_of_getElem? (i := 363) (by decide +kernel), List.mem_of_getElem? (i := 364) (by decide +kernel)⟩
theorem lw_p4 : lw_okq (⟨"StrokeRaster$Walker", "takeSegment", "(II)Z"⟩, 17) := ⟨⟨by decide +kernel, by decide +kernel⟩, List.mem_of_getElem? (i := 160) (by decide +kernel), List.mem_of_getElem? (i := 375) (by decide +kernel), List.mem_of_getElem? (i := 376) (by decide +kernel)⟩
theorem lw_p5 : lw_okq (⟨"StrokeRaster$Walker", "offsetPart", "(IJ)I"⟩, 17) := ⟨⟨by decide +kernel, by decide +kernel⟩, List.mem_of_getElem? (i := 160) (by decide +kernel), List.mem_of_getElem? (i := 379) (by decide +kernel), List.mem_of_getElem? (i := 380) (by decide +kernel)⟩
theorem lw_p6 : lw_okq (⟨"StrokeRaster$Walker", "cutSegment", "()V"⟩, 17) := ⟨⟨by decide +kernel, by decide +kernel⟩, List.mem_of_getElem? (i := 160) (by decide +kernel), List.mem_of_getElem? (i := 389) (by decide +kernel), List.mem_of_getElem? (i := 390) (by decide +kernel)⟩
theorem lw_p7 : lw_okq (⟨"StrokeRaster$Walker", "addPiece", "(II)V"⟩, 17) := ⟨⟨by decide +kernel, by decide +kernel⟩, List.mem_of_getElem? (i := 160) (by decide +kernel), List.mem_of_getElem? (i := 397) (by decide +kernel), List.mem_of_getElem? (i := 398) (by decide +kernel)⟩
theorem lw_p8 : lw_okq (⟨"StrokeRaster$Walker", "fineAt", "(III)I"⟩, 17) := ⟨⟨by decide +kernel, by decide +kernel⟩, List.mem_of_getElem? (i := 160) (by decide +kernel), List.mem_of_getElem? (i := 401) (by decide +kernel), List.mem_of_getElem? (i := 402) (by decide +kernel)⟩
theorem lw_p9 : lw_okq (⟨"StrokeRaster$Pieces", "grow", "(I)V"⟩, 11) := ⟨⟨by decide +kernel, by decide +kernel⟩, List.mem_of_getElem? (i := 107) (by decide +kernel), List.mem_of_getElem? (i := 414) (by decide +kernel), List.mem_of_getElem? (i := 415) (by decide +kernel)⟩
theorem lw_p10 : lw_okq (⟨"StrokeRaster", "paintPicture", "()V"⟩, 12) := ⟨⟨by decide +kernel, by decide +kernel⟩, List.mem_of_getElem? (i := 20) (by decide +kernel), List.mem_of_getElem? (i := 446) (by decide +kernel), List.mem_of_getElem? (i := 447) (by decide +kernel)⟩
theorem lw_p11 : lw_okq (⟨"StrokeRaster$Painter", "isNear", "(I)Z"⟩, 3) := ⟨⟨by decide +kernel, by decide +kernel⟩, List.mem_of_getElem? (i := 271) (by decide +kernel), List.mem_of_getElem? (i := 479) (by decide +kernel), List.mem_of_getElem? (i := 480) (by decide +kernel)⟩
theorem lw_p12 : lw_okq (⟨"StrokeRaster$Painter", "paintBody", "(I)V"⟩, 3) := ⟨⟨by decide +kernel, by decide +kernel⟩, List.mem_of_getElem? (i := 271) (by decide +kernel), List.mem_of_getElem? (i := 489) (by decide +kernel), List.mem_of_getElem? (i := 490) (by decide +kernel)⟩
theorem lw_p13 : lw_okq (⟨"StrokeRaster$Grid", "doubledArea", "()J"⟩, 15) := ⟨⟨by decide +kernel, by decide +kernel⟩, List.mem_of_getElem? (i := 218) (by decide +kernel), List.mem_of_getElem? (i := 505) (by decide +kernel), List.mem_of_getElem? (i := 506) (by decide +kernel)⟩
theorem lw_p14 : lw_okq (⟨"StrokeRaster$Grid", "least", "([J)J"⟩, 15) := ⟨⟨by decide +kernel, by decide +kernel⟩, List.mem_of_getElem? (i := 218) (by decide +kernel), List.mem_of_getElem? (i := 509) (by decide +kernel), List.mem_of_getElem? (i := 510) (by decide +kernel)⟩
theorem lw_p15 : lw_okq (⟨"StrokeRaster$Grid", "firstRow", "(J)I"⟩, 15) := ⟨⟨by decide +kernel, by decide +kernel⟩, List.mem_of_getElem? (i := 218) (by decide +kernel), List.mem_of_getElem? (i := 516) (by decide +kernel), List.mem_of_getElem? (i := 517) (by decide +kernel)⟩
def lw_privs_1 : List (MethodName × Nat) := [(⟨"StrokeRaster", "forget", "()V"⟩, 12), (⟨"StrokeRaster$Walker", "passPhase", "()V"⟩, 17), (⟨"StrokeRaster$Walker", "dashAfter", "(I)I"⟩, 17), (⟨"StrokeRaster$Walker", "walkSubpath", "(I)V"⟩, 17), (⟨"StrokeRaster$Walker", "takeSegment", "(II)Z"⟩, 17), (⟨"StrokeRaster$Walker", "offsetPart", "(IJ)I"⟩, 17), (⟨"StrokeRaster$Walker", "cutSegment", "()V"⟩, 17), (⟨"StrokeRaster$Walker", "addPiece", "(II)V"⟩, 17), (⟨"StrokeRaster$Walker", "fineAt", "(III)I"⟩, 17), (⟨"StrokeRaster$Pieces", "grow", "(I)V"⟩, 11), (⟨"StrokeRaster", "paintPicture", "()V"⟩, 12), (⟨"StrokeRaster$Painter", "isNear", "(I)Z"⟩, 3), (⟨"StrokeRaster$Painter", "paintBody", "(I)V"⟩, 3), (⟨"StrokeRaster$Grid", "doubledArea", "()J"⟩, 15), (⟨"StrokeRaster$Grid", "least", "([J)J"⟩, 15), (⟨"StrokeRaster$Grid", "firstRow", "(J)I"⟩, 15)]
theorem lw_r1 : ∀ q ∈ lw_privs_1, lw_okq q := List.forall_mem_cons.mpr ⟨lw_p0, List.forall_mem_cons.mpr ⟨lw_p1, List.forall_mem_cons.mpr ⟨lw_p2, List.forall_mem_cons.mpr ⟨lw_p3, List.forall_mem_cons.mpr ⟨lw_p4, List.forall_mem_cons.mpr ⟨lw_p5, List.forall_mem_cons.mpr ⟨lw_p6, List.forall_mem_cons.mpr ⟨lw_p7, List.forall_mem_cons.mpr ⟨lw_p8, List.forall_mem_cons.mpr ⟨lw_p9, List.forall_mem_cons.mpr ⟨lw_p10, List.forall_mem_cons.mpr ⟨lw_p11, List.forall_mem_cons.mpr ⟨lw_p12, List.forall_mem_cons.mpr ⟨lw_p13, List.forall_mem_cons.mpr ⟨lw_p14, List.forall_mem_cons.mpr ⟨lw_p15, fun _ h => absurd h List.not_mem_nil⟩⟩⟩⟩⟩⟩⟩⟩⟩⟩⟩⟩⟩⟩⟩⟩
theorem lw_p16 : lw_okq (⟨"StrokeRaster$Grid", "greatest", "([J)J"⟩, 15) := ⟨⟨by decide +kernel, by decide +kernel⟩, List.mem_of_getElem? (i := 218) (by decide +kernel), List.mem_of_getElem? (i := 524) (by decide +kernel), List.mem_of_getElem? (i := 525) (by decide +kernel)⟩
theorem lw_p17 : lw_okq (⟨"StrokeRaster$Grid", "lastRow", "(J)I"⟩, 15) := ⟨⟨by decide +kernel, by decide +kernel⟩, List.mem_of_getElem? (i := 218) (by decide +kernel), List.mem_of_getElem? (i := 528) (by decide +kernel), List.mem_of_getElem? (i := 529) (by decide +kernel)⟩
theorem lw_p18 : lw_okq (⟨"StrokeRaster$Grid", "polygonBits", "(J)J"⟩, 15) := ⟨⟨by decide +kernel, by decide +kernel⟩, List.mem_of_getElem? (i := 218) (by decide +kernel), List.mem_of_getElem? (i := 532) (by decide +kernel), List.mem_of_getElem? (i := 533) (by decide +kernel)⟩
theorem lw_p19 : lw_okq (⟨"StrokeRaster$Painter", "paintCaps", "(I)V"⟩, 3) := ⟨⟨by decide +kernel, by decide +kernel⟩, List.mem_of_getElem? (i := 271) (by decide +kernel), List.mem_of_getElem? (i := 536) (by decide +kernel), List.mem_of_getElem? (i := 537) (by decide +kernel)⟩
theorem lw_p20 : lw_okq (⟨"StrokeRaster$Painter", "paintCap", "(IIII)V"⟩, 3) := ⟨⟨by decide +kernel, by decide +kernel⟩, List.mem_of_getElem? (i := 271) (by decide +kernel), List.mem_of_getElem? (i := 540) (by decide +kernel), List.mem_of_getElem? (i := 541) (by decide +kernel)⟩
theorem lw_p21 : lw_okq (⟨"StrokeRaster$Grid", "discBits", "(IJJ)J"⟩, 15) := ⟨⟨by decide +kernel, by decide +kernel⟩, List.mem_of_getElem? (i := 218) (by decide +kernel), List.mem_of_getElem? (i := 549) (by decide +kernel), List.mem_of_getElem? (i := 550) (by decide +kernel)⟩
theorem lw_p22 : lw_okq (⟨"StrokeRaster$Painter", "paintJoin", "(I)V"⟩, 3) := ⟨⟨by decide +kernel, by decide +kernel⟩, List.mem_of_getElem? (i := 271) (by decide +kernel), List.mem_of_getElem? (i := 554) (by decide +kernel), List.mem_of_getElem? (i := 555) (by decide +kernel)⟩
theorem lw_p23 : lw_okq (⟨"StrokeRaster$Painter", "turnSign", "(II)I"⟩, 3) := ⟨⟨by decide +kernel, by decide +kernel⟩, List.mem_of_getElem? (i := 271) (by decide +kernel), List.mem_of_getElem? (i := 558) (by decide +kernel), List.mem_of_getElem? (i := 559) (by decide +kernel)⟩
theorem lw_p24 : lw_okq (⟨"StrokeRaster$Painter", "paintMiter", "(I)V"⟩, 3) := ⟨⟨by decide +kernel, by decide +kernel⟩, List.mem_of_getElem? (i := 271) (by decide +kernel), List.mem_of_getElem? (i := 565) (by decide +kernel), List.mem_of_getElem? (i := 566) (by decide +kernel)⟩
theorem lw_p25 : lw_okq (⟨"StrokeRaster", "countSet", "()I"⟩, 12) := ⟨⟨by decide +kernel, by decide +kernel⟩, List.mem_of_getElem? (i := 20) (by decide +kernel), List.mem_of_getElem? (i := 575) (by decide +kernel), List.mem_of_getElem? (i := 576) (by decide +kernel)⟩
theorem lw_p26 : lw_okq (⟨"java/lang/Throwable", "fillInStackTrace", "(I)Ljava/lang/Throwable;"⟩, 6) := ⟨⟨by decide +kernel, by decide +kernel⟩, List.mem_of_getElem? (i := 635) (by decide +kernel), List.mem_of_getElem? (i := 633) (by decide +kernel), List.mem_of_getElem? (i := 634) (by decide +kernel)⟩
theorem lw_p27 : lw_okq (⟨"StrokeRasterModel", "refused", "(I)Z"⟩, 38) := ⟨⟨by decide +kernel, by decide +kernel⟩, List.mem_of_getElem? (i := 828) (by decide +kernel), List.mem_of_getElem? (i := 963) (by decide +kernel), List.mem_of_getElem? (i := 964) (by decide +kernel)⟩
theorem lw_p28 : lw_okq (⟨"StrokeRasterModel", "add", "(II)V"⟩, 38) := ⟨⟨by decide +kernel, by decide +kernel⟩, List.mem_of_getElem? (i := 828) (by decide +kernel), List.mem_of_getElem? (i := 967) (by decide +kernel), List.mem_of_getElem? (i := 968) (by decide +kernel)⟩
theorem lw_p29 : lw_okq (⟨"StrokeRasterModel", "isOpen", "()Z"⟩, 38) := ⟨⟨by decide +kernel, by decide +kernel⟩, List.mem_of_getElem? (i := 828) (by decide +kernel), List.mem_of_getElem? (i := 975) (by decide +kernel), List.mem_of_getElem? (i := 976) (by decide +kernel)⟩
theorem lw_p30 : lw_okq (⟨"StrokeRasterModel", "closedOnes", "()I"⟩, 38) := ⟨⟨by decide +kernel, by decide +kernel⟩, List.mem_of_getElem? (i := 828) (by decide +kernel), List.mem_of_getElem? (i := 994) (by decide +kernel), List.mem_of_getElem? (i := 995) (by decide +kernel)⟩
theorem lw_p31 : lw_okq (⟨"StrokeRasterModel", "findPieces", "()V"⟩, 38) := ⟨⟨by decide +kernel, by decide +kernel⟩, List.mem_of_getElem? (i := 828) (by decide +kernel), List.mem_of_getElem? (i := 1019) (by decide +kernel), List.mem_of_getElem? (i := 1020) (by decide +kernel)⟩
def lw_privs_2 : List (MethodName × Nat) := [(⟨"StrokeRaster$Grid", "greatest", "([J)J"⟩, 15), (⟨"StrokeRaster$Grid", "lastRow", "(J)I"⟩, 15), (⟨"StrokeRaster$Grid", "polygonBits", "(J)J"⟩, 15), (⟨"StrokeRaster$Painter", "paintCaps", "(I)V"⟩, 3), (⟨"StrokeRaster$Painter", "paintCap", "(IIII)V"⟩, 3), (⟨"StrokeRaster$Grid", "discBits", "(IJJ)J"⟩, 15), (⟨"StrokeRaster$Painter", "paintJoin", "(I)V"⟩, 3), (⟨"StrokeRaster$Painter", "turnSign", "(II)I"⟩, 3), (⟨"StrokeRaster$Painter", "paintMiter", "(I)V"⟩, 3), (⟨"StrokeRaster", "countSet", "()I"⟩, 12), (⟨"java/lang/Throwable", "fillInStackTrace", "(I)Ljava/lang/Throwable;"⟩, 6), (⟨"StrokeRasterModel", "refused", "(I)Z"⟩, 38), (⟨"StrokeRasterModel", "add", "(II)V"⟩, 38), (⟨"StrokeRasterModel", "isOpen", "()Z"⟩, 38), (⟨"StrokeRasterModel", "closedOnes", "()I"⟩, 38), (⟨"StrokeRasterModel", "findPieces", "()V"⟩, 38)]
theorem lw_r2 : ∀ q ∈ lw_privs_2, lw_okq q := List.forall_mem_cons.mpr ⟨lw_p16, List.forall_mem_cons.mpr ⟨lw_p17, List.forall_mem_cons.mpr ⟨lw_p18, List.forall_mem_cons.mpr ⟨lw_p19, List.forall_mem_cons.mpr ⟨lw_p20, List.forall_mem_cons.mpr ⟨lw_p21, List.forall_mem_cons.mpr ⟨lw_p22, List.forall_mem_cons.mpr ⟨lw_p23, List.forall_mem_cons.mpr ⟨lw_p24, List.forall_mem_cons.mpr ⟨lw_p25, List.forall_mem_cons.mpr ⟨lw_p26, List.forall_mem_cons.mpr ⟨lw_p27, List.forall_mem_cons.mpr ⟨lw_p28, List.forall_mem_cons.mpr ⟨lw_p29, List.forall_mem_cons.mpr ⟨lw_p30, List.forall_mem_cons.mpr ⟨lw_p31, fun _ h => absurd h List.not_mem_nil⟩⟩⟩⟩⟩⟩⟩⟩⟩⟩⟩⟩⟩⟩⟩⟩
theorem lw_p32 : lw_okq (⟨"StrokeRasterModel", "hasDashes", "()Z"⟩, 38) := ⟨⟨by decide +kernel, by decide +kernel⟩, List.mem_of_getElem? (i := 828) (by decide +kernel), List.mem_of_getElem? (i := 1023) (by decide +kernel), List.mem_of_getElem? (i := 1024) (by decide +kernel)⟩
theorem lw_p33 : lw_okq (⟨"StrokeRasterModel", "leave", "(I)V"⟩, 38) := ⟨⟨by decide +kernel, by decide +kernel⟩, List.mem_of_getElem? (i := 828) (by decide +kernel), List.mem_of_getElem? (i := 1027) (by decide +kernel), List.mem_of_getElem? (i := 1028) (by decide +kernel)⟩
theorem lw_p34 : lw_okq (⟨"StrokeRasterModel", "piece", "(JJJJZ)V"⟩, 38) := ⟨⟨by decide +kernel, by decide +kernel⟩, List.mem_of_getElem? (i := 828) (by decide +kernel), List.mem_of_getElem? (i := 1032) (by decide +kernel), List.mem_of_getElem? (i := 1033) (by decide +kernel)⟩
theorem lw_p35 : lw_okq (⟨"StrokeRasterModel", "dashPieces", "(I)V"⟩, 38) := ⟨⟨by decide +kernel, by decide +kernel⟩, List.mem_of_getElem? (i := 828) (by decide +kernel), List.mem_of_getElem? (i := 1036) (by decide +kernel), List.mem_of_getElem? (i := 1037) (by decide +kernel)⟩
theorem lw_p36 : lw_okq (⟨"StrokeRasterModel", "firstDash", "()V"⟩, 38) := ⟨⟨by decide +kernel, by decide +kernel⟩, List.mem_of_getElem? (i := 828) (by decide +kernel), List.mem_of_getElem? (i := 1040) (by decide +kernel), List.mem_of_getElem? (i := 1041) (by decide +kernel)⟩
theorem lw_p37 : lw_okq (⟨"StrokeRasterModel", "dashSegment", "(I)V"⟩, 38) := ⟨⟨by decide +kernel, by decide +kernel⟩, List.mem_of_getElem? (i := 828) (by decide +kernel), List.mem_of_getElem? (i := 1045) (by decide +kernel), List.mem_of_getElem? (i := 1046) (by decide +kernel)⟩
theorem lw_p38 : lw_okq (⟨"StrokeRasterModel", "offset", "(JJ)V"⟩, 38) := ⟨⟨by decide +kernel, by decide +kernel⟩, List.mem_of_getElem? (i := 828) (by decide +kernel), List.mem_of_getElem? (i := 1049) (by decide +kernel), List.mem_of_getElem? (i := 1050) (by decide +kernel)⟩
theorem lw_p39 : lw_okq (⟨"StrokeRasterModel", "half", "()J"⟩, 38) := ⟨⟨by decide +kernel, by decide +kernel⟩, List.mem_of_getElem? (i := 828) (by decide +kernel), List.mem_of_getElem? (i := 1054) (by decide +kernel), List.mem_of_getElem? (i := 1055) (by decide +kernel)⟩
theorem lw_p40 : lw_okq (⟨"StrokeRasterModel", "dashPiece", "(IIJJJ)V"⟩, 38) := ⟨⟨by decide +kernel, by decide +kernel⟩, List.mem_of_getElem? (i := 828) (by decide +kernel), List.mem_of_getElem? (i := 1068) (by decide +kernel), List.mem_of_getElem? (i := 1069) (by decide +kernel)⟩
theorem lw_p41 : lw_okq (⟨"StrokeRasterModel", "endChain", "()V"⟩, 38) := ⟨⟨by decide +kernel, by decide +kernel⟩, List.mem_of_getElem? (i := 828) (by decide +kernel), List.mem_of_getElem? (i := 1076) (by decide +kernel), List.mem_of_getElem? (i := 1077) (by decide +kernel)⟩
theorem lw_p42 : lw_okq (⟨"StrokeRasterModel", "plainPieces", "(I)V"⟩, 38) := ⟨⟨by decide +kernel, by decide +kernel⟩, List.mem_of_getElem? (i := 828) (by decide +kernel), List.mem_of_getElem? (i := 1080) (by decide +kernel), List.mem_of_getElem? (i := 1081) (by decide +kernel)⟩
theorem lw_p43 : lw_okq (⟨"StrokeRasterModel", "setPixels", "()I"⟩, 38) := ⟨⟨by decide +kernel, by decide +kernel⟩, List.mem_of_getElem? (i := 828) (by decide +kernel), List.mem_of_getElem? (i := 1084) (by decide +kernel), List.mem_of_getElem? (i := 1085) (by decide +kernel)⟩
theorem lw_p44 : lw_okq (⟨"StrokeRasterModel", "isSet", "(II)Z"⟩, 38) := ⟨⟨by decide +kernel, by decide +kernel⟩, List.mem_of_getElem? (i := 828) (by decide +kernel), List.mem_of_getElem? (i := 1088) (by decide +kernel), List.mem_of_getElem? (i := 1089) (by decide +kernel)⟩
theorem lw_p45 : lw_okq (⟨"StrokeRasterModel", "covers", "(II)Z"⟩, 38) := ⟨⟨by decide +kernel, by decide +kernel⟩, List.mem_of_getElem? (i := 828) (by decide +kernel), List.mem_of_getElem? (i := 1092) (by decide +kernel), List.mem_of_getElem? (i := 1093) (by decide +kernel)⟩
theorem lw_p46 : lw_okq (⟨"StrokeRasterModel", "inPiece", "(IJJ)Z"⟩, 38) := ⟨⟨by decide +kernel, by decide +kernel⟩, List.mem_of_getElem? (i := 828) (by decide +kernel), List.mem_of_getElem? (i := 1096) (by decide +kernel), List.mem_of_getElem? (i := 1097) (by decide +kernel)⟩
theorem lw_p47 : lw_okq (⟨"StrokeRasterModel", "inDisc", "(JJJJ)Z"⟩, 38) := ⟨⟨by decide +kernel, by decide +kernel⟩, List.mem_of_getElem? (i := 828) (by decide +kernel), List.mem_of_getElem? (i := 1100) (by decide +kernel), List.mem_of_getElem? (i := 1101) (by decide +kernel)⟩
def lw_privs_3 : List (MethodName × Nat) := [(⟨"StrokeRasterModel", "hasDashes", "()Z"⟩, 38), (⟨"StrokeRasterModel", "leave", "(I)V"⟩, 38), (⟨"StrokeRasterModel", "piece", "(JJJJZ)V"⟩, 38), (⟨"StrokeRasterModel", "dashPieces", "(I)V"⟩, 38), (⟨"StrokeRasterModel", "firstDash", "()V"⟩, 38), (⟨"StrokeRasterModel", "dashSegment", "(I)V"⟩, 38), (⟨"StrokeRasterModel", "offset", "(JJ)V"⟩, 38), (⟨"StrokeRasterModel", "half", "()J"⟩, 38), (⟨"StrokeRasterModel", "dashPiece", "(IIJJJ)V"⟩, 38), (⟨"StrokeRasterModel", "endChain", "()V"⟩, 38), (⟨"StrokeRasterModel", "plainPieces", "(I)V"⟩, 38), (⟨"StrokeRasterModel", "setPixels", "()I"⟩, 38), (⟨"StrokeRasterModel", "isSet", "(II)Z"⟩, 38), (⟨"StrokeRasterModel", "covers", "(II)Z"⟩, 38), (⟨"StrokeRasterModel", "inPiece", "(IJJ)Z"⟩, 38), (⟨"StrokeRasterModel", "inDisc", "(JJJJ)Z"⟩, 38)]
theorem lw_r3 : ∀ q ∈ lw_privs_3, lw_okq q := List.forall_mem_cons.mpr ⟨lw_p32, List.forall_mem_cons.mpr ⟨lw_p33, List.forall_mem_cons.mpr ⟨lw_p34, List.forall_mem_cons.mpr ⟨lw_p35, List.forall_mem_cons.mpr ⟨lw_p36, List.forall_mem_cons.mpr ⟨lw_p37, List.forall_mem_cons.mpr ⟨lw_p38, List.forall_mem_cons.mpr ⟨lw_p39, List.forall_mem_cons.mpr ⟨lw_p40, List.forall_mem_cons.mpr ⟨lw_p41, List.forall_mem_cons.mpr ⟨lw_p42, List.forall_mem_cons.mpr ⟨lw_p43, List.forall_mem_cons.mpr ⟨lw_p44, List.forall_mem_cons.mpr ⟨lw_p45, List.forall_mem_cons.mpr ⟨lw_p46, List.forall_mem_cons.mpr ⟨lw_p47, fun _ h => absurd h List.not_mem_nil⟩⟩⟩⟩⟩⟩⟩⟩⟩⟩⟩⟩⟩⟩⟩⟩
theorem lw_p48 : lw_okq (⟨"StrokeRasterModel", "inBody", "(IJJ)Z"⟩, 38) := ⟨⟨by decide +kernel, by decide +kernel⟩, List.mem_of_getElem? (i := 828) (by decide +kernel), List.mem_of_getElem? (i := 1104) (by decide +kernel), List.mem_of_getElem? (i := 1105) (by decide +kernel)⟩
theorem lw_p49 : lw_okq (⟨"StrokeRasterModel", "corner", "(IJJ)V"⟩, 38) := ⟨⟨by decide +kernel, by decide +kernel⟩, List.mem_of_getElem? (i := 828) (by decide +kernel), List.mem_of_getElem? (i := 1108) (by decide +kernel), List.mem_of_getElem? (i := 1109) (by decide +kernel)⟩
theorem lw_p50 : lw_okq (⟨"StrokeRasterModel", "inPolygon", "(IJJ)Z"⟩, 38) := ⟨⟨by decide +kernel, by decide +kernel⟩, List.mem_of_getElem? (i := 828) (by decide +kernel), List.mem_of_getElem? (i := 1112) (by decide +kernel), List.mem_of_getElem? (i := 1113) (by decide +kernel)⟩
theorem lw_p51 : lw_okq (⟨"StrokeRasterModel", "inCap", "(IJJIJJ)Z"⟩, 38) := ⟨⟨by decide +kernel, by decide +kernel⟩, List.mem_of_getElem? (i := 828) (by decide +kernel), List.mem_of_getElem? (i := 1119) (by decide +kernel), List.mem_of_getElem? (i := 1120) (by decide +kernel)⟩
theorem lw_p52 : lw_okq (⟨"StrokeRasterModel", "inJoin", "(IIJJ)Z"⟩, 38) := ⟨⟨by decide +kernel, by decide +kernel⟩, List.mem_of_getElem? (i := 828) (by decide +kernel), List.mem_of_getElem? (i := 1123) (by decide +kernel), List.mem_of_getElem? (i := 1124) (by decide +kernel)⟩
def lw_privs_4 : List (MethodName × Nat) := [(⟨"StrokeRasterModel", "inBody", "(IJJ)Z"⟩, 38), (⟨"StrokeRasterModel", "corner", "(IJJ)V"⟩, 38), (⟨"StrokeRasterModel", "inPolygon", "(IJJ)Z"⟩, 38), (⟨"StrokeRasterModel", "inCap", "(IJJIJJ)Z"⟩, 38), (⟨"StrokeRasterModel", "inJoin", "(IIJJ)Z"⟩, 38)]
theorem lw_r4 : ∀ q ∈ lw_privs_4, lw_okq q := List.forall_mem_cons.mpr ⟨lw_p48, List.forall_mem_cons.mpr ⟨lw_p49, List.forall_mem_cons.mpr ⟨lw_p50, List.forall_mem_cons.mpr ⟨lw_p51, List.forall_mem_cons.mpr ⟨lw_p52, fun _ h => absurd h List.not_mem_nil⟩⟩⟩⟩⟩
def lw_privs : List (MethodName × Nat) := lw_privs_1 ++ (lw_privs_2 ++ (lw_privs_3 ++ (lw_privs_4)))
def lw_tbl : List Cond := k2_sels lw_privs ++ tables_1
theorem lw_privs_ok : ∀ q ∈ lw_privs, lw_okq q := by
  show ∀ q ∈ lw_privs_1 ++ (lw_privs_2 ++ (lw_privs_3 ++ (lw_privs_4))), lw_okq q
  exact List.forall_mem_append.mpr ⟨lw_r1, List.forall_mem_append.mpr ⟨lw_r2, List.forall_mem_append.mpr ⟨lw_r3, lw_r4⟩⟩⟩
end
section
/-! names of classes, fields and methods -/
abbrev R_SR : String := "StrokeRaster"
abbrev R_Grid : String := "StrokeRaster$Grid"
abbrev R_Painter : String := "StrokeRaster$Painter"
abbrev R_Path : String := "StrokeRaster$Path"
abbrev R_Pen : String := "StrokeRaster$Pen"
abbrev R_Pieces : String := "StrokeRaster$Pieces"
abbrev R_Walker : String := "StrokeRaster$Walker"
abbrev R_Mo : String := "StrokeRasterModel"
abbrev R_La : String := "StrokeRasterLaw"
abbrev R_Math : String := "java/lang/Math"
abbrev R_Long : String := "java/lang/Long"
abbrev R_Arr : String := "java/util/Arrays"
abbrev R_Sys : String := "java/lang/System"
def F_Grid : u_T := fun k => match k with
  | 0 => ("StrokeRaster$Grid", "rows", "[J", true)
  | 1 => ("StrokeRaster$Grid", "startX", "I", false)
  | 2 => ("StrokeRaster$Grid", "stepX", "I", false)
  | 3 => ("StrokeRaster$Grid", "wide", "I", false)
  | 4 => ("StrokeRaster$Grid", "startY", "I", false)
  | 5 => ("StrokeRaster$Grid", "stepY", "I", false)
  | 6 => ("StrokeRaster$Grid", "high", "I", false)
  | 7 => ("StrokeRaster$Grid", "wholeRow", "J", false)
  | 8 => ("StrokeRaster$Grid", "filledRows", "I", false)
  | 9 => ("StrokeRaster$Grid", "xs", "[J", true)
  | 10 => ("StrokeRaster$Grid", "ys", "[J", true)
  | 11 => ("StrokeRaster$Grid", "corners", "I", false)
  | 12 => ("StrokeRaster$Grid", "originX", "I", false)
  | 13 => ("StrokeRaster$Grid", "originY", "I", false)
  | _ => ("StrokeRaster$Grid", "turn", "J", false)
def t_Grid : Nat → FieldType := fun k => match k with
  | 0 => .array .long
  | 1 => .int
  | 2 => .int
  | 3 => .int
  | 4 => .int
  | 5 => .int
  | 6 => .int
  | 7 => .long
  | 8 => .int
  | 9 => .array .long
  | 10 => .array .long
  | 11 => .int
  | 12 => .int
  | 13 => .int
  | _ => .long
theorem n_Grid : ∀ a, a < 15 → ∀ b, b < 15 → a ≠ b → (F_Grid a).2.1 ≠ (F_Grid b).2.1 := by decide +kernel
theorem t_Grid_ok : ∀ k, k < 15 → parseFieldDescriptor (F_Grid k).2.2.1 = some (t_Grid k) := by decide +kernel
def F_Painter : u_T := fun k => match k with
  | 0 => ("StrokeRaster$Painter", "pen", "LStrokeRaster$Pen;", true)
  | 1 => ("StrokeRaster$Painter", "pieces", "LStrokeRaster$Pieces;", true)
  | _ => ("StrokeRaster$Painter", "grid", "LStrokeRaster$Grid;", true)
def t_Painter : Nat → FieldType := fun k => match k with
  | 0 => .object "StrokeRaster$Pen"
  | 1 => .object "StrokeRaster$Pieces"
  | _ => .object "StrokeRaster$Grid"
theorem n_Painter : ∀ a, a < 3 → ∀ b, b < 3 → a ≠ b → (F_Painter a).2.1 ≠ (F_Painter b).2.1 := by decide +kernel
theorem t_Painter_ok : ∀ k, k < 3 → parseFieldDescriptor (F_Painter k).2.2.1 = some (t_Painter k) := by decide +kernel
def F_Path : u_T := fun k => match k with
  | 0 => ("StrokeRaster$Path", "xs", "[I", false)
  | 1 => ("StrokeRaster$Path", "ys", "[I", false)
  | 2 => ("StrokeRaster$Path", "points", "I", false)
  | 3 => ("StrokeRaster$Path", "firsts", "[I", true)
  | 4 => ("StrokeRaster$Path", "shut", "[Z", true)
  | 5 => ("StrokeRaster$Path", "subpaths", "I", false)
  | _ => ("StrokeRaster$Path", "shutOnes", "I", false)
def t_Path : Nat → FieldType := fun k => match k with
  | 0 => .array .int
  | 1 => .array .int
  | 2 => .int
  | 3 => .array .int
  | 4 => .array .boolean
  | 5 => .int
  | _ => .int
theorem n_Path : ∀ a, a < 7 → ∀ b, b < 7 → a ≠ b → (F_Path a).2.1 ≠ (F_Path b).2.1 := by decide +kernel
theorem t_Path_ok : ∀ k, k < 7 → parseFieldDescriptor (F_Path k).2.2.1 = some (t_Path k) := by decide +kernel
def F_Pen : u_T := fun k => match k with
  | 0 => ("StrokeRaster$Pen", "half", "I", false)
  | 1 => ("StrokeRaster$Pen", "caps", "I", false)
  | 2 => ("StrokeRaster$Pen", "joins", "I", false)
  | 3 => ("StrokeRaster$Pen", "limit", "I", false)
  | 4 => ("StrokeRaster$Pen", "lengths", "[I", true)
  | 5 => ("StrokeRaster$Pen", "dashes", "I", false)
  | 6 => ("StrokeRaster$Pen", "phase", "I", false)
  | _ => ("StrokeRaster$Pen", "wholeLength", "I", false)
def t_Pen : Nat → FieldType := fun k => match k with
  | 0 => .int
  | 1 => .int
  | 2 => .int
  | 3 => .int
  | 4 => .array .int
  | 5 => .int
  | 6 => .int
  | _ => .int
theorem n_Pen : ∀ a, a < 8 → ∀ b, b < 8 → a ≠ b → (F_Pen a).2.1 ≠ (F_Pen b).2.1 := by decide +kernel
theorem t_Pen_ok : ∀ k, k < 8 → parseFieldDescriptor (F_Pen k).2.2.1 = some (t_Pen k) := by decide +kernel
def F_Pieces : u_T := fun k => match k with
  | 0 => ("StrokeRaster$Pieces", "ax", "[I", false)
  | 1 => ("StrokeRaster$Pieces", "ay", "[I", false)
  | 2 => ("StrokeRaster$Pieces", "bx", "[I", false)
  | 3 => ("StrokeRaster$Pieces", "by", "[I", false)
  | 4 => ("StrokeRaster$Pieces", "ox", "[I", false)
  | 5 => ("StrokeRaster$Pieces", "oy", "[I", false)
  | 6 => ("StrokeRaster$Pieces", "before", "[I", false)
  | 7 => ("StrokeRaster$Pieces", "kind", "[I", false)
  | 8 => ("StrokeRaster$Pieces", "held", "I", false)
  | 9 => ("StrokeRaster$Pieces", "full", "Z", false)
  | _ => ("StrokeRaster$Pieces", "last", "I", false)
def t_Pieces : Nat → FieldType := fun k => match k with
  | 0 => .array .int
  | 1 => .array .int
  | 2 => .array .int
  | 3 => .array .int
  | 4 => .array .int
  | 5 => .array .int
  | 6 => .array .int
  | 7 => .array .int
  | 8 => .int
  | 9 => .boolean
  | _ => .int
theorem n_Pieces : ∀ a, a < 11 → ∀ b, b < 11 → a ≠ b → (F_Pieces a).2.1 ≠ (F_Pieces b).2.1 := by decide +kernel
theorem t_Pieces_ok : ∀ k, k < 11 → parseFieldDescriptor (F_Pieces k).2.2.1 = some (t_Pieces k) := by decide +kernel
def F_Walker : u_T := fun k => match k with
  | 0 => ("StrokeRaster$Walker", "path", "LStrokeRaster$Path;", true)
  | 1 => ("StrokeRaster$Walker", "pen", "LStrokeRaster$Pen;", true)
  | 2 => ("StrokeRaster$Walker", "pieces", "LStrokeRaster$Pieces;", true)
  | 3 => ("StrokeRaster$Walker", "fresh", "Z", false)
  | 4 => ("StrokeRaster$Walker", "startDash", "I", false)
  | 5 => ("StrokeRaster$Walker", "startOn", "Z", false)
  | 6 => ("StrokeRaster$Walker", "startRest", "I", false)
  | 7 => ("StrokeRaster$Walker", "dash", "I", false)
  | 8 => ("StrokeRaster$Walker", "on", "Z", false)
  | 9 => ("StrokeRaster$Walker", "rest", "I", false)
  | 10 => ("StrokeRaster$Walker", "fromX", "I", false)
  | 11 => ("StrokeRaster$Walker", "fromY", "I", false)
  | 12 => ("StrokeRaster$Walker", "alongX", "I", false)
  | 13 => ("StrokeRaster$Walker", "alongY", "I", false)
  | 14 => ("StrokeRaster$Walker", "offsetX", "I", false)
  | 15 => ("StrokeRaster$Walker", "offsetY", "I", false)
  | _ => ("StrokeRaster$Walker", "length", "I", false)
def t_Walker : Nat → FieldType := fun k => match k with
  | 0 => .object "StrokeRaster$Path"
  | 1 => .object "StrokeRaster$Pen"
  | 2 => .object "StrokeRaster$Pieces"
  | 3 => .boolean
  | 4 => .int
  | 5 => .boolean
  | 6 => .int
  | 7 => .int
  | 8 => .boolean
  | 9 => .int
  | 10 => .int
  | 11 => .int
  | 12 => .int
  | 13 => .int
  | 14 => .int
  | 15 => .int
  | _ => .int
theorem n_Walker : ∀ a, a < 17 → ∀ b, b < 17 → a ≠ b → (F_Walker a).2.1 ≠ (F_Walker b).2.1 := by decide +kernel
theorem t_Walker_ok : ∀ k, k < 17 → parseFieldDescriptor (F_Walker k).2.2.1 = some (t_Walker k) := by decide +kernel
def F_SR : u_T := fun k => match k with
  | 0 => ("StrokeRaster", "path", "LStrokeRaster$Path;", true)
  | 1 => ("StrokeRaster", "tool", "LStrokeRaster$Pen;", true)
  | 2 => ("StrokeRaster", "pieces", "LStrokeRaster$Pieces;", true)
  | 3 => ("StrokeRaster", "walker", "LStrokeRaster$Walker;", true)
  | 4 => ("StrokeRaster", "grid", "LStrokeRaster$Grid;", true)
  | 5 => ("StrokeRaster", "painter", "LStrokeRaster$Painter;", true)
  | 6 => ("StrokeRaster", "picture", "[J", true)
  | 7 => ("StrokeRaster", "known", "J", false)
  | 8 => ("StrokeRaster", "firstControlX", "I", false)
  | 9 => ("StrokeRaster", "firstControlY", "I", false)
  | 10 => ("StrokeRaster", "secondControlX", "I", false)
  | _ => ("StrokeRaster", "secondControlY", "I", false)
def t_SR : Nat → FieldType := fun k => match k with
  | 0 => .object "StrokeRaster$Path"
  | 1 => .object "StrokeRaster$Pen"
  | 2 => .object "StrokeRaster$Pieces"
  | 3 => .object "StrokeRaster$Walker"
  | 4 => .object "StrokeRaster$Grid"
  | 5 => .object "StrokeRaster$Painter"
  | 6 => .array .long
  | 7 => .long
  | 8 => .int
  | 9 => .int
  | 10 => .int
  | _ => .int
theorem n_SR : ∀ a, a < 12 → ∀ b, b < 12 → a ≠ b → (F_SR a).2.1 ≠ (F_SR b).2.1 := by decide +kernel
theorem t_SR_ok : ∀ k, k < 12 → parseFieldDescriptor (F_SR k).2.2.1 = some (t_SR k) := by decide +kernel
def F_Mo : u_T := fun k => match k with
  | 0 => ("StrokeRasterModel", "fault", "I", false)
  | 1 => ("StrokeRasterModel", "points", "I", false)
  | 2 => ("StrokeRasterModel", "xs", "[I", true)
  | 3 => ("StrokeRasterModel", "ys", "[I", true)
  | 4 => ("StrokeRasterModel", "subpaths", "I", false)
  | 5 => ("StrokeRasterModel", "begins", "[I", true)
  | 6 => ("StrokeRasterModel", "closed", "[Z", true)
  | 7 => ("StrokeRasterModel", "goes", "[Z", true)
  | 8 => ("StrokeRasterModel", "controls", "[I", true)
  | 9 => ("StrokeRasterModel", "width", "I", false)
  | 10 => ("StrokeRasterModel", "caps", "I", false)
  | 11 => ("StrokeRasterModel", "joins", "I", false)
  | 12 => ("StrokeRasterModel", "limit", "I", false)
  | 13 => ("StrokeRasterModel", "dashes", "I", false)
  | 14 => ("StrokeRasterModel", "lengths", "[I", true)
  | 15 => ("StrokeRasterModel", "phase", "I", false)
  | 16 => ("StrokeRasterModel", "left", "I", false)
  | 17 => ("StrokeRasterModel", "lx", "[I", true)
  | 18 => ("StrokeRasterModel", "ly", "[I", true)
  | 19 => ("StrokeRasterModel", "pieces", "I", false)
  | 20 => ("StrokeRasterModel", "ax", "[I", true)
  | 21 => ("StrokeRasterModel", "ay", "[I", true)
  | 22 => ("StrokeRasterModel", "bx", "[I", true)
  | 23 => ("StrokeRasterModel", "by", "[I", true)
  | 24 => ("StrokeRasterModel", "ox", "[I", true)
  | 25 => ("StrokeRasterModel", "oy", "[I", true)
  | 26 => ("StrokeRasterModel", "isFirst", "[Z", true)
  | 27 => ("StrokeRasterModel", "isLast", "[Z", true)
  | 28 => ("StrokeRasterModel", "closesAt", "[I", true)
  | 29 => ("StrokeRasterModel", "isDot", "[Z", true)
  | 30 => ("StrokeRasterModel", "dash", "I", false)
  | 31 => ("StrokeRasterModel", "on", "Z", false)
  | 32 => ("StrokeRasterModel", "rest", "J", false)
  | 33 => ("StrokeRasterModel", "inChain", "Z", false)
  | 34 => ("StrokeRasterModel", "offX", "I", false)
  | 35 => ("StrokeRasterModel", "offY", "I", false)
  | 36 => ("StrokeRasterModel", "cornerX", "[J", true)
  | _ => ("StrokeRasterModel", "cornerY", "[J", true)
def t_Mo : Nat → FieldType := fun k => match k with
  | 0 => .int
  | 1 => .int
  | 2 => .array .int
  | 3 => .array .int
  | 4 => .int
  | 5 => .array .int
  | 6 => .array .boolean
  | 7 => .array .boolean
  | 8 => .array .int
  | 9 => .int
  | 10 => .int
  | 11 => .int
  | 12 => .int
  | 13 => .int
  | 14 => .array .int
  | 15 => .int
  | 16 => .int
  | 17 => .array .int
  | 18 => .array .int
  | 19 => .int
  | 20 => .array .int
  | 21 => .array .int
  | 22 => .array .int
  | 23 => .array .int
  | 24 => .array .int
  | 25 => .array .int
  | 26 => .array .boolean
  | 27 => .array .boolean
  | 28 => .array .int
  | 29 => .array .boolean
  | 30 => .int
  | 31 => .boolean
  | 32 => .long
  | 33 => .boolean
  | 34 => .int
  | 35 => .int
  | 36 => .array .long
  | _ => .array .long
theorem n_Mo : ∀ a, a < 38 → ∀ b, b < 38 → a ≠ b → (F_Mo a).2.1 ≠ (F_Mo b).2.1 := by decide +kernel
theorem t_Mo_ok : ∀ k, k < 38 → parseFieldDescriptor (F_Mo k).2.2.1 = some (t_Mo k) := by decide +kernel
abbrev classes : List vw_C := [(R_Grid, F_Grid, 15), (R_Painter, F_Painter, 3), (R_Path, F_Path, 7), (R_Pen, F_Pen, 8), (R_Pieces, F_Pieces, 11), (R_Walker, F_Walker, 17), (R_SR, F_SR, 12), (R_Mo, F_Mo, 38)]
abbrev b_SR_init : ByteArray := prog_1_method_1_code
abbrev y_SR_init : MethodName := ⟨R_SR, "<init>", "()V"⟩
abbrev b_Path_init : ByteArray := prog_4_method_1_code
abbrev y_Path_init : MethodName := ⟨R_Path, "<init>", "()V"⟩
abbrev b_Pen_init : ByteArray := prog_5_method_1_code
abbrev y_Pen_init : MethodName := ⟨R_Pen, "<init>", "()V"⟩
abbrev b_Pieces_init : ByteArray := prog_6_method_1_code
abbrev y_Pieces_init : MethodName := ⟨R_Pieces, "<init>", "()V"⟩
abbrev b_Walker_init : ByteArray := prog_7_method_1_code
abbrev y_Walker_init : MethodName := ⟨R_Walker, "<init>", "(LStrokeRaster$Path;LStrokeRaster$Pen;LStrokeRaster$Pieces;)V"⟩
abbrev b_Grid_init : ByteArray := prog_2_method_1_code
abbrev y_Grid_init : MethodName := ⟨R_Grid, "<init>", "()V"⟩
abbrev b_Painter_init : ByteArray := prog_3_method_1_code
abbrev y_Painter_init : MethodName := ⟨R_Painter, "<init>", "(LStrokeRaster$Pen;LStrokeRaster$Pieces;LStrokeRaster$Grid;)V"⟩
abbrev b_SR_clear : ByteArray := prog_1_method_7_code
abbrev y_SR_clear : MethodName := ⟨R_SR, "clear", "()I"⟩
abbrev b_Path_drop : ByteArray := prog_4_method_9_code
abbrev y_Path_drop : MethodName := ⟨R_Path, "drop", "()V"⟩
abbrev b_SR_forget : ByteArray := prog_1_method_18_code
abbrev y_SR_forget : MethodName := ⟨R_SR, "forget", "()V"⟩
abbrev b_Walker_forget : ByteArray := prog_7_method_2_code
abbrev y_Walker_forget : MethodName := ⟨R_Walker, "forget", "()V"⟩
abbrev b_SR_count : ByteArray := prog_1_method_11_code
abbrev y_SR_count : MethodName := ⟨R_SR, "count", "(I)I"⟩
abbrev b_Walker_walk : ByteArray := prog_7_method_3_code
abbrev y_Walker_walk : MethodName := ⟨R_Walker, "walk", "()V"⟩
abbrev b_Pieces_drop : ByteArray := prog_6_method_2_code
abbrev y_Pieces_drop : MethodName := ⟨R_Pieces, "drop", "()V"⟩
abbrev b_Walker_passPhase : ByteArray := prog_7_method_4_code
abbrev y_Walker_passPhase : MethodName := ⟨R_Walker, "passPhase", "()V"⟩
abbrev b_Math_floorMod_III : ByteArray := prog_16_method_50_code
abbrev y_Math_floorMod_III : MethodName := ⟨R_Math, "floorMod", "(II)I"⟩
abbrev b_Walker_dashAfter : ByteArray := prog_7_method_5_code
abbrev y_Walker_dashAfter : MethodName := ⟨R_Walker, "dashAfter", "(I)I"⟩
abbrev b_Walker_walkSubpath : ByteArray := prog_7_method_6_code
abbrev y_Walker_walkSubpath : MethodName := ⟨R_Walker, "walkSubpath", "(I)V"⟩
abbrev b_Path_behind : ByteArray := prog_4_method_10_code
abbrev y_Path_behind : MethodName := ⟨R_Path, "behind", "(I)I"⟩
abbrev b_Pen_isDashed : ByteArray := prog_5_method_5_code
abbrev y_Pen_isDashed : MethodName := ⟨R_Pen, "isDashed", "()Z"⟩
abbrev b_Walker_takeSegment : ByteArray := prog_7_method_7_code
abbrev y_Walker_takeSegment : MethodName := ⟨R_Walker, "takeSegment", "(II)Z"⟩
abbrev b_Walker_offsetPart : ByteArray := prog_7_method_8_code
abbrev y_Walker_offsetPart : MethodName := ⟨R_Walker, "offsetPart", "(IJ)I"⟩
abbrev b_SR_root : ByteArray := prog_1_method_21_code
abbrev y_SR_root : MethodName := ⟨R_SR, "root", "(J)J"⟩
abbrev b_Walker_cutSegment : ByteArray := prog_7_method_9_code
abbrev y_Walker_cutSegment : MethodName := ⟨R_Walker, "cutSegment", "()V"⟩
abbrev b_Math_min_III : ByteArray := prog_16_method_69_code
abbrev y_Math_min_III : MethodName := ⟨R_Math, "min", "(II)I"⟩
abbrev b_Walker_addPiece : ByteArray := prog_7_method_10_code
abbrev y_Walker_addPiece : MethodName := ⟨R_Walker, "addPiece", "(II)V"⟩
abbrev b_Walker_fineAt : ByteArray := prog_7_method_11_code
abbrev y_Walker_fineAt : MethodName := ⟨R_Walker, "fineAt", "(III)I"⟩
abbrev b_Math_floorDiv_JJJ : ByteArray := prog_16_method_49_code
abbrev y_Math_floorDiv_JJJ : MethodName := ⟨R_Math, "floorDiv", "(JJ)J"⟩
abbrev b_Pieces_add : ByteArray := prog_6_method_3_code
abbrev y_Pieces_add : MethodName := ⟨R_Pieces, "add", "(IIIIII)V"⟩
abbrev b_Pieces_grow : ByteArray := prog_6_method_7_code
abbrev y_Pieces_grow : MethodName := ⟨R_Pieces, "grow", "(I)V"⟩
abbrev b_Arr_copyOf_AIIAI : ByteArray := prog_21_method_123_code
abbrev y_Arr_copyOf_AIIAI : MethodName := ⟨R_Arr, "copyOf", "([II)[I"⟩
abbrev b_Pieces_endChain : ByteArray := prog_6_method_5_code
abbrev y_Pieces_endChain : MethodName := ⟨R_Pieces, "endChain", "(I)V"⟩
abbrev b_Pieces_addDot : ByteArray := prog_6_method_4_code
abbrev y_Pieces_addDot : MethodName := ⟨R_Pieces, "addDot", "(II)V"⟩
abbrev b_Pieces_closeChain : ByteArray := prog_6_method_6_code
abbrev y_Pieces_closeChain : MethodName := ⟨R_Pieces, "closeChain", "(I)V"⟩
abbrev b_SR_paintPicture : ByteArray := prog_1_method_20_code
abbrev y_SR_paintPicture : MethodName := ⟨R_SR, "paintPicture", "()V"⟩
abbrev b_Grid_across : ByteArray := prog_2_method_2_code
abbrev y_Grid_across : MethodName := ⟨R_Grid, "across", "(III)V"⟩
abbrev b_Math_max_III : ByteArray := prog_16_method_65_code
abbrev y_Math_max_III : MethodName := ⟨R_Math, "max", "(II)I"⟩
abbrev b_Grid_bitsFromTo : ByteArray := prog_2_method_18_code
abbrev y_Grid_bitsFromTo : MethodName := ⟨R_Grid, "bitsFromTo", "(JJ)J"⟩
abbrev b_Grid_upwards : ByteArray := prog_2_method_3_code
abbrev y_Grid_upwards : MethodName := ⟨R_Grid, "upwards", "(III)V"⟩
abbrev b_Arr_fill_AJJV : ByteArray := prog_21_method_101_code
abbrev y_Arr_fill_AJJV : MethodName := ⟨R_Arr, "fill", "([JJ)V"⟩
abbrev b_Painter_paint : ByteArray := prog_3_method_2_code
abbrev y_Painter_paint : MethodName := ⟨R_Painter, "paint", "()V"⟩
abbrev b_Grid_isFilled : ByteArray := prog_2_method_5_code
abbrev y_Grid_isFilled : MethodName := ⟨R_Grid, "isFilled", "()Z"⟩
abbrev b_Painter_isNear : ByteArray := prog_3_method_3_code
abbrev y_Painter_isNear : MethodName := ⟨R_Painter, "isNear", "(I)Z"⟩
abbrev b_Grid_meets : ByteArray := prog_2_method_6_code
abbrev y_Grid_meets : MethodName := ⟨R_Grid, "meets", "(JJJJ)Z"⟩
abbrev b_Painter_paintBody : ByteArray := prog_3_method_4_code
abbrev y_Painter_paintBody : MethodName := ⟨R_Painter, "paintBody", "(I)V"⟩
abbrev b_Grid_from : ByteArray := prog_2_method_7_code
abbrev y_Grid_from : MethodName := ⟨R_Grid, "from", "(II)V"⟩
abbrev b_Grid_corner : ByteArray := prog_2_method_8_code
abbrev y_Grid_corner : MethodName := ⟨R_Grid, "corner", "(JJ)V"⟩
abbrev b_Grid_polygon : ByteArray := prog_2_method_9_code
abbrev y_Grid_polygon : MethodName := ⟨R_Grid, "polygon", "()V"⟩
abbrev b_Grid_doubledArea : ByteArray := prog_2_method_12_code
abbrev y_Grid_doubledArea : MethodName := ⟨R_Grid, "doubledArea", "()J"⟩
abbrev b_Grid_least : ByteArray := prog_2_method_10_code
abbrev y_Grid_least : MethodName := ⟨R_Grid, "least", "([J)J"⟩
abbrev b_Math_min_JJJ : ByteArray := prog_16_method_70_code
abbrev y_Math_min_JJJ : MethodName := ⟨R_Math, "min", "(JJ)J"⟩
abbrev b_Grid_firstRow : ByteArray := prog_2_method_16_code
abbrev y_Grid_firstRow : MethodName := ⟨R_Grid, "firstRow", "(J)I"⟩
abbrev b_Math_max_JJJ : ByteArray := prog_16_method_66_code
abbrev y_Math_max_JJJ : MethodName := ⟨R_Math, "max", "(JJ)J"⟩
abbrev b_Grid_greatest : ByteArray := prog_2_method_11_code
abbrev y_Grid_greatest : MethodName := ⟨R_Grid, "greatest", "([J)J"⟩
abbrev b_Grid_lastRow : ByteArray := prog_2_method_17_code
abbrev y_Grid_lastRow : MethodName := ⟨R_Grid, "lastRow", "(J)I"⟩
abbrev b_Grid_polygonBits : ByteArray := prog_2_method_13_code
abbrev y_Grid_polygonBits : MethodName := ⟨R_Grid, "polygonBits", "(J)J"⟩
abbrev b_Painter_paintCaps : ByteArray := prog_3_method_5_code
abbrev y_Painter_paintCaps : MethodName := ⟨R_Painter, "paintCaps", "(I)V"⟩
abbrev b_Painter_paintCap : ByteArray := prog_3_method_6_code
abbrev y_Painter_paintCap : MethodName := ⟨R_Painter, "paintCap", "(IIII)V"⟩
abbrev b_Grid_disc : ByteArray := prog_2_method_14_code
abbrev y_Grid_disc : MethodName := ⟨R_Grid, "disc", "(III)V"⟩
abbrev b_Grid_discBits : ByteArray := prog_2_method_15_code
abbrev y_Grid_discBits : MethodName := ⟨R_Grid, "discBits", "(IJJ)J"⟩
abbrev b_Painter_paintJoin : ByteArray := prog_3_method_7_code
abbrev y_Painter_paintJoin : MethodName := ⟨R_Painter, "paintJoin", "(I)V"⟩
abbrev b_Painter_turnSign : ByteArray := prog_3_method_8_code
abbrev y_Painter_turnSign : MethodName := ⟨R_Painter, "turnSign", "(II)I"⟩
abbrev b_Long_signum_JI : ByteArray := prog_15_method_57_code
abbrev y_Long_signum_JI : MethodName := ⟨R_Long, "signum", "(J)I"⟩
abbrev b_Painter_paintMiter : ByteArray := prog_3_method_9_code
abbrev y_Painter_paintMiter : MethodName := ⟨R_Painter, "paintMiter", "(I)V"⟩
abbrev b_Grid_bits : ByteArray := prog_2_method_4_code
abbrev y_Grid_bits : MethodName := ⟨R_Grid, "bits", "(I)J"⟩
abbrev b_SR_countSet : ByteArray := prog_1_method_19_code
abbrev y_SR_countSet : MethodName := ⟨R_SR, "countSet", "()I"⟩
abbrev b_Long_bitCount_JI : ByteArray := prog_15_method_50_code
abbrev y_Long_bitCount_JI : MethodName := ⟨R_Long, "bitCount", "(J)I"⟩
abbrev b_La_move : ByteArray := method_3_code
abbrev y_La_move : MethodName := ⟨R_La, "move", "(LStrokeRaster;II[J)I"⟩
abbrev b_SR_move : ByteArray := prog_1_method_2_code
abbrev y_SR_move : MethodName := ⟨R_SR, "move", "(II)I"⟩
abbrev b_SR_isCoordinate : ByteArray := prog_1_method_15_code
abbrev y_SR_isCoordinate : MethodName := ⟨R_SR, "isCoordinate", "(I)Z"⟩
abbrev b_Path_begin : ByteArray := prog_4_method_2_code
abbrev y_Path_begin : MethodName := ⟨R_Path, "begin", "(II)V"⟩
abbrev b_Path_put : ByteArray := prog_4_method_3_code
abbrev y_Path_put : MethodName := ⟨R_Path, "put", "(II)V"⟩
abbrev b_La_line : ByteArray := method_4_code
abbrev y_La_line : MethodName := ⟨R_La, "line", "(LStrokeRaster;II[J)I"⟩
abbrev b_SR_line : ByteArray := prog_1_method_3_code
abbrev y_SR_line : MethodName := ⟨R_SR, "line", "(II)I"⟩
abbrev b_Path_takes : ByteArray := prog_4_method_7_code
abbrev y_Path_takes : MethodName := ⟨R_Path, "takes", "(I)Z"⟩
abbrev b_Path_isOpen : ByteArray := prog_4_method_6_code
abbrev y_Path_isOpen : MethodName := ⟨R_Path, "isOpen", "()Z"⟩
abbrev b_La_control : ByteArray := method_5_code
abbrev y_La_control : MethodName := ⟨R_La, "control", "(LStrokeRaster;IIII)I"⟩
abbrev b_SR_control : ByteArray := prog_1_method_4_code
abbrev y_SR_control : MethodName := ⟨R_SR, "control", "(IIII)V"⟩
abbrev b_La_curve : ByteArray := method_6_code
abbrev y_La_curve : MethodName := ⟨R_La, "curve", "(LStrokeRaster;II[J)I"⟩
abbrev b_SR_curve : ByteArray := prog_1_method_5_code
abbrev y_SR_curve : MethodName := ⟨R_SR, "curve", "(II)I"⟩
abbrev b_Path_bend : ByteArray := prog_4_method_4_code
abbrev y_Path_bend : MethodName := ⟨R_Path, "bend", "(IIIIII)V"⟩
abbrev b_Path_between : ByteArray := prog_4_method_5_code
abbrev y_Path_between : MethodName := ⟨R_Path, "between", "(IIIII)I"⟩
abbrev b_Math_floorDiv_III : ByteArray := prog_16_method_47_code
abbrev y_Math_floorDiv_III : MethodName := ⟨R_Math, "floorDiv", "(II)I"⟩
abbrev b_La_close : ByteArray := method_7_code
abbrev y_La_close : MethodName := ⟨R_La, "close", "(LStrokeRaster;[J)I"⟩
abbrev b_SR_close : ByteArray := prog_1_method_6_code
abbrev y_SR_close : MethodName := ⟨R_SR, "close", "()I"⟩
abbrev b_Path_shutLast : ByteArray := prog_4_method_8_code
abbrev y_Path_shutLast : MethodName := ⟨R_Path, "shutLast", "()V"⟩
abbrev b_La_pen : ByteArray := method_8_code
abbrev y_La_pen : MethodName := ⟨R_La, "pen", "(LStrokeRaster;IIII)I"⟩
abbrev b_SR_pen : ByteArray := prog_1_method_8_code
abbrev y_SR_pen : MethodName := ⟨R_SR, "pen", "(IIII)V"⟩
abbrev b_Pen_shape : ByteArray := prog_5_method_2_code
abbrev y_Pen_shape : MethodName := ⟨R_Pen, "shape", "(IIII)V"⟩
abbrev b_La_dash : ByteArray := method_9_code
abbrev y_La_dash : MethodName := ⟨R_La, "dash", "(LStrokeRaster;I[J)I"⟩
abbrev b_SR_dash : ByteArray := prog_1_method_9_code
abbrev y_SR_dash : MethodName := ⟨R_SR, "dash", "(I)I"⟩
abbrev b_Pen_addDash : ByteArray := prog_5_method_3_code
abbrev y_Pen_addDash : MethodName := ⟨R_Pen, "addDash", "(I)V"⟩
abbrev b_La_plain : ByteArray := method_10_code
abbrev y_La_plain : MethodName := ⟨R_La, "plain", "(LStrokeRaster;I[J)I"⟩
abbrev b_SR_plain : ByteArray := prog_1_method_10_code
abbrev y_SR_plain : MethodName := ⟨R_SR, "plain", "(I)I"⟩
abbrev b_Pen_dropDashes : ByteArray := prog_5_method_4_code
abbrev y_Pen_dropDashes : MethodName := ⟨R_Pen, "dropDashes", "(I)V"⟩
abbrev b_La_has : ByteArray := method_11_code
abbrev y_La_has : MethodName := ⟨R_La, "has", "(LStrokeRaster;II[J)I"⟩
abbrev b_SR_has : ByteArray := prog_1_method_12_code
abbrev y_SR_has : MethodName := ⟨R_SR, "has", "(II)Z"⟩
abbrev b_La_row : ByteArray := method_12_code
abbrev y_La_row : MethodName := ⟨R_La, "row", "(LStrokeRaster;I[J)I"⟩
abbrev b_SR_row : ByteArray := prog_1_method_13_code
abbrev y_SR_row : MethodName := ⟨R_SR, "row", "(I)J"⟩
abbrev b_SR_isInPicture : ByteArray := prog_1_method_16_code
abbrev y_SR_isInPicture : MethodName := ⟨R_SR, "isInPicture", "(I)Z"⟩
abbrev b_SR_bottom : ByteArray := prog_1_method_17_code
abbrev y_SR_bottom : MethodName := ⟨R_SR, "bottom", "(I)I"⟩
abbrev b_La_share : ByteArray := method_13_code
abbrev y_La_share : MethodName := ⟨R_La, "share", "(LStrokeRaster;II[J)I"⟩
abbrev b_SR_share : ByteArray := prog_1_method_14_code
abbrev y_SR_share : MethodName := ⟨R_SR, "share", "(II)I"⟩
abbrev b_Mo_init : ByteArray := prog_9_method_1_code
abbrev y_Mo_init : MethodName := ⟨R_Mo, "<init>", "()V"⟩
abbrev b_Mo_thrown : ByteArray := prog_9_method_2_code
abbrev y_Mo_thrown : MethodName := ⟨R_Mo, "thrown", "()I"⟩
abbrev b_Mo_move : ByteArray := prog_9_method_7_code
abbrev y_Mo_move : MethodName := ⟨R_Mo, "move", "(II)I"⟩
abbrev b_Mo_isPoint : ByteArray := prog_9_method_5_code
abbrev y_Mo_isPoint : MethodName := ⟨R_Mo, "isPoint", "(II)Z"⟩
abbrev b_Mo_isIn : ByteArray := prog_9_method_4_code
abbrev y_Mo_isIn : MethodName := ⟨R_Mo, "isIn", "(III)Z"⟩
abbrev b_Mo_refused : ByteArray := prog_9_method_3_code
abbrev y_Mo_refused : MethodName := ⟨R_Mo, "refused", "(I)Z"⟩
abbrev b_Mo_add : ByteArray := prog_9_method_6_code
abbrev y_Mo_add : MethodName := ⟨R_Mo, "add", "(II)V"⟩
abbrev b_Mo_line : ByteArray := prog_9_method_9_code
abbrev y_Mo_line : MethodName := ⟨R_Mo, "line", "(II)I"⟩
abbrev b_Mo_isOpen : ByteArray := prog_9_method_8_code
abbrev y_Mo_isOpen : MethodName := ⟨R_Mo, "isOpen", "()Z"⟩
abbrev b_Mo_control : ByteArray := prog_9_method_10_code
abbrev y_Mo_control : MethodName := ⟨R_Mo, "control", "(IIII)V"⟩
abbrev b_Mo_curve : ByteArray := prog_9_method_12_code
abbrev y_Mo_curve : MethodName := ⟨R_Mo, "curve", "(II)I"⟩
abbrev b_Mo_along : ByteArray := prog_9_method_11_code
abbrev y_Mo_along : MethodName := ⟨R_Mo, "along", "(IIIII)I"⟩
abbrev b_Mo_close : ByteArray := prog_9_method_14_code
abbrev y_Mo_close : MethodName := ⟨R_Mo, "close", "()I"⟩
abbrev b_Mo_closedOnes : ByteArray := prog_9_method_13_code
abbrev y_Mo_closedOnes : MethodName := ⟨R_Mo, "closedOnes", "()I"⟩
abbrev b_Mo_clear : ByteArray := prog_9_method_15_code
abbrev y_Mo_clear : MethodName := ⟨R_Mo, "clear", "()I"⟩
abbrev b_Mo_pen : ByteArray := prog_9_method_16_code
abbrev y_Mo_pen : MethodName := ⟨R_Mo, "pen", "(IIII)V"⟩
abbrev b_Mo_dash : ByteArray := prog_9_method_17_code
abbrev y_Mo_dash : MethodName := ⟨R_Mo, "dash", "(I)I"⟩
abbrev b_Mo_plain : ByteArray := prog_9_method_18_code
abbrev y_Mo_plain : MethodName := ⟨R_Mo, "plain", "(I)I"⟩
abbrev b_Mo_count : ByteArray := prog_9_method_45_code
abbrev y_Mo_count : MethodName := ⟨R_Mo, "count", "(I)I"⟩
abbrev b_Mo_findPieces : ByteArray := prog_9_method_33_code
abbrev y_Mo_findPieces : MethodName := ⟨R_Mo, "findPieces", "()V"⟩
abbrev b_Mo_hasDashes : ByteArray := prog_9_method_26_code
abbrev y_Mo_hasDashes : MethodName := ⟨R_Mo, "hasDashes", "()Z"⟩
abbrev b_Mo_leave : ByteArray := prog_9_method_25_code
abbrev y_Mo_leave : MethodName := ⟨R_Mo, "leave", "(I)V"⟩
abbrev b_Mo_piece : ByteArray := prog_9_method_24_code
abbrev y_Mo_piece : MethodName := ⟨R_Mo, "piece", "(JJJJZ)V"⟩
abbrev b_Mo_dashPieces : ByteArray := prog_9_method_32_code
abbrev y_Mo_dashPieces : MethodName := ⟨R_Mo, "dashPieces", "(I)V"⟩
abbrev b_Mo_firstDash : ByteArray := prog_9_method_28_code
abbrev y_Mo_firstDash : MethodName := ⟨R_Mo, "firstDash", "()V"⟩
abbrev b_Mo_dashSegment : ByteArray := prog_9_method_31_code
abbrev y_Mo_dashSegment : MethodName := ⟨R_Mo, "dashSegment", "(I)V"⟩
abbrev b_Mo_offset : ByteArray := prog_9_method_21_code
abbrev y_Mo_offset : MethodName := ⟨R_Mo, "offset", "(JJ)V"⟩
abbrev b_Mo_half : ByteArray := prog_9_method_19_code
abbrev y_Mo_half : MethodName := ⟨R_Mo, "half", "()J"⟩
abbrev b_Mo_nearest : ByteArray := prog_9_method_20_code
abbrev y_Mo_nearest : MethodName := ⟨R_Mo, "nearest", "(JJ)I"⟩
abbrev b_Mo_root : ByteArray := prog_9_method_22_code
abbrev y_Mo_root : MethodName := ⟨R_Mo, "root", "(J)J"⟩
abbrev b_Mo_dashPiece : ByteArray := prog_9_method_29_code
abbrev y_Mo_dashPiece : MethodName := ⟨R_Mo, "dashPiece", "(IIJJJ)V"⟩
abbrev b_Mo_floor : ByteArray := prog_9_method_23_code
abbrev y_Mo_floor : MethodName := ⟨R_Mo, "floor", "(JJ)J"⟩
abbrev b_Mo_endChain : ByteArray := prog_9_method_30_code
abbrev y_Mo_endChain : MethodName := ⟨R_Mo, "endChain", "()V"⟩
abbrev b_Mo_plainPieces : ByteArray := prog_9_method_27_code
abbrev y_Mo_plainPieces : MethodName := ⟨R_Mo, "plainPieces", "(I)V"⟩
abbrev b_Mo_setPixels : ByteArray := prog_9_method_44_code
abbrev y_Mo_setPixels : MethodName := ⟨R_Mo, "setPixels", "()I"⟩
abbrev b_Mo_isSet : ByteArray := prog_9_method_43_code
abbrev y_Mo_isSet : MethodName := ⟨R_Mo, "isSet", "(II)Z"⟩
abbrev b_Mo_covers : ByteArray := prog_9_method_42_code
abbrev y_Mo_covers : MethodName := ⟨R_Mo, "covers", "(II)Z"⟩
abbrev b_Mo_inPiece : ByteArray := prog_9_method_41_code
abbrev y_Mo_inPiece : MethodName := ⟨R_Mo, "inPiece", "(IJJ)Z"⟩
abbrev b_Mo_inDisc : ByteArray := prog_9_method_37_code
abbrev y_Mo_inDisc : MethodName := ⟨R_Mo, "inDisc", "(JJJJ)Z"⟩
abbrev b_Mo_inBody : ByteArray := prog_9_method_38_code
abbrev y_Mo_inBody : MethodName := ⟨R_Mo, "inBody", "(IJJ)Z"⟩
abbrev b_Mo_corner : ByteArray := prog_9_method_35_code
abbrev y_Mo_corner : MethodName := ⟨R_Mo, "corner", "(IJJ)V"⟩
abbrev b_Mo_inPolygon : ByteArray := prog_9_method_36_code
abbrev y_Mo_inPolygon : MethodName := ⟨R_Mo, "inPolygon", "(IJJ)Z"⟩
abbrev b_Mo_cross : ByteArray := prog_9_method_34_code
abbrev y_Mo_cross : MethodName := ⟨R_Mo, "cross", "(JJJJ)J"⟩
abbrev b_Mo_inCap : ByteArray := prog_9_method_39_code
abbrev y_Mo_inCap : MethodName := ⟨R_Mo, "inCap", "(IJJIJJ)Z"⟩
abbrev b_Mo_inJoin : ByteArray := prog_9_method_40_code
abbrev y_Mo_inJoin : MethodName := ⟨R_Mo, "inJoin", "(IIJJ)Z"⟩
abbrev b_Mo_has : ByteArray := prog_9_method_46_code
abbrev y_Mo_has : MethodName := ⟨R_Mo, "has", "(II)Z"⟩
abbrev b_Mo_row : ByteArray := prog_9_method_47_code
abbrev y_Mo_row : MethodName := ⟨R_Mo, "row", "(I)J"⟩
abbrev b_Mo_share : ByteArray := prog_9_method_48_code
abbrev y_Mo_share : MethodName := ⟨R_Mo, "share", "(II)I"⟩
end
section
/-! the words of the tables that calls hand on (allw), the nest words (nestw), and each word's place -/
def sr_isN : Cond → Bool
  | .fieldLinkNest .. => true
  | .methodLinkNest .. => true
  | _ => false
abbrev sr_d (y : MethodName) (n : Nat) : Prop := y.cls ≠ "java/lang/invoke/MethodHandle" ∧ y.cls ≠ "java/lang/invoke/VarHandle" ∧ (parseMethodDescriptor y.desc).map (fun d => d.parameters.length) = some n
def allw : List Cond := lw_tbl.filter goodWord
def nestw : List Cond := [(Cond.methodLinkNest "StrokeRaster" (9 : Nat) ({ cls := "StrokeRaster$Path", name := "<init>", desc := "()V" } : Jvm.MethodName) "StrokeRaster"), (Cond.methodLinkNest "StrokeRaster" (18 : Nat) ({ cls := "StrokeRaster$Pen", name := "<init>", desc := "()V" } : Jvm.MethodName) "StrokeRaster"), (Cond.methodLinkNest "StrokeRaster" (25 : Nat) ({ cls := "StrokeRaster$Pieces", name := "<init>", desc := "()V" } : Jvm.MethodName) "StrokeRaster"), (Cond.methodLinkNest "StrokeRaster" (41 : Nat) ({ cls := "StrokeRaster$Grid", name := "<init>", desc := "()V" } : Jvm.MethodName) "StrokeRaster"), (Cond.methodLinkNest "StrokeRaster$Walker" (161 : Nat) ({ cls := "StrokeRaster", name := "root", desc := "(J)J" } : Jvm.MethodName) "StrokeRaster"), (Cond.methodLinkNest "StrokeRaster$Grid" (117 : Nat) ({ cls := "StrokeRaster", name := "root", desc := "(J)J" } : Jvm.MethodName) "StrokeRaster")]
theorem hns_ok : ∀ w ∈ nestw, sr_isN w = true := by decide +kernel
theorem allw_good : ∀ w ∈ allw, goodWord w = true := fun w h => (List.mem_filter.mp h).2
theorem allw_tbl : ∀ w ∈ allw, w ∈ lw_tbl := fun w h => (List.mem_filter.mp h).1
theorem kw_1 {w : Cond} {k : Nat} (h : tables_1_1[k]? = some w) (g : goodWord w = true) : w ∈ allw := List.mem_filter.mpr ⟨List.mem_append_right _ (List.mem_append_left _ (List.mem_of_getElem? h)), g⟩
theorem kw_2 {w : Cond} {k : Nat} (h : tables_1_2[k]? = some w) (g : goodWord w = true) : w ∈ allw := List.mem_filter.mpr ⟨List.mem_append_right _ (List.mem_append_right _ (List.mem_append_left _ (List.mem_of_getElem? h))), g⟩
theorem kw_3 {w : Cond} {k : Nat} (h : tables_1_3[k]? = some w) (g : goodWord w = true) : w ∈ allw := List.mem_filter.mpr ⟨List.mem_append_right _ (List.mem_append_right _ (List.mem_append_right _ (List.mem_append_left _ (List.mem_of_getElem? h)))), g⟩
theorem kw_4 {w : Cond} {k : Nat} (h : tables_1_4[k]? = some w) (g : goodWord w = true) : w ∈ allw := List.mem_filter.mpr ⟨List.mem_append_right _ (List.mem_append_right _ (List.mem_append_right _ (List.mem_append_right _ (List.mem_append_left _ (List.mem_of_getElem? h))))), g⟩
theorem kw_5 {w : Cond} {k : Nat} (h : tables_1_5[k]? = some w) (g : goodWord w = true) : w ∈ allw := List.mem_filter.mpr ⟨List.mem_append_right _ (List.mem_append_right _ (List.mem_append_right _ (List.mem_append_right _ (List.mem_append_right _ (List.mem_of_getElem? h))))), g⟩
theorem kw_s {q : MethodName × Nat} {k : Nat} (h : lw_privs[k]? = some q) : Cond.selects q.1.cls q.1 q.1 ∈ allw := List.mem_filter.mpr ⟨List.mem_append_left _ (List.mem_map.mpr ⟨q, List.mem_of_getElem? h, rfl⟩), rfl⟩
theorem k_in_La : Cond.initialized R_La ∈ allw := kw_1 (k := 0) rfl rfl
theorem k_in_SR : Cond.initialized R_SR ∈ allw := kw_1 (k := 1) rfl rfl
theorem k_in_Path : Cond.initialized R_Path ∈ allw := kw_1 (k := 2) rfl rfl
theorem k_in_Pen : Cond.initialized R_Pen ∈ allw := kw_1 (k := 3) rfl rfl
theorem k_in_Pieces : Cond.initialized R_Pieces ∈ allw := kw_1 (k := 4) rfl rfl
theorem k_in_Walker : Cond.initialized R_Walker ∈ allw := kw_1 (k := 5) rfl rfl
theorem k_in_Grid : Cond.initialized R_Grid ∈ allw := kw_1 (k := 6) rfl rfl
theorem k_in_Painter : Cond.initialized R_Painter ∈ allw := kw_1 (k := 7) rfl rfl
theorem k_in_Mo : Cond.initialized R_Mo ∈ allw := kw_1 (k := 8) rfl rfl
theorem k_in_Math : Cond.initialized R_Math ∈ allw := kw_1 (k := 14) rfl rfl
theorem k_in_Arr : Cond.initialized R_Arr ∈ allw := kw_1 (k := 15) rfl rfl
theorem k_in_Sys : Cond.initialized R_Sys ∈ allw := kw_1 (k := 16) rfl rfl
theorem k_in_Long : Cond.initialized R_Long ∈ allw := kw_1 (k := 17) rfl rfl
theorem k_c_La_8 : Cond.classLink R_La 8 "StrokeRaster" ∈ allw := kw_1 (k := 19) rfl rfl
theorem k_ib_SR : Cond.instantiable R_SR 12 ∈ allw := kw_1 (k := 20) rfl rfl
theorem k_m_La_54 : Cond.methodLink R_La 54 y_SR_init ∈ allw := kw_1 (k := 21) rfl rfl
theorem k_im_SR_init : Cond.instanceMethod y_SR_init ∈ allw := kw_1 (k := 22) rfl rfl
theorem k_cd_SR_init : Cond.code y_SR_init b_SR_init 1 none ∈ allw := kw_1 (k := 23) rfl rfl
theorem k_m_SR_1 : Cond.methodLink R_SR 1 objectInit ∈ allw := kw_1 (k := 24) rfl rfl
theorem k_im_obj : Cond.instanceMethod objectInit ∈ allw := kw_1 (k := 25) rfl rfl
theorem k_cd_obj : Cond.code objectInit ⟨#[0xb1]⟩ 1 none ∈ allw := kw_1 (k := 26) rfl rfl
theorem k_c_SR_7 : Cond.classLink R_SR 7 "StrokeRaster$Path" ∈ allw := kw_1 (k := 27) rfl rfl
theorem k_ib_Path : Cond.instantiable R_Path 7 ∈ allw := kw_1 (k := 28) rfl rfl
theorem k_im_Path_init : Cond.instanceMethod y_Path_init ∈ allw := kw_1 (k := 30) rfl rfl
theorem k_cd_Path_init : Cond.code y_Path_init b_Path_init 1 none ∈ allw := kw_1 (k := 31) rfl rfl
theorem k_m_Path_3 : Cond.methodLink R_Path 3 objectInit ∈ allw := kw_1 (k := 32) rfl rfl
theorem k_f_Path_9 : Cond.fieldLink R_Path 9 "StrokeRaster$Path" "xs" "[I" ∈ allw := kw_1 (k := 33) rfl rfl
theorem k_f_Walker_122 : Cond.fieldLink R_Walker 122 "StrokeRaster$Path" "xs" "[I" ∈ allw := kw_1 (k := 34) rfl rfl
theorem k_f_Path_15 : Cond.fieldLink R_Path 15 "StrokeRaster$Path" "ys" "[I" ∈ allw := kw_1 (k := 35) rfl rfl
theorem k_f_Walker_125 : Cond.fieldLink R_Walker 125 "StrokeRaster$Path" "ys" "[I" ∈ allw := kw_1 (k := 36) rfl rfl
theorem k_f_Path_29 : Cond.fieldLink R_Path 29 "StrokeRaster$Path" "points" "I" ∈ allw := kw_1 (k := 37) rfl rfl
theorem k_f_SR_74 : Cond.fieldLink R_SR 74 "StrokeRaster$Path" "points" "I" ∈ allw := kw_1 (k := 38) rfl rfl
theorem k_f_Path_18 : Cond.fieldLink R_Path 18 "StrokeRaster$Path" "firsts" "[I" ∈ allw := kw_1 (k := 39) rfl rfl
theorem k_f_Walker_82 : Cond.fieldLink R_Walker 82 "StrokeRaster$Path" "firsts" "[I" ∈ allw := kw_1 (k := 40) rfl rfl
theorem k_f_Path_21 : Cond.fieldLink R_Path 21 "StrokeRaster$Path" "shut" "[Z" ∈ allw := kw_1 (k := 41) rfl rfl
theorem k_f_Walker_88 : Cond.fieldLink R_Walker 88 "StrokeRaster$Path" "shut" "[Z" ∈ allw := kw_1 (k := 42) rfl rfl
theorem k_f_Path_25 : Cond.fieldLink R_Path 25 "StrokeRaster$Path" "subpaths" "I" ∈ allw := kw_1 (k := 43) rfl rfl
theorem k_f_SR_70 : Cond.fieldLink R_SR 70 "StrokeRaster$Path" "subpaths" "I" ∈ allw := kw_1 (k := 44) rfl rfl
theorem k_f_Walker_35 : Cond.fieldLink R_Walker 35 "StrokeRaster$Path" "subpaths" "I" ∈ allw := kw_1 (k := 45) rfl rfl
theorem k_f_SR_122 : Cond.fieldLink R_SR 122 "StrokeRaster$Path" "shutOnes" "I" ∈ allw := kw_1 (k := 46) rfl rfl
theorem k_f_Path_59 : Cond.fieldLink R_Path 59 "StrokeRaster$Path" "shutOnes" "I" ∈ allw := kw_1 (k := 47) rfl rfl
theorem k_ac_int : Cond.arrayClass (newarray.typeOf .int) ∈ allw := kw_1 (k := 63) rfl rfl
theorem k_ac_boolean : Cond.arrayClass (newarray.typeOf .boolean) ∈ allw := kw_1 (k := 64) rfl rfl
theorem k_c_SR_16 : Cond.classLink R_SR 16 "StrokeRaster$Pen" ∈ allw := kw_1 (k := 65) rfl rfl
theorem k_ib_Pen : Cond.instantiable R_Pen 8 ∈ allw := kw_1 (k := 66) rfl rfl
theorem k_im_Pen_init : Cond.instanceMethod y_Pen_init ∈ allw := kw_1 (k := 68) rfl rfl
theorem k_cd_Pen_init : Cond.code y_Pen_init b_Pen_init 1 none ∈ allw := kw_1 (k := 69) rfl rfl
theorem k_m_Pen_3 : Cond.methodLink R_Pen 3 objectInit ∈ allw := kw_1 (k := 70) rfl rfl
theorem k_f_Pen_9 : Cond.fieldLink R_Pen 9 "StrokeRaster$Pen" "half" "I" ∈ allw := kw_1 (k := 71) rfl rfl
theorem k_f_Painter_57 : Cond.fieldLink R_Painter 57 "StrokeRaster$Pen" "half" "I" ∈ allw := kw_1 (k := 72) rfl rfl
theorem k_f_Walker_167 : Cond.fieldLink R_Walker 167 "StrokeRaster$Pen" "half" "I" ∈ allw := kw_1 (k := 73) rfl rfl
theorem k_f_Pen_22 : Cond.fieldLink R_Pen 22 "StrokeRaster$Pen" "caps" "I" ∈ allw := kw_1 (k := 74) rfl rfl
theorem k_f_Painter_113 : Cond.fieldLink R_Painter 113 "StrokeRaster$Pen" "caps" "I" ∈ allw := kw_1 (k := 75) rfl rfl
theorem k_f_Pen_25 : Cond.fieldLink R_Pen 25 "StrokeRaster$Pen" "joins" "I" ∈ allw := kw_1 (k := 76) rfl rfl
theorem k_f_Painter_49 : Cond.fieldLink R_Painter 49 "StrokeRaster$Pen" "joins" "I" ∈ allw := kw_1 (k := 77) rfl rfl
theorem k_f_Pen_15 : Cond.fieldLink R_Pen 15 "StrokeRaster$Pen" "limit" "I" ∈ allw := kw_1 (k := 78) rfl rfl
theorem k_f_Painter_131 : Cond.fieldLink R_Painter 131 "StrokeRaster$Pen" "limit" "I" ∈ allw := kw_1 (k := 79) rfl rfl
theorem k_f_Pen_18 : Cond.fieldLink R_Pen 18 "StrokeRaster$Pen" "lengths" "[I" ∈ allw := kw_1 (k := 80) rfl rfl
theorem k_f_Walker_68 : Cond.fieldLink R_Walker 68 "StrokeRaster$Pen" "lengths" "[I" ∈ allw := kw_1 (k := 81) rfl rfl
theorem k_f_Pen_28 : Cond.fieldLink R_Pen 28 "StrokeRaster$Pen" "dashes" "I" ∈ allw := kw_1 (k := 82) rfl rfl
theorem k_f_Walker_79 : Cond.fieldLink R_Walker 79 "StrokeRaster$Pen" "dashes" "I" ∈ allw := kw_1 (k := 83) rfl rfl
theorem k_f_SR_136 : Cond.fieldLink R_SR 136 "StrokeRaster$Pen" "dashes" "I" ∈ allw := kw_1 (k := 84) rfl rfl
theorem k_f_Pen_34 : Cond.fieldLink R_Pen 34 "StrokeRaster$Pen" "phase" "I" ∈ allw := kw_1 (k := 85) rfl rfl
theorem k_f_Walker_59 : Cond.fieldLink R_Walker 59 "StrokeRaster$Pen" "phase" "I" ∈ allw := kw_1 (k := 86) rfl rfl
theorem k_f_Pen_31 : Cond.fieldLink R_Pen 31 "StrokeRaster$Pen" "wholeLength" "I" ∈ allw := kw_1 (k := 87) rfl rfl
theorem k_f_Walker_54 : Cond.fieldLink R_Walker 54 "StrokeRaster$Pen" "wholeLength" "I" ∈ allw := kw_1 (k := 88) rfl rfl
theorem k_c_SR_23 : Cond.classLink R_SR 23 "StrokeRaster$Pieces" ∈ allw := kw_1 (k := 106) rfl rfl
theorem k_ib_Pieces : Cond.instantiable R_Pieces 11 ∈ allw := kw_1 (k := 107) rfl rfl
theorem k_im_Pieces_init : Cond.instanceMethod y_Pieces_init ∈ allw := kw_1 (k := 109) rfl rfl
theorem k_cd_Pieces_init : Cond.code y_Pieces_init b_Pieces_init 1 none ∈ allw := kw_1 (k := 110) rfl rfl
theorem k_m_Pieces_3 : Cond.methodLink R_Pieces 3 objectInit ∈ allw := kw_1 (k := 111) rfl rfl
theorem k_f_Pieces_9 : Cond.fieldLink R_Pieces 9 "StrokeRaster$Pieces" "ax" "[I" ∈ allw := kw_1 (k := 112) rfl rfl
theorem k_f_Painter_60 : Cond.fieldLink R_Painter 60 "StrokeRaster$Pieces" "ax" "[I" ∈ allw := kw_1 (k := 113) rfl rfl
theorem k_f_Pieces_15 : Cond.fieldLink R_Pieces 15 "StrokeRaster$Pieces" "ay" "[I" ∈ allw := kw_1 (k := 114) rfl rfl
theorem k_f_Painter_76 : Cond.fieldLink R_Painter 76 "StrokeRaster$Pieces" "ay" "[I" ∈ allw := kw_1 (k := 115) rfl rfl
theorem k_f_Pieces_18 : Cond.fieldLink R_Pieces 18 "StrokeRaster$Pieces" "bx" "[I" ∈ allw := kw_1 (k := 116) rfl rfl
theorem k_f_Painter_64 : Cond.fieldLink R_Painter 64 "StrokeRaster$Pieces" "bx" "[I" ∈ allw := kw_1 (k := 117) rfl rfl
theorem k_f_Pieces_21 : Cond.fieldLink R_Pieces 21 "StrokeRaster$Pieces" "by" "[I" ∈ allw := kw_1 (k := 118) rfl rfl
theorem k_f_Painter_79 : Cond.fieldLink R_Painter 79 "StrokeRaster$Pieces" "by" "[I" ∈ allw := kw_1 (k := 119) rfl rfl
theorem k_f_Pieces_24 : Cond.fieldLink R_Pieces 24 "StrokeRaster$Pieces" "ox" "[I" ∈ allw := kw_1 (k := 120) rfl rfl
theorem k_f_Painter_86 : Cond.fieldLink R_Painter 86 "StrokeRaster$Pieces" "ox" "[I" ∈ allw := kw_1 (k := 121) rfl rfl
theorem k_f_Pieces_27 : Cond.fieldLink R_Pieces 27 "StrokeRaster$Pieces" "oy" "[I" ∈ allw := kw_1 (k := 122) rfl rfl
theorem k_f_Painter_89 : Cond.fieldLink R_Painter 89 "StrokeRaster$Pieces" "oy" "[I" ∈ allw := kw_1 (k := 123) rfl rfl
theorem k_f_Pieces_30 : Cond.fieldLink R_Pieces 30 "StrokeRaster$Pieces" "before" "[I" ∈ allw := kw_1 (k := 124) rfl rfl
theorem k_f_Painter_103 : Cond.fieldLink R_Painter 103 "StrokeRaster$Pieces" "before" "[I" ∈ allw := kw_1 (k := 125) rfl rfl
theorem k_f_Pieces_33 : Cond.fieldLink R_Pieces 33 "StrokeRaster$Pieces" "kind" "[I" ∈ allw := kw_1 (k := 126) rfl rfl
theorem k_f_Painter_110 : Cond.fieldLink R_Painter 110 "StrokeRaster$Pieces" "kind" "[I" ∈ allw := kw_1 (k := 127) rfl rfl
theorem k_f_Pieces_40 : Cond.fieldLink R_Pieces 40 "StrokeRaster$Pieces" "held" "I" ∈ allw := kw_1 (k := 128) rfl rfl
theorem k_f_Painter_23 : Cond.fieldLink R_Painter 23 "StrokeRaster$Pieces" "held" "I" ∈ allw := kw_1 (k := 129) rfl rfl
theorem k_f_Walker_92 : Cond.fieldLink R_Walker 92 "StrokeRaster$Pieces" "held" "I" ∈ allw := kw_1 (k := 130) rfl rfl
theorem k_f_SR_158 : Cond.fieldLink R_SR 158 "StrokeRaster$Pieces" "held" "I" ∈ allw := kw_1 (k := 131) rfl rfl
theorem k_f_Pieces_43 : Cond.fieldLink R_Pieces 43 "StrokeRaster$Pieces" "full" "Z" ∈ allw := kw_1 (k := 132) rfl rfl
theorem k_f_Walker_41 : Cond.fieldLink R_Walker 41 "StrokeRaster$Pieces" "full" "Z" ∈ allw := kw_1 (k := 133) rfl rfl
theorem k_f_SR_154 : Cond.fieldLink R_SR 154 "StrokeRaster$Pieces" "full" "Z" ∈ allw := kw_1 (k := 134) rfl rfl
theorem k_f_Pieces_36 : Cond.fieldLink R_Pieces 36 "StrokeRaster$Pieces" "last" "I" ∈ allw := kw_1 (k := 135) rfl rfl
theorem k_c_SR_30 : Cond.classLink R_SR 30 "StrokeRaster$Walker" ∈ allw := kw_1 (k := 159) rfl rfl
theorem k_ib_Walker : Cond.instantiable R_Walker 17 ∈ allw := kw_1 (k := 160) rfl rfl
theorem k_m_SR_32 : Cond.methodLink R_SR 32 y_Walker_init ∈ allw := kw_1 (k := 161) rfl rfl
theorem k_im_Walker_init : Cond.instanceMethod y_Walker_init ∈ allw := kw_1 (k := 162) rfl rfl
theorem k_cd_Walker_init : Cond.code y_Walker_init b_Walker_init 4 none ∈ allw := kw_1 (k := 163) rfl rfl
theorem k_m_Walker_3 : Cond.methodLink R_Walker 3 objectInit ∈ allw := kw_1 (k := 164) rfl rfl
theorem k_f_Walker_9 : Cond.fieldLink R_Walker 9 "StrokeRaster$Walker" "path" "LStrokeRaster$Path;" ∈ allw := kw_1 (k := 165) rfl rfl
theorem k_f_Walker_15 : Cond.fieldLink R_Walker 15 "StrokeRaster$Walker" "pen" "LStrokeRaster$Pen;" ∈ allw := kw_1 (k := 166) rfl rfl
theorem k_f_Walker_19 : Cond.fieldLink R_Walker 19 "StrokeRaster$Walker" "pieces" "LStrokeRaster$Pieces;" ∈ allw := kw_1 (k := 167) rfl rfl
theorem k_f_Walker_23 : Cond.fieldLink R_Walker 23 "StrokeRaster$Walker" "fresh" "Z" ∈ allw := kw_1 (k := 168) rfl rfl
theorem k_f_Walker_48 : Cond.fieldLink R_Walker 48 "StrokeRaster$Walker" "startDash" "I" ∈ allw := kw_1 (k := 169) rfl rfl
theorem k_f_Walker_51 : Cond.fieldLink R_Walker 51 "StrokeRaster$Walker" "startOn" "Z" ∈ allw := kw_1 (k := 170) rfl rfl
theorem k_f_Walker_76 : Cond.fieldLink R_Walker 76 "StrokeRaster$Walker" "startRest" "I" ∈ allw := kw_1 (k := 171) rfl rfl
theorem k_f_Walker_99 : Cond.fieldLink R_Walker 99 "StrokeRaster$Walker" "dash" "I" ∈ allw := kw_1 (k := 172) rfl rfl
theorem k_f_Walker_102 : Cond.fieldLink R_Walker 102 "StrokeRaster$Walker" "on" "Z" ∈ allw := kw_1 (k := 173) rfl rfl
theorem k_f_Walker_105 : Cond.fieldLink R_Walker 105 "StrokeRaster$Walker" "rest" "I" ∈ allw := kw_1 (k := 174) rfl rfl
theorem k_f_Walker_137 : Cond.fieldLink R_Walker 137 "StrokeRaster$Walker" "fromX" "I" ∈ allw := kw_1 (k := 175) rfl rfl
theorem k_f_Walker_140 : Cond.fieldLink R_Walker 140 "StrokeRaster$Walker" "fromY" "I" ∈ allw := kw_1 (k := 176) rfl rfl
theorem k_f_Walker_143 : Cond.fieldLink R_Walker 143 "StrokeRaster$Walker" "alongX" "I" ∈ allw := kw_1 (k := 177) rfl rfl
theorem k_f_Walker_146 : Cond.fieldLink R_Walker 146 "StrokeRaster$Walker" "alongY" "I" ∈ allw := kw_1 (k := 178) rfl rfl
theorem k_f_Walker_153 : Cond.fieldLink R_Walker 153 "StrokeRaster$Walker" "offsetX" "I" ∈ allw := kw_1 (k := 179) rfl rfl
theorem k_f_Walker_156 : Cond.fieldLink R_Walker 156 "StrokeRaster$Walker" "offsetY" "I" ∈ allw := kw_1 (k := 180) rfl rfl
theorem k_f_Walker_115 : Cond.fieldLink R_Walker 115 "StrokeRaster$Walker" "length" "I" ∈ allw := kw_1 (k := 181) rfl rfl
theorem k_c_SR_39 : Cond.classLink R_SR 39 "StrokeRaster$Grid" ∈ allw := kw_1 (k := 217) rfl rfl
theorem k_ib_Grid : Cond.instantiable R_Grid 15 ∈ allw := kw_1 (k := 218) rfl rfl
theorem k_im_Grid_init : Cond.instanceMethod y_Grid_init ∈ allw := kw_1 (k := 220) rfl rfl
theorem k_cd_Grid_init : Cond.code y_Grid_init b_Grid_init 1 none ∈ allw := kw_1 (k := 221) rfl rfl
theorem k_m_Grid_3 : Cond.methodLink R_Grid 3 objectInit ∈ allw := kw_1 (k := 222) rfl rfl
theorem k_f_Grid_9 : Cond.fieldLink R_Grid 9 "StrokeRaster$Grid" "rows" "[J" ∈ allw := kw_1 (k := 223) rfl rfl
theorem k_f_Grid_38 : Cond.fieldLink R_Grid 38 "StrokeRaster$Grid" "startX" "I" ∈ allw := kw_1 (k := 224) rfl rfl
theorem k_f_Grid_15 : Cond.fieldLink R_Grid 15 "StrokeRaster$Grid" "stepX" "I" ∈ allw := kw_1 (k := 225) rfl rfl
theorem k_f_Grid_19 : Cond.fieldLink R_Grid 19 "StrokeRaster$Grid" "wide" "I" ∈ allw := kw_1 (k := 226) rfl rfl
theorem k_f_Grid_54 : Cond.fieldLink R_Grid 54 "StrokeRaster$Grid" "startY" "I" ∈ allw := kw_1 (k := 227) rfl rfl
theorem k_f_Grid_22 : Cond.fieldLink R_Grid 22 "StrokeRaster$Grid" "stepY" "I" ∈ allw := kw_1 (k := 228) rfl rfl
theorem k_f_Grid_25 : Cond.fieldLink R_Grid 25 "StrokeRaster$Grid" "high" "I" ∈ allw := kw_1 (k := 229) rfl rfl
theorem k_f_Grid_28 : Cond.fieldLink R_Grid 28 "StrokeRaster$Grid" "wholeRow" "J" ∈ allw := kw_1 (k := 230) rfl rfl
theorem k_f_Grid_57 : Cond.fieldLink R_Grid 57 "StrokeRaster$Grid" "filledRows" "I" ∈ allw := kw_1 (k := 231) rfl rfl
theorem k_f_Grid_32 : Cond.fieldLink R_Grid 32 "StrokeRaster$Grid" "xs" "[J" ∈ allw := kw_1 (k := 232) rfl rfl
theorem k_f_Grid_35 : Cond.fieldLink R_Grid 35 "StrokeRaster$Grid" "ys" "[J" ∈ allw := kw_1 (k := 233) rfl rfl
theorem k_f_Grid_72 : Cond.fieldLink R_Grid 72 "StrokeRaster$Grid" "corners" "I" ∈ allw := kw_1 (k := 234) rfl rfl
theorem k_f_Grid_66 : Cond.fieldLink R_Grid 66 "StrokeRaster$Grid" "originX" "I" ∈ allw := kw_1 (k := 235) rfl rfl
theorem k_f_Grid_69 : Cond.fieldLink R_Grid 69 "StrokeRaster$Grid" "originY" "I" ∈ allw := kw_1 (k := 236) rfl rfl
theorem k_f_Grid_81 : Cond.fieldLink R_Grid 81 "StrokeRaster$Grid" "turn" "J" ∈ allw := kw_1 (k := 237) rfl rfl
theorem k_ac_long : Cond.arrayClass (newarray.typeOf .long) ∈ allw := kw_2 (k := 29) rfl rfl
theorem k_c_SR_46 : Cond.classLink R_SR 46 "StrokeRaster$Painter" ∈ allw := kw_2 (k := 30) rfl rfl
theorem k_ib_Painter : Cond.instantiable R_Painter 3 ∈ allw := kw_2 (k := 31) rfl rfl
theorem k_m_SR_48 : Cond.methodLink R_SR 48 y_Painter_init ∈ allw := kw_2 (k := 32) rfl rfl
theorem k_im_Painter_init : Cond.instanceMethod y_Painter_init ∈ allw := kw_2 (k := 33) rfl rfl
theorem k_cd_Painter_init : Cond.code y_Painter_init b_Painter_init 4 none ∈ allw := kw_2 (k := 34) rfl rfl
theorem k_m_Painter_3 : Cond.methodLink R_Painter 3 objectInit ∈ allw := kw_2 (k := 35) rfl rfl
theorem k_f_Painter_9 : Cond.fieldLink R_Painter 9 "StrokeRaster$Painter" "pen" "LStrokeRaster$Pen;" ∈ allw := kw_2 (k := 36) rfl rfl
theorem k_f_Painter_15 : Cond.fieldLink R_Painter 15 "StrokeRaster$Painter" "pieces" "LStrokeRaster$Pieces;" ∈ allw := kw_2 (k := 37) rfl rfl
theorem k_f_Painter_19 : Cond.fieldLink R_Painter 19 "StrokeRaster$Painter" "grid" "LStrokeRaster$Grid;" ∈ allw := kw_2 (k := 38) rfl rfl
theorem k_f_SR_10 : Cond.fieldLink R_SR 10 "StrokeRaster" "path" "LStrokeRaster$Path;" ∈ allw := kw_2 (k := 46) rfl rfl
theorem k_f_SR_19 : Cond.fieldLink R_SR 19 "StrokeRaster" "tool" "LStrokeRaster$Pen;" ∈ allw := kw_2 (k := 47) rfl rfl
theorem k_f_SR_26 : Cond.fieldLink R_SR 26 "StrokeRaster" "pieces" "LStrokeRaster$Pieces;" ∈ allw := kw_2 (k := 48) rfl rfl
theorem k_f_SR_35 : Cond.fieldLink R_SR 35 "StrokeRaster" "walker" "LStrokeRaster$Walker;" ∈ allw := kw_2 (k := 49) rfl rfl
theorem k_f_SR_42 : Cond.fieldLink R_SR 42 "StrokeRaster" "grid" "LStrokeRaster$Grid;" ∈ allw := kw_2 (k := 50) rfl rfl
theorem k_f_SR_51 : Cond.fieldLink R_SR 51 "StrokeRaster" "painter" "LStrokeRaster$Painter;" ∈ allw := kw_2 (k := 51) rfl rfl
theorem k_f_SR_55 : Cond.fieldLink R_SR 55 "StrokeRaster" "picture" "[J" ∈ allw := kw_2 (k := 52) rfl rfl
theorem k_f_SR_190 : Cond.fieldLink R_SR 190 "StrokeRaster" "known" "J" ∈ allw := kw_2 (k := 53) rfl rfl
theorem k_f_SR_97 : Cond.fieldLink R_SR 97 "StrokeRaster" "firstControlX" "I" ∈ allw := kw_2 (k := 54) rfl rfl
theorem k_f_SR_100 : Cond.fieldLink R_SR 100 "StrokeRaster" "firstControlY" "I" ∈ allw := kw_2 (k := 55) rfl rfl
theorem k_f_SR_103 : Cond.fieldLink R_SR 103 "StrokeRaster" "secondControlX" "I" ∈ allw := kw_2 (k := 56) rfl rfl
theorem k_f_SR_106 : Cond.fieldLink R_SR 106 "StrokeRaster" "secondControlY" "I" ∈ allw := kw_2 (k := 57) rfl rfl
theorem k_m_La_81 : Cond.methodLink R_La 81 y_SR_clear ∈ allw := kw_2 (k := 83) rfl rfl
theorem k_im_SR_clear : Cond.instanceMethod y_SR_clear ∈ allw := kw_2 (k := 84) rfl rfl
theorem k_se_SR_clear : Cond.selects R_SR y_SR_clear y_SR_clear ∈ allw := kw_2 (k := 85) rfl rfl
theorem k_cd_SR_clear : Cond.code y_SR_clear b_SR_clear 2 (some .int) ∈ allw := kw_2 (k := 86) rfl rfl
theorem k_m_SR_125 : Cond.methodLink R_SR 125 y_Path_drop ∈ allw := kw_2 (k := 87) rfl rfl
theorem k_im_Path_drop : Cond.instanceMethod y_Path_drop ∈ allw := kw_2 (k := 88) rfl rfl
theorem k_se_Path_drop : Cond.selects R_Path y_Path_drop y_Path_drop ∈ allw := kw_2 (k := 89) rfl rfl
theorem k_cd_Path_drop : Cond.code y_Path_drop b_Path_drop 1 none ∈ allw := kw_2 (k := 90) rfl rfl
theorem k_m_SR_86 : Cond.methodLink R_SR 86 y_SR_forget ∈ allw := kw_2 (k := 91) rfl rfl
theorem k_im_SR_forget : Cond.instanceMethod y_SR_forget ∈ allw := kw_2 (k := 93) rfl rfl
theorem k_cd_SR_forget : Cond.code y_SR_forget b_SR_forget 1 none ∈ allw := kw_2 (k := 94) rfl rfl
theorem k_m_SR_206 : Cond.methodLink R_SR 206 y_Walker_forget ∈ allw := kw_2 (k := 95) rfl rfl
theorem k_im_Walker_forget : Cond.instanceMethod y_Walker_forget ∈ allw := kw_2 (k := 96) rfl rfl
theorem k_se_Walker_forget : Cond.selects R_Walker y_Walker_forget y_Walker_forget ∈ allw := kw_2 (k := 97) rfl rfl
theorem k_cd_Walker_forget : Cond.code y_Walker_forget b_Walker_forget 1 none ∈ allw := kw_2 (k := 98) rfl rfl
theorem k_m_La_95 : Cond.methodLink R_La 95 y_SR_count ∈ allw := kw_2 (k := 99) rfl rfl
theorem k_im_SR_count : Cond.instanceMethod y_SR_count ∈ allw := kw_2 (k := 100) rfl rfl
theorem k_se_SR_count : Cond.selects R_SR y_SR_count y_SR_count ∈ allw := kw_2 (k := 101) rfl rfl
theorem k_cd_SR_count : Cond.code y_SR_count b_SR_count 2 (some .int) ∈ allw := kw_2 (k := 102) rfl rfl
theorem k_m_SR_151 : Cond.methodLink R_SR 151 y_Walker_walk ∈ allw := kw_2 (k := 103) rfl rfl
theorem k_im_Walker_walk : Cond.instanceMethod y_Walker_walk ∈ allw := kw_2 (k := 104) rfl rfl
theorem k_se_Walker_walk : Cond.selects R_Walker y_Walker_walk y_Walker_walk ∈ allw := kw_2 (k := 105) rfl rfl
theorem k_cd_Walker_walk : Cond.code y_Walker_walk b_Walker_walk 2 none ∈ allw := kw_2 (k := 106) rfl rfl
theorem k_m_Walker_27 : Cond.methodLink R_Walker 27 y_Pieces_drop ∈ allw := kw_2 (k := 107) rfl rfl
theorem k_im_Pieces_drop : Cond.instanceMethod y_Pieces_drop ∈ allw := kw_2 (k := 108) rfl rfl
theorem k_se_Pieces_drop : Cond.selects R_Pieces y_Pieces_drop y_Pieces_drop ∈ allw := kw_2 (k := 109) rfl rfl
theorem k_cd_Pieces_drop : Cond.code y_Pieces_drop b_Pieces_drop 1 none ∈ allw := kw_2 (k := 110) rfl rfl
theorem k_m_Walker_32 : Cond.methodLink R_Walker 32 y_Walker_passPhase ∈ allw := kw_2 (k := 111) rfl rfl
theorem k_im_Walker_passPhase : Cond.instanceMethod y_Walker_passPhase ∈ allw := kw_2 (k := 113) rfl rfl
theorem k_cd_Walker_passPhase : Cond.code y_Walker_passPhase b_Walker_passPhase 3 none ∈ allw := kw_2 (k := 114) rfl rfl
theorem k_m_Walker_62 : Cond.methodLink R_Walker 62 y_Math_floorMod_III ∈ allw := kw_2 (k := 115) rfl rfl
theorem k_st_Math_floorMod_III : Cond.static y_Math_floorMod_III ∈ allw := kw_2 (k := 116) rfl rfl
theorem k_cd_Math_floorMod_III : Cond.code y_Math_floorMod_III b_Math_floorMod_III 3 (some .int) ∈ allw := kw_2 (k := 117) rfl rfl
theorem k_m_Walker_72 : Cond.methodLink R_Walker 72 y_Walker_dashAfter ∈ allw := kw_2 (k := 118) rfl rfl
theorem k_im_Walker_dashAfter : Cond.instanceMethod y_Walker_dashAfter ∈ allw := kw_2 (k := 120) rfl rfl
theorem k_cd_Walker_dashAfter : Cond.code y_Walker_dashAfter b_Walker_dashAfter 2 (some .int) ∈ allw := kw_2 (k := 121) rfl rfl
theorem k_m_Walker_44 : Cond.methodLink R_Walker 44 y_Walker_walkSubpath ∈ allw := kw_2 (k := 122) rfl rfl
theorem k_im_Walker_walkSubpath : Cond.instanceMethod y_Walker_walkSubpath ∈ allw := kw_2 (k := 124) rfl rfl
theorem k_cd_Walker_walkSubpath : Cond.code y_Walker_walkSubpath b_Walker_walkSubpath 10 none ∈ allw := kw_2 (k := 125) rfl rfl
theorem k_m_Walker_85 : Cond.methodLink R_Walker 85 y_Path_behind ∈ allw := kw_2 (k := 126) rfl rfl
theorem k_im_Path_behind : Cond.instanceMethod y_Path_behind ∈ allw := kw_2 (k := 127) rfl rfl
theorem k_se_Path_behind : Cond.selects R_Path y_Path_behind y_Path_behind ∈ allw := kw_2 (k := 128) rfl rfl
theorem k_cd_Path_behind : Cond.code y_Path_behind b_Path_behind 2 (some .int) ∈ allw := kw_2 (k := 129) rfl rfl
theorem k_m_Walker_95 : Cond.methodLink R_Walker 95 y_Pen_isDashed ∈ allw := kw_2 (k := 130) rfl rfl
theorem k_im_Pen_isDashed : Cond.instanceMethod y_Pen_isDashed ∈ allw := kw_2 (k := 131) rfl rfl
theorem k_se_Pen_isDashed : Cond.selects R_Pen y_Pen_isDashed y_Pen_isDashed ∈ allw := kw_2 (k := 132) rfl rfl
theorem k_cd_Pen_isDashed : Cond.code y_Pen_isDashed b_Pen_isDashed 1 (some .boolean) ∈ allw := kw_2 (k := 133) rfl rfl
theorem k_m_Walker_108 : Cond.methodLink R_Walker 108 y_Walker_takeSegment ∈ allw := kw_2 (k := 134) rfl rfl
theorem k_im_Walker_takeSegment : Cond.instanceMethod y_Walker_takeSegment ∈ allw := kw_2 (k := 136) rfl rfl
theorem k_cd_Walker_takeSegment : Cond.code y_Walker_takeSegment b_Walker_takeSegment 5 (some .boolean) ∈ allw := kw_2 (k := 137) rfl rfl
theorem k_m_Walker_149 : Cond.methodLink R_Walker 149 y_Walker_offsetPart ∈ allw := kw_2 (k := 138) rfl rfl
theorem k_im_Walker_offsetPart : Cond.instanceMethod y_Walker_offsetPart ∈ allw := kw_2 (k := 140) rfl rfl
theorem k_cd_Walker_offsetPart : Cond.code y_Walker_offsetPart b_Walker_offsetPart 7 (some .int) ∈ allw := kw_2 (k := 141) rfl rfl
theorem k_k_Walker_165 : Cond.constantLong R_Walker 165 (2) ∈ allw := kw_2 (k := 142) rfl rfl
theorem k_st_SR_root : Cond.static y_SR_root ∈ allw := kw_2 (k := 144) rfl rfl
theorem k_cd_SR_root : Cond.code y_SR_root b_SR_root 8 (some .long) ∈ allw := kw_2 (k := 145) rfl rfl
theorem k_k_SR_209 : Cond.constantLong R_SR 209 (8388608) ∈ allw := kw_2 (k := 146) rfl rfl
theorem k_k_Walker_159 : Cond.constantLong R_Walker 159 (65536) ∈ allw := kw_2 (k := 147) rfl rfl
theorem k_m_Walker_112 : Cond.methodLink R_Walker 112 y_Walker_cutSegment ∈ allw := kw_2 (k := 148) rfl rfl
theorem k_im_Walker_cutSegment : Cond.instanceMethod y_Walker_cutSegment ∈ allw := kw_2 (k := 150) rfl rfl
theorem k_cd_Walker_cutSegment : Cond.code y_Walker_cutSegment b_Walker_cutSegment 4 none ∈ allw := kw_2 (k := 151) rfl rfl
theorem k_k_Walker_170 : Cond.constant R_Walker 170 (1000000) ∈ allw := kw_2 (k := 152) rfl rfl
theorem k_m_Walker_171 : Cond.methodLink R_Walker 171 Lib.Math.min.name ∈ allw := kw_2 (k := 153) rfl rfl
theorem k_st_min : Cond.static Lib.Math.min.name ∈ allw := kw_2 (k := 154) rfl rfl
theorem k_cd_min : Cond.code Lib.Math.min.name Lib.Math.min.code 2 (some .int) ∈ allw := kw_2 (k := 155) rfl rfl
theorem k_m_Walker_118 : Cond.methodLink R_Walker 118 y_Walker_addPiece ∈ allw := kw_2 (k := 156) rfl rfl
theorem k_im_Walker_addPiece : Cond.instanceMethod y_Walker_addPiece ∈ allw := kw_2 (k := 158) rfl rfl
theorem k_cd_Walker_addPiece : Cond.code y_Walker_addPiece b_Walker_addPiece 3 none ∈ allw := kw_2 (k := 159) rfl rfl
theorem k_m_Walker_174 : Cond.methodLink R_Walker 174 y_Walker_fineAt ∈ allw := kw_2 (k := 160) rfl rfl
theorem k_im_Walker_fineAt : Cond.instanceMethod y_Walker_fineAt ∈ allw := kw_2 (k := 162) rfl rfl
theorem k_cd_Walker_fineAt : Cond.code y_Walker_fineAt b_Walker_fineAt 4 (some .int) ∈ allw := kw_2 (k := 163) rfl rfl
theorem k_k_Walker_182 : Cond.constantLong R_Walker 182 (32) ∈ allw := kw_2 (k := 164) rfl rfl
theorem k_m_Walker_184 : Cond.methodLink R_Walker 184 y_Math_floorDiv_JJJ ∈ allw := kw_2 (k := 165) rfl rfl
theorem k_st_Math_floorDiv_JJJ : Cond.static y_Math_floorDiv_JJJ ∈ allw := kw_2 (k := 166) rfl rfl
theorem k_cd_Math_floorDiv_JJJ : Cond.code y_Math_floorDiv_JJJ b_Math_floorDiv_JJJ 6 (some .long) ∈ allw := kw_2 (k := 167) rfl rfl
theorem k_m_Walker_178 : Cond.methodLink R_Walker 178 y_Pieces_add ∈ allw := kw_2 (k := 168) rfl rfl
theorem k_im_Pieces_add : Cond.instanceMethod y_Pieces_add ∈ allw := kw_2 (k := 169) rfl rfl
theorem k_se_Pieces_add : Cond.selects R_Pieces y_Pieces_add y_Pieces_add ∈ allw := kw_2 (k := 170) rfl rfl
theorem k_cd_Pieces_add : Cond.code y_Pieces_add b_Pieces_add 7 none ∈ allw := kw_2 (k := 171) rfl rfl
theorem k_m_Pieces_47 : Cond.methodLink R_Pieces 47 Lib.Math.min.name ∈ allw := kw_2 (k := 172) rfl rfl
theorem k_m_Pieces_53 : Cond.methodLink R_Pieces 53 y_Pieces_grow ∈ allw := kw_2 (k := 173) rfl rfl
theorem k_im_Pieces_grow : Cond.instanceMethod y_Pieces_grow ∈ allw := kw_2 (k := 175) rfl rfl
theorem k_cd_Pieces_grow : Cond.code y_Pieces_grow b_Pieces_grow 2 none ∈ allw := kw_2 (k := 176) rfl rfl
theorem k_m_Pieces_64 : Cond.methodLink R_Pieces 64 y_Arr_copyOf_AIIAI ∈ allw := kw_2 (k := 177) rfl rfl
theorem k_st_Arr_copyOf_AIIAI : Cond.static y_Arr_copyOf_AIIAI ∈ allw := kw_2 (k := 178) rfl rfl
theorem k_cd_Arr_copyOf_AIIAI : Cond.code y_Arr_copyOf_AIIAI b_Arr_copyOf_AIIAI 3 (some (.array .int)) ∈ allw := kw_2 (k := 179) rfl rfl
theorem k_c_Arr_317 : Cond.classLink R_Arr 317 "[I" ∈ allw := kw_2 (k := 186) rfl rfl
theorem k_m_Arr_304 : Cond.methodLink R_Arr 304 Lib.Math.min.name ∈ allw := kw_2 (k := 187) rfl rfl
theorem k_m_Arr_150 : Cond.methodLink R_Arr 150 arraycopyName ∈ allw := kw_2 (k := 188) rfl rfl
theorem k_st_arraycopy : Cond.static arraycopyName ∈ allw := kw_2 (k := 189) rfl rfl
theorem k_na_arraycopy : Cond.native arraycopyName ∈ allw := kw_2 (k := 190) rfl rfl
theorem k_m_Walker_134 : Cond.methodLink R_Walker 134 y_Pieces_endChain ∈ allw := kw_2 (k := 191) rfl rfl
theorem k_im_Pieces_endChain : Cond.instanceMethod y_Pieces_endChain ∈ allw := kw_2 (k := 192) rfl rfl
theorem k_se_Pieces_endChain : Cond.selects R_Pieces y_Pieces_endChain y_Pieces_endChain ∈ allw := kw_2 (k := 193) rfl rfl
theorem k_cd_Pieces_endChain : Cond.code y_Pieces_endChain b_Pieces_endChain 2 none ∈ allw := kw_2 (k := 194) rfl rfl
theorem k_m_Walker_128 : Cond.methodLink R_Walker 128 y_Pieces_addDot ∈ allw := kw_2 (k := 195) rfl rfl
theorem k_im_Pieces_addDot : Cond.instanceMethod y_Pieces_addDot ∈ allw := kw_2 (k := 196) rfl rfl
theorem k_se_Pieces_addDot : Cond.selects R_Pieces y_Pieces_addDot y_Pieces_addDot ∈ allw := kw_2 (k := 197) rfl rfl
theorem k_cd_Pieces_addDot : Cond.code y_Pieces_addDot b_Pieces_addDot 3 none ∈ allw := kw_2 (k := 198) rfl rfl
theorem k_m_Pieces_57 : Cond.methodLink R_Pieces 57 y_Pieces_add ∈ allw := kw_2 (k := 199) rfl rfl
theorem k_m_Pieces_61 : Cond.methodLink R_Pieces 61 y_Pieces_endChain ∈ allw := kw_2 (k := 200) rfl rfl
theorem k_m_Walker_131 : Cond.methodLink R_Walker 131 y_Pieces_closeChain ∈ allw := kw_2 (k := 201) rfl rfl
theorem k_im_Pieces_closeChain : Cond.instanceMethod y_Pieces_closeChain ∈ allw := kw_2 (k := 202) rfl rfl
theorem k_se_Pieces_closeChain : Cond.selects R_Pieces y_Pieces_closeChain y_Pieces_closeChain ∈ allw := kw_2 (k := 203) rfl rfl
theorem k_cd_Pieces_closeChain : Cond.code y_Pieces_closeChain b_Pieces_closeChain 2 none ∈ allw := kw_2 (k := 204) rfl rfl
theorem k_m_SR_161 : Cond.methodLink R_SR 161 y_SR_paintPicture ∈ allw := kw_2 (k := 205) rfl rfl
theorem k_im_SR_paintPicture : Cond.instanceMethod y_SR_paintPicture ∈ allw := kw_2 (k := 207) rfl rfl
theorem k_cd_SR_paintPicture : Cond.code y_SR_paintPicture b_SR_paintPicture 2 none ∈ allw := kw_2 (k := 208) rfl rfl
theorem k_k_SR_207 : Cond.constantLong R_SR 207 (-1) ∈ allw := kw_2 (k := 209) rfl rfl
theorem k_m_SR_168 : Cond.methodLink R_SR 168 y_Grid_across ∈ allw := kw_2 (k := 210) rfl rfl
theorem k_im_Grid_across : Cond.instanceMethod y_Grid_across ∈ allw := kw_2 (k := 211) rfl rfl
theorem k_se_Grid_across : Cond.selects R_Grid y_Grid_across y_Grid_across ∈ allw := kw_2 (k := 212) rfl rfl
theorem k_cd_Grid_across : Cond.code y_Grid_across b_Grid_across 4 none ∈ allw := kw_2 (k := 213) rfl rfl
theorem k_m_Grid_41 : Cond.methodLink R_Grid 41 Lib.Math.max.name ∈ allw := kw_2 (k := 214) rfl rfl
theorem k_st_max : Cond.static Lib.Math.max.name ∈ allw := kw_2 (k := 215) rfl rfl
theorem k_cd_max : Cond.code Lib.Math.max.name Lib.Math.max.code 2 (some .int) ∈ allw := kw_2 (k := 216) rfl rfl
theorem k_m_Grid_47 : Cond.methodLink R_Grid 47 Lib.Math.min.name ∈ allw := kw_2 (k := 217) rfl rfl
theorem k_m_Grid_50 : Cond.methodLink R_Grid 50 y_Grid_bitsFromTo ∈ allw := kw_2 (k := 218) rfl rfl
theorem k_st_Grid_bitsFromTo : Cond.static y_Grid_bitsFromTo ∈ allw := kw_2 (k := 219) rfl rfl
theorem k_cd_Grid_bitsFromTo : Cond.code y_Grid_bitsFromTo b_Grid_bitsFromTo 4 (some .long) ∈ allw := kw_2 (k := 220) rfl rfl
theorem k_k_Grid_79 : Cond.constantLong R_Grid 79 (-1) ∈ allw := kw_2 (k := 221) rfl rfl
theorem k_k_Grid_120 : Cond.constantLong R_Grid 120 (63) ∈ allw := kw_2 (k := 222) rfl rfl
theorem k_m_SR_172 : Cond.methodLink R_SR 172 y_Grid_upwards ∈ allw := kw_2 (k := 223) rfl rfl
theorem k_im_Grid_upwards : Cond.instanceMethod y_Grid_upwards ∈ allw := kw_2 (k := 224) rfl rfl
theorem k_se_Grid_upwards : Cond.selects R_Grid y_Grid_upwards y_Grid_upwards ∈ allw := kw_2 (k := 225) rfl rfl
theorem k_cd_Grid_upwards : Cond.code y_Grid_upwards b_Grid_upwards 4 none ∈ allw := kw_2 (k := 226) rfl rfl
theorem k_m_Grid_60 : Cond.methodLink R_Grid 60 y_Arr_fill_AJJV ∈ allw := kw_2 (k := 227) rfl rfl
theorem k_st_Arr_fill_AJJV : Cond.static y_Arr_fill_AJJV ∈ allw := kw_2 (k := 228) rfl rfl
theorem k_cd_Arr_fill_AJJV : Cond.code y_Arr_fill_AJJV b_Arr_fill_AJJV 5 none ∈ allw := kw_2 (k := 229) rfl rfl
theorem k_m_SR_175 : Cond.methodLink R_SR 175 y_Painter_paint ∈ allw := kw_2 (k := 230) rfl rfl
theorem k_im_Painter_paint : Cond.instanceMethod y_Painter_paint ∈ allw := kw_2 (k := 231) rfl rfl
theorem k_se_Painter_paint : Cond.selects R_Painter y_Painter_paint y_Painter_paint ∈ allw := kw_2 (k := 232) rfl rfl
theorem k_cd_Painter_paint : Cond.code y_Painter_paint b_Painter_paint 2 none ∈ allw := kw_2 (k := 233) rfl rfl
theorem k_m_Painter_29 : Cond.methodLink R_Painter 29 y_Grid_isFilled ∈ allw := kw_2 (k := 234) rfl rfl
theorem k_im_Grid_isFilled : Cond.instanceMethod y_Grid_isFilled ∈ allw := kw_2 (k := 235) rfl rfl
theorem k_se_Grid_isFilled : Cond.selects R_Grid y_Grid_isFilled y_Grid_isFilled ∈ allw := kw_2 (k := 236) rfl rfl
theorem k_cd_Grid_isFilled : Cond.code y_Grid_isFilled b_Grid_isFilled 2 (some .boolean) ∈ allw := kw_2 (k := 237) rfl rfl
theorem k_m_Painter_35 : Cond.methodLink R_Painter 35 y_Painter_isNear ∈ allw := kw_2 (k := 238) rfl rfl
theorem k_im_Painter_isNear : Cond.instanceMethod y_Painter_isNear ∈ allw := kw_3 (k := 0) rfl rfl
theorem k_cd_Painter_isNear : Cond.code y_Painter_isNear b_Painter_isNear 3 (some .boolean) ∈ allw := kw_3 (k := 1) rfl rfl
theorem k_m_Painter_67 : Cond.methodLink R_Painter 67 Lib.Math.min.name ∈ allw := kw_3 (k := 2) rfl rfl
theorem k_m_Painter_73 : Cond.methodLink R_Painter 73 Lib.Math.max.name ∈ allw := kw_3 (k := 3) rfl rfl
theorem k_m_Painter_82 : Cond.methodLink R_Painter 82 y_Grid_meets ∈ allw := kw_3 (k := 4) rfl rfl
theorem k_im_Grid_meets : Cond.instanceMethod y_Grid_meets ∈ allw := kw_3 (k := 5) rfl rfl
theorem k_se_Grid_meets : Cond.selects R_Grid y_Grid_meets y_Grid_meets ∈ allw := kw_3 (k := 6) rfl rfl
theorem k_cd_Grid_meets : Cond.code y_Grid_meets b_Grid_meets 9 (some .boolean) ∈ allw := kw_3 (k := 7) rfl rfl
theorem k_m_Painter_39 : Cond.methodLink R_Painter 39 y_Painter_paintBody ∈ allw := kw_3 (k := 8) rfl rfl
theorem k_im_Painter_paintBody : Cond.instanceMethod y_Painter_paintBody ∈ allw := kw_3 (k := 10) rfl rfl
theorem k_cd_Painter_paintBody : Cond.code y_Painter_paintBody b_Painter_paintBody 6 none ∈ allw := kw_3 (k := 11) rfl rfl
theorem k_m_Painter_92 : Cond.methodLink R_Painter 92 y_Grid_from ∈ allw := kw_3 (k := 12) rfl rfl
theorem k_im_Grid_from : Cond.instanceMethod y_Grid_from ∈ allw := kw_3 (k := 13) rfl rfl
theorem k_se_Grid_from : Cond.selects R_Grid y_Grid_from y_Grid_from ∈ allw := kw_3 (k := 14) rfl rfl
theorem k_cd_Grid_from : Cond.code y_Grid_from b_Grid_from 3 none ∈ allw := kw_3 (k := 15) rfl rfl
theorem k_m_Painter_96 : Cond.methodLink R_Painter 96 y_Grid_corner ∈ allw := kw_3 (k := 16) rfl rfl
theorem k_im_Grid_corner : Cond.instanceMethod y_Grid_corner ∈ allw := kw_3 (k := 17) rfl rfl
theorem k_se_Grid_corner : Cond.selects R_Grid y_Grid_corner y_Grid_corner ∈ allw := kw_3 (k := 18) rfl rfl
theorem k_cd_Grid_corner : Cond.code y_Grid_corner b_Grid_corner 5 none ∈ allw := kw_3 (k := 19) rfl rfl
theorem k_m_Painter_100 : Cond.methodLink R_Painter 100 y_Grid_polygon ∈ allw := kw_3 (k := 20) rfl rfl
theorem k_im_Grid_polygon : Cond.instanceMethod y_Grid_polygon ∈ allw := kw_3 (k := 21) rfl rfl
theorem k_se_Grid_polygon : Cond.selects R_Grid y_Grid_polygon y_Grid_polygon ∈ allw := kw_3 (k := 22) rfl rfl
theorem k_cd_Grid_polygon : Cond.code y_Grid_polygon b_Grid_polygon 6 none ∈ allw := kw_3 (k := 23) rfl rfl
theorem k_m_Grid_75 : Cond.methodLink R_Grid 75 y_Grid_doubledArea ∈ allw := kw_3 (k := 24) rfl rfl
theorem k_im_Grid_doubledArea : Cond.instanceMethod y_Grid_doubledArea ∈ allw := kw_3 (k := 26) rfl rfl
theorem k_cd_Grid_doubledArea : Cond.code y_Grid_doubledArea b_Grid_doubledArea 5 (some .long) ∈ allw := kw_3 (k := 27) rfl rfl
theorem k_m_Grid_84 : Cond.methodLink R_Grid 84 y_Grid_least ∈ allw := kw_3 (k := 28) rfl rfl
theorem k_im_Grid_least : Cond.instanceMethod y_Grid_least ∈ allw := kw_3 (k := 30) rfl rfl
theorem k_cd_Grid_least : Cond.code y_Grid_least b_Grid_least 5 (some .long) ∈ allw := kw_3 (k := 31) rfl rfl
theorem k_m_Grid_102 : Cond.methodLink R_Grid 102 Lib.MathLoose.min_long.x ∈ allw := kw_3 (k := 32) rfl rfl
theorem k_st_min_long : Cond.static Lib.MathLoose.min_long.x ∈ allw := kw_3 (k := 33) rfl rfl
theorem k_cd_min_long : Cond.code Lib.MathLoose.min_long.x Lib.MathLoose.min_long.code 4 (some .long) ∈ allw := kw_3 (k := 34) rfl rfl
theorem k_m_Grid_88 : Cond.methodLink R_Grid 88 y_Grid_firstRow ∈ allw := kw_3 (k := 35) rfl rfl
theorem k_im_Grid_firstRow : Cond.instanceMethod y_Grid_firstRow ∈ allw := kw_3 (k := 37) rfl rfl
theorem k_cd_Grid_firstRow : Cond.code y_Grid_firstRow b_Grid_firstRow 3 (some .int) ∈ allw := kw_3 (k := 38) rfl rfl
theorem k_m_Grid_106 : Cond.methodLink R_Grid 106 y_Math_floorDiv_JJJ ∈ allw := kw_3 (k := 39) rfl rfl
theorem k_m_Grid_104 : Cond.methodLink R_Grid 104 Lib.MathLoose.max_long.x ∈ allw := kw_3 (k := 40) rfl rfl
theorem k_st_max_long : Cond.static Lib.MathLoose.max_long.x ∈ allw := kw_3 (k := 41) rfl rfl
theorem k_cd_max_long : Cond.code Lib.MathLoose.max_long.x Lib.MathLoose.max_long.code 4 (some .long) ∈ allw := kw_3 (k := 42) rfl rfl
theorem k_m_Grid_92 : Cond.methodLink R_Grid 92 y_Grid_greatest ∈ allw := kw_3 (k := 43) rfl rfl
theorem k_im_Grid_greatest : Cond.instanceMethod y_Grid_greatest ∈ allw := kw_3 (k := 45) rfl rfl
theorem k_cd_Grid_greatest : Cond.code y_Grid_greatest b_Grid_greatest 5 (some .long) ∈ allw := kw_3 (k := 46) rfl rfl
theorem k_m_Grid_95 : Cond.methodLink R_Grid 95 y_Grid_lastRow ∈ allw := kw_3 (k := 47) rfl rfl
theorem k_im_Grid_lastRow : Cond.instanceMethod y_Grid_lastRow ∈ allw := kw_3 (k := 49) rfl rfl
theorem k_cd_Grid_lastRow : Cond.code y_Grid_lastRow b_Grid_lastRow 3 (some .int) ∈ allw := kw_3 (k := 50) rfl rfl
theorem k_m_Grid_98 : Cond.methodLink R_Grid 98 y_Grid_polygonBits ∈ allw := kw_3 (k := 51) rfl rfl
theorem k_im_Grid_polygonBits : Cond.instanceMethod y_Grid_polygonBits ∈ allw := kw_3 (k := 53) rfl rfl
theorem k_cd_Grid_polygonBits : Cond.code y_Grid_polygonBits b_Grid_polygonBits 17 (some .long) ∈ allw := kw_3 (k := 54) rfl rfl
theorem k_m_Painter_43 : Cond.methodLink R_Painter 43 y_Painter_paintCaps ∈ allw := kw_3 (k := 55) rfl rfl
theorem k_im_Painter_paintCaps : Cond.instanceMethod y_Painter_paintCaps ∈ allw := kw_3 (k := 57) rfl rfl
theorem k_cd_Painter_paintCaps : Cond.code y_Painter_paintCaps b_Painter_paintCaps 2 none ∈ allw := kw_3 (k := 58) rfl rfl
theorem k_m_Painter_106 : Cond.methodLink R_Painter 106 y_Painter_paintCap ∈ allw := kw_3 (k := 59) rfl rfl
theorem k_im_Painter_paintCap : Cond.instanceMethod y_Painter_paintCap ∈ allw := kw_3 (k := 61) rfl rfl
theorem k_cd_Painter_paintCap : Cond.code y_Painter_paintCap b_Painter_paintCap 9 none ∈ allw := kw_3 (k := 62) rfl rfl
theorem k_m_Painter_116 : Cond.methodLink R_Painter 116 y_Grid_disc ∈ allw := kw_3 (k := 63) rfl rfl
theorem k_im_Grid_disc : Cond.instanceMethod y_Grid_disc ∈ allw := kw_3 (k := 64) rfl rfl
theorem k_se_Grid_disc : Cond.selects R_Grid y_Grid_disc y_Grid_disc ∈ allw := kw_3 (k := 65) rfl rfl
theorem k_cd_Grid_disc : Cond.code y_Grid_disc b_Grid_disc 6 none ∈ allw := kw_3 (k := 66) rfl rfl
theorem k_m_Grid_109 : Cond.methodLink R_Grid 109 y_Grid_meets ∈ allw := kw_3 (k := 67) rfl rfl
theorem k_m_Grid_113 : Cond.methodLink R_Grid 113 y_Grid_discBits ∈ allw := kw_3 (k := 68) rfl rfl
theorem k_im_Grid_discBits : Cond.instanceMethod y_Grid_discBits ∈ allw := kw_3 (k := 70) rfl rfl
theorem k_cd_Grid_discBits : Cond.code y_Grid_discBits b_Grid_discBits 14 (some .long) ∈ allw := kw_3 (k := 71) rfl rfl
theorem k_m_Painter_46 : Cond.methodLink R_Painter 46 y_Painter_paintJoin ∈ allw := kw_3 (k := 73) rfl rfl
theorem k_im_Painter_paintJoin : Cond.instanceMethod y_Painter_paintJoin ∈ allw := kw_3 (k := 75) rfl rfl
theorem k_cd_Painter_paintJoin : Cond.code y_Painter_paintJoin b_Painter_paintJoin 4 none ∈ allw := kw_3 (k := 76) rfl rfl
theorem k_m_Painter_120 : Cond.methodLink R_Painter 120 y_Painter_turnSign ∈ allw := kw_3 (k := 77) rfl rfl
theorem k_im_Painter_turnSign : Cond.instanceMethod y_Painter_turnSign ∈ allw := kw_3 (k := 79) rfl rfl
theorem k_cd_Painter_turnSign : Cond.code y_Painter_turnSign b_Painter_turnSign 5 (some .int) ∈ allw := kw_3 (k := 80) rfl rfl
theorem k_m_Painter_123 : Cond.methodLink R_Painter 123 y_Long_signum_JI ∈ allw := kw_3 (k := 81) rfl rfl
theorem k_st_Long_signum_JI : Cond.static y_Long_signum_JI ∈ allw := kw_3 (k := 82) rfl rfl
theorem k_cd_Long_signum_JI : Cond.code y_Long_signum_JI b_Long_signum_JI 2 (some .int) ∈ allw := kw_3 (k := 83) rfl rfl
theorem k_m_Painter_54 : Cond.methodLink R_Painter 54 y_Painter_paintMiter ∈ allw := kw_3 (k := 84) rfl rfl
theorem k_im_Painter_paintMiter : Cond.instanceMethod y_Painter_paintMiter ∈ allw := kw_3 (k := 86) rfl rfl
theorem k_cd_Painter_paintMiter : Cond.code y_Painter_paintMiter b_Painter_paintMiter 12 none ∈ allw := kw_3 (k := 87) rfl rfl
theorem k_k_Painter_129 : Cond.constantLong R_Painter 129 (8192) ∈ allw := kw_3 (k := 88) rfl rfl
theorem k_m_Painter_134 : Cond.methodLink R_Painter 134 y_Math_floorDiv_JJJ ∈ allw := kw_3 (k := 89) rfl rfl
theorem k_m_SR_178 : Cond.methodLink R_SR 178 y_Grid_bits ∈ allw := kw_3 (k := 90) rfl rfl
theorem k_im_Grid_bits : Cond.instanceMethod y_Grid_bits ∈ allw := kw_3 (k := 91) rfl rfl
theorem k_se_Grid_bits : Cond.selects R_Grid y_Grid_bits y_Grid_bits ∈ allw := kw_3 (k := 92) rfl rfl
theorem k_cd_Grid_bits : Cond.code y_Grid_bits b_Grid_bits 2 (some .long) ∈ allw := kw_3 (k := 93) rfl rfl
theorem k_m_SR_164 : Cond.methodLink R_SR 164 y_SR_countSet ∈ allw := kw_3 (k := 94) rfl rfl
theorem k_im_SR_countSet : Cond.instanceMethod y_SR_countSet ∈ allw := kw_3 (k := 96) rfl rfl
theorem k_cd_SR_countSet : Cond.code y_SR_countSet b_SR_countSet 3 (some .int) ∈ allw := kw_3 (k := 97) rfl rfl
theorem k_m_SR_200 : Cond.methodLink R_SR 200 y_Long_bitCount_JI ∈ allw := kw_3 (k := 98) rfl rfl
theorem k_st_Long_bitCount_JI : Cond.static y_Long_bitCount_JI ∈ allw := kw_3 (k := 99) rfl rfl
theorem k_cd_Long_bitCount_JI : Cond.code y_Long_bitCount_JI b_Long_bitCount_JI 2 (some .int) ∈ allw := kw_3 (k := 100) rfl rfl
theorem k_k_Long_314 : Cond.constantLong R_Long 314 (6148914691236517205) ∈ allw := kw_3 (k := 101) rfl rfl
theorem k_k_Long_316 : Cond.constantLong R_Long 316 (3689348814741910323) ∈ allw := kw_3 (k := 102) rfl rfl
theorem k_k_Long_318 : Cond.constantLong R_Long 318 (1085102592571150095) ∈ allw := kw_3 (k := 103) rfl rfl
theorem k_m_La_58 : Cond.methodLink R_La 58 y_La_move ∈ allw := kw_3 (k := 104) rfl rfl
theorem k_st_La_move : Cond.static y_La_move ∈ allw := kw_3 (k := 105) rfl rfl
theorem k_c_La_13 : Cond.classLink R_La 13 "java/lang/IllegalArgumentException" ∈ allw := kw_3 (k := 107) rfl rfl
theorem k_c_La_15 : Cond.classLink R_La 15 "java/lang/IllegalStateException" ∈ allw := kw_3 (k := 108) rfl rfl
theorem k_m_La_7 : Cond.methodLink R_La 7 y_SR_move ∈ allw := kw_3 (k := 109) rfl rfl
theorem k_im_SR_move : Cond.instanceMethod y_SR_move ∈ allw := kw_3 (k := 110) rfl rfl
theorem k_se_SR_move : Cond.selects R_SR y_SR_move y_SR_move ∈ allw := kw_3 (k := 111) rfl rfl
theorem k_cd_SR_move : Cond.code y_SR_move b_SR_move 3 (some .int) ∈ allw := kw_3 (k := 112) rfl rfl
theorem k_m_SR_59 : Cond.methodLink R_SR 59 y_SR_isCoordinate ∈ allw := kw_3 (k := 113) rfl rfl
theorem k_st_SR_isCoordinate : Cond.static y_SR_isCoordinate ∈ allw := kw_3 (k := 114) rfl rfl
theorem k_cd_SR_isCoordinate : Cond.code y_SR_isCoordinate b_SR_isCoordinate 1 (some .boolean) ∈ allw := kw_3 (k := 115) rfl rfl
theorem k_c_SR_63 : Cond.classLink R_SR 63 "java/lang/IllegalArgumentException" ∈ allw := kw_3 (k := 116) rfl rfl
theorem k_c_SR_77 : Cond.classLink R_SR 77 "java/lang/IllegalStateException" ∈ allw := kw_3 (k := 184) rfl rfl
theorem k_m_SR_82 : Cond.methodLink R_SR 82 y_Path_begin ∈ allw := kw_3 (k := 200) rfl rfl
theorem k_im_Path_begin : Cond.instanceMethod y_Path_begin ∈ allw := kw_3 (k := 201) rfl rfl
theorem k_se_Path_begin : Cond.selects R_Path y_Path_begin y_Path_begin ∈ allw := kw_3 (k := 202) rfl rfl
theorem k_cd_Path_begin : Cond.code y_Path_begin b_Path_begin 3 none ∈ allw := kw_3 (k := 203) rfl rfl
theorem k_m_Path_32 : Cond.methodLink R_Path 32 y_Path_put ∈ allw := kw_3 (k := 204) rfl rfl
theorem k_im_Path_put : Cond.instanceMethod y_Path_put ∈ allw := kw_3 (k := 205) rfl rfl
theorem k_se_Path_put : Cond.selects R_Path y_Path_put y_Path_put ∈ allw := kw_3 (k := 206) rfl rfl
theorem k_cd_Path_put : Cond.code y_Path_put b_Path_put 4 none ∈ allw := kw_3 (k := 207) rfl rfl
theorem k_m_Path_36 : Cond.methodLink R_Path 36 Lib.Math.min.name ∈ allw := kw_3 (k := 208) rfl rfl
theorem k_m_Path_42 : Cond.methodLink R_Path 42 y_Arr_copyOf_AIIAI ∈ allw := kw_3 (k := 209) rfl rfl
theorem k_m_La_67 : Cond.methodLink R_La 67 y_La_line ∈ allw := kw_3 (k := 210) rfl rfl
theorem k_st_La_line : Cond.static y_La_line ∈ allw := kw_3 (k := 211) rfl rfl
theorem k_m_La_17 : Cond.methodLink R_La 17 y_SR_line ∈ allw := kw_3 (k := 213) rfl rfl
theorem k_im_SR_line : Cond.instanceMethod y_SR_line ∈ allw := kw_3 (k := 214) rfl rfl
theorem k_se_SR_line : Cond.selects R_SR y_SR_line y_SR_line ∈ allw := kw_3 (k := 215) rfl rfl
theorem k_cd_SR_line : Cond.code y_SR_line b_SR_line 3 (some .int) ∈ allw := kw_3 (k := 216) rfl rfl
theorem k_m_SR_89 : Cond.methodLink R_SR 89 y_Path_takes ∈ allw := kw_3 (k := 217) rfl rfl
theorem k_im_Path_takes : Cond.instanceMethod y_Path_takes ∈ allw := kw_3 (k := 218) rfl rfl
theorem k_se_Path_takes : Cond.selects R_Path y_Path_takes y_Path_takes ∈ allw := kw_3 (k := 219) rfl rfl
theorem k_cd_Path_takes : Cond.code y_Path_takes b_Path_takes 2 (some .boolean) ∈ allw := kw_3 (k := 220) rfl rfl
theorem k_m_Path_55 : Cond.methodLink R_Path 55 y_Path_isOpen ∈ allw := kw_3 (k := 221) rfl rfl
theorem k_im_Path_isOpen : Cond.instanceMethod y_Path_isOpen ∈ allw := kw_3 (k := 222) rfl rfl
theorem k_se_Path_isOpen : Cond.selects R_Path y_Path_isOpen y_Path_isOpen ∈ allw := kw_3 (k := 223) rfl rfl
theorem k_cd_Path_isOpen : Cond.code y_Path_isOpen b_Path_isOpen 1 (some .boolean) ∈ allw := kw_3 (k := 224) rfl rfl
theorem k_m_SR_94 : Cond.methodLink R_SR 94 y_Path_put ∈ allw := kw_3 (k := 226) rfl rfl
theorem k_m_La_70 : Cond.methodLink R_La 70 y_La_control ∈ allw := kw_3 (k := 227) rfl rfl
theorem k_st_La_control : Cond.static y_La_control ∈ allw := kw_3 (k := 228) rfl rfl
theorem k_m_La_20 : Cond.methodLink R_La 20 y_SR_control ∈ allw := kw_3 (k := 230) rfl rfl
theorem k_im_SR_control : Cond.instanceMethod y_SR_control ∈ allw := kw_3 (k := 231) rfl rfl
theorem k_se_SR_control : Cond.selects R_SR y_SR_control y_SR_control ∈ allw := kw_3 (k := 232) rfl rfl
theorem k_cd_SR_control : Cond.code y_SR_control b_SR_control 5 none ∈ allw := kw_3 (k := 233) rfl rfl
theorem k_m_La_74 : Cond.methodLink R_La 74 y_La_curve ∈ allw := kw_3 (k := 234) rfl rfl
theorem k_st_La_curve : Cond.static y_La_curve ∈ allw := kw_3 (k := 235) rfl rfl
theorem k_m_La_24 : Cond.methodLink R_La 24 y_SR_curve ∈ allw := kw_3 (k := 237) rfl rfl
theorem k_im_SR_curve : Cond.instanceMethod y_SR_curve ∈ allw := kw_3 (k := 238) rfl rfl
theorem k_se_SR_curve : Cond.selects R_SR y_SR_curve y_SR_curve ∈ allw := kw_3 (k := 239) rfl rfl
theorem k_cd_SR_curve : Cond.code y_SR_curve b_SR_curve 3 (some .int) ∈ allw := kw_4 (k := 0) rfl rfl
theorem k_m_SR_109 : Cond.methodLink R_SR 109 y_Path_bend ∈ allw := kw_4 (k := 1) rfl rfl
theorem k_im_Path_bend : Cond.instanceMethod y_Path_bend ∈ allw := kw_4 (k := 2) rfl rfl
theorem k_se_Path_bend : Cond.selects R_Path y_Path_bend y_Path_bend ∈ allw := kw_4 (k := 3) rfl rfl
theorem k_cd_Path_bend : Cond.code y_Path_bend b_Path_bend 10 none ∈ allw := kw_4 (k := 4) rfl rfl
theorem k_m_Path_48 : Cond.methodLink R_Path 48 y_Path_between ∈ allw := kw_4 (k := 5) rfl rfl
theorem k_st_Path_between : Cond.static y_Path_between ∈ allw := kw_4 (k := 6) rfl rfl
theorem k_cd_Path_between : Cond.code y_Path_between b_Path_between 7 (some .int) ∈ allw := kw_4 (k := 7) rfl rfl
theorem k_m_Path_52 : Cond.methodLink R_Path 52 y_Math_floorDiv_III ∈ allw := kw_4 (k := 8) rfl rfl
theorem k_st_Math_floorDiv_III : Cond.static y_Math_floorDiv_III ∈ allw := kw_4 (k := 9) rfl rfl
theorem k_cd_Math_floorDiv_III : Cond.code y_Math_floorDiv_III b_Math_floorDiv_III 3 (some .int) ∈ allw := kw_4 (k := 10) rfl rfl
theorem k_m_La_77 : Cond.methodLink R_La 77 y_La_close ∈ allw := kw_4 (k := 11) rfl rfl
theorem k_st_La_close : Cond.static y_La_close ∈ allw := kw_4 (k := 12) rfl rfl
theorem k_m_La_27 : Cond.methodLink R_La 27 y_SR_close ∈ allw := kw_4 (k := 14) rfl rfl
theorem k_im_SR_close : Cond.instanceMethod y_SR_close ∈ allw := kw_4 (k := 15) rfl rfl
theorem k_se_SR_close : Cond.selects R_SR y_SR_close y_SR_close ∈ allw := kw_4 (k := 16) rfl rfl
theorem k_cd_SR_close : Cond.code y_SR_close b_SR_close 1 (some .int) ∈ allw := kw_4 (k := 17) rfl rfl
theorem k_m_SR_113 : Cond.methodLink R_SR 113 y_Path_isOpen ∈ allw := kw_4 (k := 18) rfl rfl
theorem k_m_SR_119 : Cond.methodLink R_SR 119 y_Path_shutLast ∈ allw := kw_4 (k := 20) rfl rfl
theorem k_im_Path_shutLast : Cond.instanceMethod y_Path_shutLast ∈ allw := kw_4 (k := 21) rfl rfl
theorem k_se_Path_shutLast : Cond.selects R_Path y_Path_shutLast y_Path_shutLast ∈ allw := kw_4 (k := 22) rfl rfl
theorem k_cd_Path_shutLast : Cond.code y_Path_shutLast b_Path_shutLast 1 none ∈ allw := kw_4 (k := 23) rfl rfl
theorem k_m_La_85 : Cond.methodLink R_La 85 y_La_pen ∈ allw := kw_4 (k := 24) rfl rfl
theorem k_st_La_pen : Cond.static y_La_pen ∈ allw := kw_4 (k := 25) rfl rfl
theorem k_m_La_31 : Cond.methodLink R_La 31 y_SR_pen ∈ allw := kw_4 (k := 27) rfl rfl
theorem k_im_SR_pen : Cond.instanceMethod y_SR_pen ∈ allw := kw_4 (k := 28) rfl rfl
theorem k_se_SR_pen : Cond.selects R_SR y_SR_pen y_SR_pen ∈ allw := kw_4 (k := 29) rfl rfl
theorem k_cd_SR_pen : Cond.code y_SR_pen b_SR_pen 5 none ∈ allw := kw_4 (k := 30) rfl rfl
theorem k_m_SR_130 : Cond.methodLink R_SR 130 y_Pen_shape ∈ allw := kw_4 (k := 32) rfl rfl
theorem k_im_Pen_shape : Cond.instanceMethod y_Pen_shape ∈ allw := kw_4 (k := 33) rfl rfl
theorem k_se_Pen_shape : Cond.selects R_Pen y_Pen_shape y_Pen_shape ∈ allw := kw_4 (k := 34) rfl rfl
theorem k_cd_Pen_shape : Cond.code y_Pen_shape b_Pen_shape 5 none ∈ allw := kw_4 (k := 35) rfl rfl
theorem k_m_La_88 : Cond.methodLink R_La 88 y_La_dash ∈ allw := kw_4 (k := 36) rfl rfl
theorem k_st_La_dash : Cond.static y_La_dash ∈ allw := kw_4 (k := 37) rfl rfl
theorem k_m_La_34 : Cond.methodLink R_La 34 y_SR_dash ∈ allw := kw_4 (k := 39) rfl rfl
theorem k_im_SR_dash : Cond.instanceMethod y_SR_dash ∈ allw := kw_4 (k := 40) rfl rfl
theorem k_se_SR_dash : Cond.selects R_SR y_SR_dash y_SR_dash ∈ allw := kw_4 (k := 41) rfl rfl
theorem k_cd_SR_dash : Cond.code y_SR_dash b_SR_dash 2 (some .int) ∈ allw := kw_4 (k := 42) rfl rfl
theorem k_m_SR_141 : Cond.methodLink R_SR 141 y_Pen_addDash ∈ allw := kw_4 (k := 45) rfl rfl
theorem k_im_Pen_addDash : Cond.instanceMethod y_Pen_addDash ∈ allw := kw_4 (k := 46) rfl rfl
theorem k_se_Pen_addDash : Cond.selects R_Pen y_Pen_addDash y_Pen_addDash ∈ allw := kw_4 (k := 47) rfl rfl
theorem k_cd_Pen_addDash : Cond.code y_Pen_addDash b_Pen_addDash 2 none ∈ allw := kw_4 (k := 48) rfl rfl
theorem k_m_La_92 : Cond.methodLink R_La 92 y_La_plain ∈ allw := kw_4 (k := 49) rfl rfl
theorem k_st_La_plain : Cond.static y_La_plain ∈ allw := kw_4 (k := 50) rfl rfl
theorem k_m_La_38 : Cond.methodLink R_La 38 y_SR_plain ∈ allw := kw_4 (k := 52) rfl rfl
theorem k_im_SR_plain : Cond.instanceMethod y_SR_plain ∈ allw := kw_4 (k := 53) rfl rfl
theorem k_se_SR_plain : Cond.selects R_SR y_SR_plain y_SR_plain ∈ allw := kw_4 (k := 54) rfl rfl
theorem k_cd_SR_plain : Cond.code y_SR_plain b_SR_plain 3 (some .int) ∈ allw := kw_4 (k := 55) rfl rfl
theorem k_k_SR_145 : Cond.constant R_SR 145 (65535) ∈ allw := kw_4 (k := 56) rfl rfl
theorem k_m_SR_148 : Cond.methodLink R_SR 148 y_Pen_dropDashes ∈ allw := kw_4 (k := 58) rfl rfl
theorem k_im_Pen_dropDashes : Cond.instanceMethod y_Pen_dropDashes ∈ allw := kw_4 (k := 59) rfl rfl
theorem k_se_Pen_dropDashes : Cond.selects R_Pen y_Pen_dropDashes y_Pen_dropDashes ∈ allw := kw_4 (k := 60) rfl rfl
theorem k_cd_Pen_dropDashes : Cond.code y_Pen_dropDashes b_Pen_dropDashes 2 none ∈ allw := kw_4 (k := 61) rfl rfl
theorem k_m_La_99 : Cond.methodLink R_La 99 y_La_has ∈ allw := kw_4 (k := 62) rfl rfl
theorem k_st_La_has : Cond.static y_La_has ∈ allw := kw_4 (k := 63) rfl rfl
theorem k_m_La_41 : Cond.methodLink R_La 41 y_SR_has ∈ allw := kw_4 (k := 65) rfl rfl
theorem k_im_SR_has : Cond.instanceMethod y_SR_has ∈ allw := kw_4 (k := 66) rfl rfl
theorem k_se_SR_has : Cond.selects R_SR y_SR_has y_SR_has ∈ allw := kw_4 (k := 67) rfl rfl
theorem k_cd_SR_has : Cond.code y_SR_has b_SR_has 3 (some .boolean) ∈ allw := kw_4 (k := 68) rfl rfl
theorem k_m_La_102 : Cond.methodLink R_La 102 y_La_row ∈ allw := kw_4 (k := 69) rfl rfl
theorem k_st_La_row : Cond.static y_La_row ∈ allw := kw_4 (k := 70) rfl rfl
theorem k_c_La_49 : Cond.classLink R_La 49 "java/lang/IndexOutOfBoundsException" ∈ allw := kw_4 (k := 72) rfl rfl
theorem k_m_La_45 : Cond.methodLink R_La 45 y_SR_row ∈ allw := kw_4 (k := 73) rfl rfl
theorem k_im_SR_row : Cond.instanceMethod y_SR_row ∈ allw := kw_4 (k := 74) rfl rfl
theorem k_se_SR_row : Cond.selects R_SR y_SR_row y_SR_row ∈ allw := kw_4 (k := 75) rfl rfl
theorem k_cd_SR_row : Cond.code y_SR_row b_SR_row 2 (some .long) ∈ allw := kw_4 (k := 76) rfl rfl
theorem k_m_SR_182 : Cond.methodLink R_SR 182 y_SR_isInPicture ∈ allw := kw_4 (k := 77) rfl rfl
theorem k_st_SR_isInPicture : Cond.static y_SR_isInPicture ∈ allw := kw_4 (k := 78) rfl rfl
theorem k_cd_SR_isInPicture : Cond.code y_SR_isInPicture b_SR_isInPicture 1 (some .boolean) ∈ allw := kw_4 (k := 79) rfl rfl
theorem k_c_SR_185 : Cond.classLink R_SR 185 "java/lang/IndexOutOfBoundsException" ∈ allw := kw_4 (k := 80) rfl rfl
theorem k_m_SR_194 : Cond.methodLink R_SR 194 y_SR_bottom ∈ allw := kw_4 (k := 96) rfl rfl
theorem k_st_SR_bottom : Cond.static y_SR_bottom ∈ allw := kw_4 (k := 97) rfl rfl
theorem k_cd_SR_bottom : Cond.code y_SR_bottom b_SR_bottom 1 (some .int) ∈ allw := kw_4 (k := 98) rfl rfl
theorem k_m_La_105 : Cond.methodLink R_La 105 y_La_share ∈ allw := kw_4 (k := 99) rfl rfl
theorem k_st_La_share : Cond.static y_La_share ∈ allw := kw_4 (k := 100) rfl rfl
theorem k_m_La_51 : Cond.methodLink R_La 51 y_SR_share ∈ allw := kw_4 (k := 102) rfl rfl
theorem k_im_SR_share : Cond.instanceMethod y_SR_share ∈ allw := kw_4 (k := 103) rfl rfl
theorem k_se_SR_share : Cond.selects R_SR y_SR_share y_SR_share ∈ allw := kw_4 (k := 104) rfl rfl
theorem k_cd_SR_share : Cond.code y_SR_share b_SR_share 5 (some .int) ∈ allw := kw_4 (k := 105) rfl rfl
theorem k_c_La_55 : Cond.classLink R_La 55 "StrokeRasterModel" ∈ allw := kw_4 (k := 107) rfl rfl
theorem k_ib_Mo : Cond.instantiable R_Mo 38 ∈ allw := kw_4 (k := 108) rfl rfl
theorem k_m_La_57 : Cond.methodLink R_La 57 y_Mo_init ∈ allw := kw_4 (k := 109) rfl rfl
theorem k_im_Mo_init : Cond.instanceMethod y_Mo_init ∈ allw := kw_4 (k := 110) rfl rfl
theorem k_cd_Mo_init : Cond.code y_Mo_init b_Mo_init 1 none ∈ allw := kw_4 (k := 111) rfl rfl
theorem k_m_Mo_1 : Cond.methodLink R_Mo 1 objectInit ∈ allw := kw_4 (k := 112) rfl rfl
theorem k_f_Mo_82 : Cond.fieldLink R_Mo 82 "StrokeRasterModel" "fault" "I" ∈ allw := kw_4 (k := 113) rfl rfl
theorem k_f_Mo_89 : Cond.fieldLink R_Mo 89 "StrokeRasterModel" "points" "I" ∈ allw := kw_4 (k := 114) rfl rfl
theorem k_f_Mo_7 : Cond.fieldLink R_Mo 7 "StrokeRasterModel" "xs" "[I" ∈ allw := kw_4 (k := 115) rfl rfl
theorem k_f_Mo_13 : Cond.fieldLink R_Mo 13 "StrokeRasterModel" "ys" "[I" ∈ allw := kw_4 (k := 116) rfl rfl
theorem k_f_Mo_92 : Cond.fieldLink R_Mo 92 "StrokeRasterModel" "subpaths" "I" ∈ allw := kw_4 (k := 117) rfl rfl
theorem k_f_Mo_16 : Cond.fieldLink R_Mo 16 "StrokeRasterModel" "begins" "[I" ∈ allw := kw_4 (k := 118) rfl rfl
theorem k_f_Mo_19 : Cond.fieldLink R_Mo 19 "StrokeRasterModel" "closed" "[Z" ∈ allw := kw_4 (k := 119) rfl rfl
theorem k_f_Mo_23 : Cond.fieldLink R_Mo 23 "StrokeRasterModel" "goes" "[Z" ∈ allw := kw_4 (k := 120) rfl rfl
theorem k_f_Mo_26 : Cond.fieldLink R_Mo 26 "StrokeRasterModel" "controls" "[I" ∈ allw := kw_4 (k := 121) rfl rfl
theorem k_f_Mo_29 : Cond.fieldLink R_Mo 29 "StrokeRasterModel" "width" "I" ∈ allw := kw_4 (k := 122) rfl rfl
theorem k_f_Mo_119 : Cond.fieldLink R_Mo 119 "StrokeRasterModel" "caps" "I" ∈ allw := kw_4 (k := 123) rfl rfl
theorem k_f_Mo_122 : Cond.fieldLink R_Mo 122 "StrokeRasterModel" "joins" "I" ∈ allw := kw_4 (k := 124) rfl rfl
theorem k_f_Mo_33 : Cond.fieldLink R_Mo 33 "StrokeRasterModel" "limit" "I" ∈ allw := kw_4 (k := 125) rfl rfl
theorem k_f_Mo_125 : Cond.fieldLink R_Mo 125 "StrokeRasterModel" "dashes" "I" ∈ allw := kw_4 (k := 126) rfl rfl
theorem k_f_Mo_36 : Cond.fieldLink R_Mo 36 "StrokeRasterModel" "lengths" "[I" ∈ allw := kw_4 (k := 127) rfl rfl
theorem k_f_Mo_129 : Cond.fieldLink R_Mo 129 "StrokeRasterModel" "phase" "I" ∈ allw := kw_4 (k := 128) rfl rfl
theorem k_f_Mo_157 : Cond.fieldLink R_Mo 157 "StrokeRasterModel" "left" "I" ∈ allw := kw_4 (k := 129) rfl rfl
theorem k_f_Mo_39 : Cond.fieldLink R_Mo 39 "StrokeRasterModel" "lx" "[I" ∈ allw := kw_4 (k := 130) rfl rfl
theorem k_f_Mo_42 : Cond.fieldLink R_Mo 42 "StrokeRasterModel" "ly" "[I" ∈ allw := kw_4 (k := 131) rfl rfl
theorem k_f_Mo_154 : Cond.fieldLink R_Mo 154 "StrokeRasterModel" "pieces" "I" ∈ allw := kw_4 (k := 132) rfl rfl
theorem k_f_Mo_45 : Cond.fieldLink R_Mo 45 "StrokeRasterModel" "ax" "[I" ∈ allw := kw_4 (k := 133) rfl rfl
theorem k_f_Mo_48 : Cond.fieldLink R_Mo 48 "StrokeRasterModel" "ay" "[I" ∈ allw := kw_4 (k := 134) rfl rfl
theorem k_f_Mo_51 : Cond.fieldLink R_Mo 51 "StrokeRasterModel" "bx" "[I" ∈ allw := kw_4 (k := 135) rfl rfl
theorem k_f_Mo_54 : Cond.fieldLink R_Mo 54 "StrokeRasterModel" "by" "[I" ∈ allw := kw_4 (k := 136) rfl rfl
theorem k_f_Mo_57 : Cond.fieldLink R_Mo 57 "StrokeRasterModel" "ox" "[I" ∈ allw := kw_4 (k := 137) rfl rfl
theorem k_f_Mo_60 : Cond.fieldLink R_Mo 60 "StrokeRasterModel" "oy" "[I" ∈ allw := kw_4 (k := 138) rfl rfl
theorem k_f_Mo_63 : Cond.fieldLink R_Mo 63 "StrokeRasterModel" "isFirst" "[Z" ∈ allw := kw_4 (k := 139) rfl rfl
theorem k_f_Mo_66 : Cond.fieldLink R_Mo 66 "StrokeRasterModel" "isLast" "[Z" ∈ allw := kw_4 (k := 140) rfl rfl
theorem k_f_Mo_69 : Cond.fieldLink R_Mo 69 "StrokeRasterModel" "closesAt" "[I" ∈ allw := kw_4 (k := 141) rfl rfl
theorem k_f_Mo_72 : Cond.fieldLink R_Mo 72 "StrokeRasterModel" "isDot" "[Z" ∈ allw := kw_4 (k := 142) rfl rfl
theorem k_f_Mo_170 : Cond.fieldLink R_Mo 170 "StrokeRasterModel" "dash" "I" ∈ allw := kw_4 (k := 143) rfl rfl
theorem k_f_Mo_173 : Cond.fieldLink R_Mo 173 "StrokeRasterModel" "on" "Z" ∈ allw := kw_4 (k := 144) rfl rfl
theorem k_f_Mo_179 : Cond.fieldLink R_Mo 179 "StrokeRasterModel" "rest" "J" ∈ allw := kw_4 (k := 145) rfl rfl
theorem k_f_Mo_183 : Cond.fieldLink R_Mo 183 "StrokeRasterModel" "inChain" "Z" ∈ allw := kw_4 (k := 146) rfl rfl
theorem k_f_Mo_146 : Cond.fieldLink R_Mo 146 "StrokeRasterModel" "offX" "I" ∈ allw := kw_4 (k := 147) rfl rfl
theorem k_f_Mo_149 : Cond.fieldLink R_Mo 149 "StrokeRasterModel" "offY" "I" ∈ allw := kw_4 (k := 148) rfl rfl
theorem k_f_Mo_75 : Cond.fieldLink R_Mo 75 "StrokeRasterModel" "cornerX" "[J" ∈ allw := kw_4 (k := 149) rfl rfl
theorem k_f_Mo_79 : Cond.fieldLink R_Mo 79 "StrokeRasterModel" "cornerY" "[J" ∈ allw := kw_4 (k := 150) rfl rfl
theorem k_m_La_64 : Cond.methodLink R_La 64 y_Mo_thrown ∈ allw := kw_4 (k := 228) rfl rfl
theorem k_im_Mo_thrown : Cond.instanceMethod y_Mo_thrown ∈ allw := kw_4 (k := 229) rfl rfl
theorem k_se_Mo_thrown : Cond.selects R_Mo y_Mo_thrown y_Mo_thrown ∈ allw := kw_4 (k := 230) rfl rfl
theorem k_cd_Mo_thrown : Cond.code y_Mo_thrown b_Mo_thrown 1 (some .int) ∈ allw := kw_4 (k := 231) rfl rfl
theorem k_m_La_63 : Cond.methodLink R_La 63 y_Mo_move ∈ allw := kw_4 (k := 232) rfl rfl
theorem k_im_Mo_move : Cond.instanceMethod y_Mo_move ∈ allw := kw_4 (k := 233) rfl rfl
theorem k_se_Mo_move : Cond.selects R_Mo y_Mo_move y_Mo_move ∈ allw := kw_4 (k := 234) rfl rfl
theorem k_cd_Mo_move : Cond.code y_Mo_move b_Mo_move 3 (some .int) ∈ allw := kw_4 (k := 235) rfl rfl
theorem k_m_Mo_95 : Cond.methodLink R_Mo 95 y_Mo_isPoint ∈ allw := kw_4 (k := 236) rfl rfl
theorem k_st_Mo_isPoint : Cond.static y_Mo_isPoint ∈ allw := kw_4 (k := 237) rfl rfl
theorem k_cd_Mo_isPoint : Cond.code y_Mo_isPoint b_Mo_isPoint 2 (some .boolean) ∈ allw := kw_4 (k := 238) rfl rfl
theorem k_m_Mo_85 : Cond.methodLink R_Mo 85 y_Mo_isIn ∈ allw := kw_4 (k := 239) rfl rfl
theorem k_st_Mo_isIn : Cond.static y_Mo_isIn ∈ allw := kw_5 (k := 0) rfl rfl
theorem k_cd_Mo_isIn : Cond.code y_Mo_isIn b_Mo_isIn 3 (some .boolean) ∈ allw := kw_5 (k := 1) rfl rfl
theorem k_m_Mo_99 : Cond.methodLink R_Mo 99 y_Mo_refused ∈ allw := kw_5 (k := 2) rfl rfl
theorem k_im_Mo_refused : Cond.instanceMethod y_Mo_refused ∈ allw := kw_5 (k := 4) rfl rfl
theorem k_cd_Mo_refused : Cond.code y_Mo_refused b_Mo_refused 2 (some .boolean) ∈ allw := kw_5 (k := 5) rfl rfl
theorem k_m_Mo_103 : Cond.methodLink R_Mo 103 y_Mo_add ∈ allw := kw_5 (k := 6) rfl rfl
theorem k_im_Mo_add : Cond.instanceMethod y_Mo_add ∈ allw := kw_5 (k := 8) rfl rfl
theorem k_cd_Mo_add : Cond.code y_Mo_add b_Mo_add 3 none ∈ allw := kw_5 (k := 9) rfl rfl
theorem k_m_La_69 : Cond.methodLink R_La 69 y_Mo_line ∈ allw := kw_5 (k := 10) rfl rfl
theorem k_im_Mo_line : Cond.instanceMethod y_Mo_line ∈ allw := kw_5 (k := 11) rfl rfl
theorem k_se_Mo_line : Cond.selects R_Mo y_Mo_line y_Mo_line ∈ allw := kw_5 (k := 12) rfl rfl
theorem k_cd_Mo_line : Cond.code y_Mo_line b_Mo_line 3 (some .int) ∈ allw := kw_5 (k := 13) rfl rfl
theorem k_m_Mo_107 : Cond.methodLink R_Mo 107 y_Mo_isOpen ∈ allw := kw_5 (k := 14) rfl rfl
theorem k_im_Mo_isOpen : Cond.instanceMethod y_Mo_isOpen ∈ allw := kw_5 (k := 16) rfl rfl
theorem k_cd_Mo_isOpen : Cond.code y_Mo_isOpen b_Mo_isOpen 1 (some .boolean) ∈ allw := kw_5 (k := 17) rfl rfl
theorem k_m_La_73 : Cond.methodLink R_La 73 y_Mo_control ∈ allw := kw_5 (k := 18) rfl rfl
theorem k_im_Mo_control : Cond.instanceMethod y_Mo_control ∈ allw := kw_5 (k := 19) rfl rfl
theorem k_se_Mo_control : Cond.selects R_Mo y_Mo_control y_Mo_control ∈ allw := kw_5 (k := 20) rfl rfl
theorem k_cd_Mo_control : Cond.code y_Mo_control b_Mo_control 5 none ∈ allw := kw_5 (k := 21) rfl rfl
theorem k_m_La_76 : Cond.methodLink R_La 76 y_Mo_curve ∈ allw := kw_5 (k := 22) rfl rfl
theorem k_im_Mo_curve : Cond.instanceMethod y_Mo_curve ∈ allw := kw_5 (k := 23) rfl rfl
theorem k_se_Mo_curve : Cond.selects R_Mo y_Mo_curve y_Mo_curve ∈ allw := kw_5 (k := 24) rfl rfl
theorem k_cd_Mo_curve : Cond.code y_Mo_curve b_Mo_curve 6 (some .int) ∈ allw := kw_5 (k := 25) rfl rfl
theorem k_m_Mo_111 : Cond.methodLink R_Mo 111 y_Mo_along ∈ allw := kw_5 (k := 26) rfl rfl
theorem k_st_Mo_along : Cond.static y_Mo_along ∈ allw := kw_5 (k := 27) rfl rfl
theorem k_cd_Mo_along : Cond.code y_Mo_along b_Mo_along 7 (some .int) ∈ allw := kw_5 (k := 28) rfl rfl
theorem k_m_La_80 : Cond.methodLink R_La 80 y_Mo_close ∈ allw := kw_5 (k := 29) rfl rfl
theorem k_im_Mo_close : Cond.instanceMethod y_Mo_close ∈ allw := kw_5 (k := 30) rfl rfl
theorem k_se_Mo_close : Cond.selects R_Mo y_Mo_close y_Mo_close ∈ allw := kw_5 (k := 31) rfl rfl
theorem k_cd_Mo_close : Cond.code y_Mo_close b_Mo_close 1 (some .int) ∈ allw := kw_5 (k := 32) rfl rfl
theorem k_m_Mo_115 : Cond.methodLink R_Mo 115 y_Mo_closedOnes ∈ allw := kw_5 (k := 33) rfl rfl
theorem k_im_Mo_closedOnes : Cond.instanceMethod y_Mo_closedOnes ∈ allw := kw_5 (k := 35) rfl rfl
theorem k_cd_Mo_closedOnes : Cond.code y_Mo_closedOnes b_Mo_closedOnes 3 (some .int) ∈ allw := kw_5 (k := 36) rfl rfl
theorem k_m_La_84 : Cond.methodLink R_La 84 y_Mo_clear ∈ allw := kw_5 (k := 37) rfl rfl
theorem k_im_Mo_clear : Cond.instanceMethod y_Mo_clear ∈ allw := kw_5 (k := 38) rfl rfl
theorem k_se_Mo_clear : Cond.selects R_Mo y_Mo_clear y_Mo_clear ∈ allw := kw_5 (k := 39) rfl rfl
theorem k_cd_Mo_clear : Cond.code y_Mo_clear b_Mo_clear 2 (some .int) ∈ allw := kw_5 (k := 40) rfl rfl
theorem k_m_La_87 : Cond.methodLink R_La 87 y_Mo_pen ∈ allw := kw_5 (k := 41) rfl rfl
theorem k_im_Mo_pen : Cond.instanceMethod y_Mo_pen ∈ allw := kw_5 (k := 42) rfl rfl
theorem k_se_Mo_pen : Cond.selects R_Mo y_Mo_pen y_Mo_pen ∈ allw := kw_5 (k := 43) rfl rfl
theorem k_cd_Mo_pen : Cond.code y_Mo_pen b_Mo_pen 6 none ∈ allw := kw_5 (k := 44) rfl rfl
theorem k_m_La_91 : Cond.methodLink R_La 91 y_Mo_dash ∈ allw := kw_5 (k := 45) rfl rfl
theorem k_im_Mo_dash : Cond.instanceMethod y_Mo_dash ∈ allw := kw_5 (k := 46) rfl rfl
theorem k_se_Mo_dash : Cond.selects R_Mo y_Mo_dash y_Mo_dash ∈ allw := kw_5 (k := 47) rfl rfl
theorem k_cd_Mo_dash : Cond.code y_Mo_dash b_Mo_dash 2 (some .int) ∈ allw := kw_5 (k := 48) rfl rfl
theorem k_m_La_94 : Cond.methodLink R_La 94 y_Mo_plain ∈ allw := kw_5 (k := 49) rfl rfl
theorem k_im_Mo_plain : Cond.instanceMethod y_Mo_plain ∈ allw := kw_5 (k := 50) rfl rfl
theorem k_se_Mo_plain : Cond.selects R_Mo y_Mo_plain y_Mo_plain ∈ allw := kw_5 (k := 51) rfl rfl
theorem k_cd_Mo_plain : Cond.code y_Mo_plain b_Mo_plain 3 (some .int) ∈ allw := kw_5 (k := 52) rfl rfl
theorem k_k_Mo_128 : Cond.constant R_Mo 128 (65535) ∈ allw := kw_5 (k := 53) rfl rfl
theorem k_m_La_98 : Cond.methodLink R_La 98 y_Mo_count ∈ allw := kw_5 (k := 54) rfl rfl
theorem k_im_Mo_count : Cond.instanceMethod y_Mo_count ∈ allw := kw_5 (k := 55) rfl rfl
theorem k_se_Mo_count : Cond.selects R_Mo y_Mo_count y_Mo_count ∈ allw := kw_5 (k := 56) rfl rfl
theorem k_cd_Mo_count : Cond.code y_Mo_count b_Mo_count 2 (some .int) ∈ allw := kw_5 (k := 57) rfl rfl
theorem k_m_Mo_264 : Cond.methodLink R_Mo 264 y_Mo_findPieces ∈ allw := kw_5 (k := 58) rfl rfl
theorem k_im_Mo_findPieces : Cond.instanceMethod y_Mo_findPieces ∈ allw := kw_5 (k := 60) rfl rfl
theorem k_cd_Mo_findPieces : Cond.code y_Mo_findPieces b_Mo_findPieces 3 none ∈ allw := kw_5 (k := 61) rfl rfl
theorem k_m_Mo_212 : Cond.methodLink R_Mo 212 y_Mo_hasDashes ∈ allw := kw_5 (k := 62) rfl rfl
theorem k_im_Mo_hasDashes : Cond.instanceMethod y_Mo_hasDashes ∈ allw := kw_5 (k := 64) rfl rfl
theorem k_cd_Mo_hasDashes : Cond.code y_Mo_hasDashes b_Mo_hasDashes 3 (some .boolean) ∈ allw := kw_5 (k := 65) rfl rfl
theorem k_m_Mo_215 : Cond.methodLink R_Mo 215 y_Mo_leave ∈ allw := kw_5 (k := 66) rfl rfl
theorem k_im_Mo_leave : Cond.instanceMethod y_Mo_leave ∈ allw := kw_5 (k := 68) rfl rfl
theorem k_cd_Mo_leave : Cond.code y_Mo_leave b_Mo_leave 6 none ∈ allw := kw_5 (k := 69) rfl rfl
theorem k_k_Mo_164 : Cond.constantLong R_Mo 164 (16) ∈ allw := kw_5 (k := 70) rfl rfl
theorem k_m_Mo_166 : Cond.methodLink R_Mo 166 y_Mo_piece ∈ allw := kw_5 (k := 71) rfl rfl
theorem k_im_Mo_piece : Cond.instanceMethod y_Mo_piece ∈ allw := kw_5 (k := 73) rfl rfl
theorem k_cd_Mo_piece : Cond.code y_Mo_piece b_Mo_piece 10 none ∈ allw := kw_5 (k := 74) rfl rfl
theorem k_m_Mo_218 : Cond.methodLink R_Mo 218 y_Mo_dashPieces ∈ allw := kw_5 (k := 75) rfl rfl
theorem k_im_Mo_dashPieces : Cond.instanceMethod y_Mo_dashPieces ∈ allw := kw_5 (k := 77) rfl rfl
theorem k_cd_Mo_dashPieces : Cond.code y_Mo_dashPieces b_Mo_dashPieces 4 none ∈ allw := kw_5 (k := 78) rfl rfl
theorem k_m_Mo_205 : Cond.methodLink R_Mo 205 y_Mo_firstDash ∈ allw := kw_5 (k := 79) rfl rfl
theorem k_im_Mo_firstDash : Cond.instanceMethod y_Mo_firstDash ∈ allw := kw_5 (k := 81) rfl rfl
theorem k_cd_Mo_firstDash : Cond.code y_Mo_firstDash b_Mo_firstDash 3 none ∈ allw := kw_5 (k := 82) rfl rfl
theorem k_k_Mo_177 : Cond.constantLong R_Mo 177 (256) ∈ allw := kw_5 (k := 83) rfl rfl
theorem k_m_Mo_208 : Cond.methodLink R_Mo 208 y_Mo_dashSegment ∈ allw := kw_5 (k := 84) rfl rfl
theorem k_im_Mo_dashSegment : Cond.instanceMethod y_Mo_dashSegment ∈ allw := kw_5 (k := 86) rfl rfl
theorem k_cd_Mo_dashSegment : Cond.code y_Mo_dashSegment b_Mo_dashSegment 12 none ∈ allw := kw_5 (k := 87) rfl rfl
theorem k_m_Mo_160 : Cond.methodLink R_Mo 160 y_Mo_offset ∈ allw := kw_5 (k := 88) rfl rfl
theorem k_im_Mo_offset : Cond.instanceMethod y_Mo_offset ∈ allw := kw_5 (k := 90) rfl rfl
theorem k_cd_Mo_offset : Cond.code y_Mo_offset b_Mo_offset 9 none ∈ allw := kw_5 (k := 91) rfl rfl
theorem k_k_Mo_136 : Cond.constantLong R_Mo 136 (2) ∈ allw := kw_5 (k := 92) rfl rfl
theorem k_m_Mo_138 : Cond.methodLink R_Mo 138 y_Mo_half ∈ allw := kw_5 (k := 93) rfl rfl
theorem k_im_Mo_half : Cond.instanceMethod y_Mo_half ∈ allw := kw_5 (k := 95) rfl rfl
theorem k_cd_Mo_half : Cond.code y_Mo_half b_Mo_half 1 (some .long) ∈ allw := kw_5 (k := 96) rfl rfl
theorem k_k_Mo_132 : Cond.constantLong R_Mo 132 (8) ∈ allw := kw_5 (k := 97) rfl rfl
theorem k_m_Mo_142 : Cond.methodLink R_Mo 142 y_Mo_nearest ∈ allw := kw_5 (k := 98) rfl rfl
theorem k_st_Mo_nearest : Cond.static y_Mo_nearest ∈ allw := kw_5 (k := 99) rfl rfl
theorem k_cd_Mo_nearest : Cond.code y_Mo_nearest b_Mo_nearest 14 (some .int) ∈ allw := kw_5 (k := 100) rfl rfl
theorem k_k_Mo_134 : Cond.constantLong R_Mo 134 (40000) ∈ allw := kw_5 (k := 101) rfl rfl
theorem k_k_Mo_192 : Cond.constantLong R_Mo 192 (65536) ∈ allw := kw_5 (k := 102) rfl rfl
theorem k_m_Mo_194 : Cond.methodLink R_Mo 194 y_Mo_root ∈ allw := kw_5 (k := 103) rfl rfl
theorem k_st_Mo_root : Cond.static y_Mo_root ∈ allw := kw_5 (k := 104) rfl rfl
theorem k_cd_Mo_root : Cond.code y_Mo_root b_Mo_root 8 (some .long) ∈ allw := kw_5 (k := 105) rfl rfl
theorem k_k_Mo_152 : Cond.constantLong R_Mo 152 (16777216) ∈ allw := kw_5 (k := 106) rfl rfl
theorem k_m_Mo_198 : Cond.methodLink R_Mo 198 y_Mo_dashPiece ∈ allw := kw_5 (k := 107) rfl rfl
theorem k_im_Mo_dashPiece : Cond.instanceMethod y_Mo_dashPiece ∈ allw := kw_5 (k := 109) rfl rfl
theorem k_cd_Mo_dashPiece : Cond.code y_Mo_dashPiece b_Mo_dashPiece 13 none ∈ allw := kw_5 (k := 110) rfl rfl
theorem k_k_Mo_186 : Cond.constantLong R_Mo 186 (32) ∈ allw := kw_5 (k := 111) rfl rfl
theorem k_m_Mo_188 : Cond.methodLink R_Mo 188 y_Mo_floor ∈ allw := kw_5 (k := 112) rfl rfl
theorem k_st_Mo_floor : Cond.static y_Mo_floor ∈ allw := kw_5 (k := 113) rfl rfl
theorem k_cd_Mo_floor : Cond.code y_Mo_floor b_Mo_floor 6 (some .long) ∈ allw := kw_5 (k := 114) rfl rfl
theorem k_m_Mo_202 : Cond.methodLink R_Mo 202 y_Mo_endChain ∈ allw := kw_5 (k := 115) rfl rfl
theorem k_im_Mo_endChain : Cond.instanceMethod y_Mo_endChain ∈ allw := kw_5 (k := 117) rfl rfl
theorem k_cd_Mo_endChain : Cond.code y_Mo_endChain b_Mo_endChain 1 none ∈ allw := kw_5 (k := 118) rfl rfl
theorem k_m_Mo_221 : Cond.methodLink R_Mo 221 y_Mo_plainPieces ∈ allw := kw_5 (k := 119) rfl rfl
theorem k_im_Mo_plainPieces : Cond.instanceMethod y_Mo_plainPieces ∈ allw := kw_5 (k := 121) rfl rfl
theorem k_cd_Mo_plainPieces : Cond.code y_Mo_plainPieces b_Mo_plainPieces 6 none ∈ allw := kw_5 (k := 122) rfl rfl
theorem k_m_Mo_267 : Cond.methodLink R_Mo 267 y_Mo_setPixels ∈ allw := kw_5 (k := 123) rfl rfl
theorem k_im_Mo_setPixels : Cond.instanceMethod y_Mo_setPixels ∈ allw := kw_5 (k := 125) rfl rfl
theorem k_cd_Mo_setPixels : Cond.code y_Mo_setPixels b_Mo_setPixels 3 (some .int) ∈ allw := kw_5 (k := 126) rfl rfl
theorem k_m_Mo_261 : Cond.methodLink R_Mo 261 y_Mo_isSet ∈ allw := kw_5 (k := 127) rfl rfl
theorem k_im_Mo_isSet : Cond.instanceMethod y_Mo_isSet ∈ allw := kw_5 (k := 129) rfl rfl
theorem k_cd_Mo_isSet : Cond.code y_Mo_isSet b_Mo_isSet 3 (some .boolean) ∈ allw := kw_5 (k := 130) rfl rfl
theorem k_m_Mo_258 : Cond.methodLink R_Mo 258 y_Mo_covers ∈ allw := kw_5 (k := 131) rfl rfl
theorem k_im_Mo_covers : Cond.instanceMethod y_Mo_covers ∈ allw := kw_5 (k := 133) rfl rfl
theorem k_cd_Mo_covers : Cond.code y_Mo_covers b_Mo_covers 4 (some .boolean) ∈ allw := kw_5 (k := 134) rfl rfl
theorem k_m_Mo_255 : Cond.methodLink R_Mo 255 y_Mo_inPiece ∈ allw := kw_5 (k := 135) rfl rfl
theorem k_im_Mo_inPiece : Cond.instanceMethod y_Mo_inPiece ∈ allw := kw_5 (k := 137) rfl rfl
theorem k_cd_Mo_inPiece : Cond.code y_Mo_inPiece b_Mo_inPiece 7 (some .boolean) ∈ allw := kw_5 (k := 138) rfl rfl
theorem k_m_Mo_236 : Cond.methodLink R_Mo 236 y_Mo_inDisc ∈ allw := kw_5 (k := 139) rfl rfl
theorem k_im_Mo_inDisc : Cond.instanceMethod y_Mo_inDisc ∈ allw := kw_5 (k := 141) rfl rfl
theorem k_cd_Mo_inDisc : Cond.code y_Mo_inDisc b_Mo_inDisc 13 (some .boolean) ∈ allw := kw_5 (k := 142) rfl rfl
theorem k_m_Mo_244 : Cond.methodLink R_Mo 244 y_Mo_inBody ∈ allw := kw_5 (k := 143) rfl rfl
theorem k_im_Mo_inBody : Cond.instanceMethod y_Mo_inBody ∈ allw := kw_5 (k := 145) rfl rfl
theorem k_cd_Mo_inBody : Cond.code y_Mo_inBody b_Mo_inBody 6 (some .boolean) ∈ allw := kw_5 (k := 146) rfl rfl
theorem k_m_Mo_228 : Cond.methodLink R_Mo 228 y_Mo_corner ∈ allw := kw_5 (k := 147) rfl rfl
theorem k_im_Mo_corner : Cond.instanceMethod y_Mo_corner ∈ allw := kw_5 (k := 149) rfl rfl
theorem k_cd_Mo_corner : Cond.code y_Mo_corner b_Mo_corner 6 none ∈ allw := kw_5 (k := 150) rfl rfl
theorem k_m_Mo_232 : Cond.methodLink R_Mo 232 y_Mo_inPolygon ∈ allw := kw_5 (k := 151) rfl rfl
theorem k_im_Mo_inPolygon : Cond.instanceMethod y_Mo_inPolygon ∈ allw := kw_5 (k := 153) rfl rfl
theorem k_cd_Mo_inPolygon : Cond.code y_Mo_inPolygon b_Mo_inPolygon 12 (some .boolean) ∈ allw := kw_5 (k := 154) rfl rfl
theorem k_m_Mo_224 : Cond.methodLink R_Mo 224 y_Mo_cross ∈ allw := kw_5 (k := 155) rfl rfl
theorem k_st_Mo_cross : Cond.static y_Mo_cross ∈ allw := kw_5 (k := 156) rfl rfl
theorem k_cd_Mo_cross : Cond.code y_Mo_cross b_Mo_cross 8 (some .long) ∈ allw := kw_5 (k := 157) rfl rfl
theorem k_m_Mo_247 : Cond.methodLink R_Mo 247 y_Mo_inCap ∈ allw := kw_5 (k := 158) rfl rfl
theorem k_im_Mo_inCap : Cond.instanceMethod y_Mo_inCap ∈ allw := kw_5 (k := 160) rfl rfl
theorem k_cd_Mo_inCap : Cond.code y_Mo_inCap b_Mo_inCap 15 (some .boolean) ∈ allw := kw_5 (k := 161) rfl rfl
theorem k_m_Mo_251 : Cond.methodLink R_Mo 251 y_Mo_inJoin ∈ allw := kw_5 (k := 162) rfl rfl
theorem k_im_Mo_inJoin : Cond.instanceMethod y_Mo_inJoin ∈ allw := kw_5 (k := 164) rfl rfl
theorem k_cd_Mo_inJoin : Cond.code y_Mo_inJoin b_Mo_inJoin 28 (some .boolean) ∈ allw := kw_5 (k := 165) rfl rfl
theorem k_k_Mo_240 : Cond.constantLong R_Mo 240 (-1) ∈ allw := kw_5 (k := 166) rfl rfl
theorem k_k_Mo_242 : Cond.constantLong R_Mo 242 (8192) ∈ allw := kw_5 (k := 167) rfl rfl
theorem k_m_La_101 : Cond.methodLink R_La 101 y_Mo_has ∈ allw := kw_5 (k := 168) rfl rfl
theorem k_im_Mo_has : Cond.instanceMethod y_Mo_has ∈ allw := kw_5 (k := 169) rfl rfl
theorem k_se_Mo_has : Cond.selects R_Mo y_Mo_has y_Mo_has ∈ allw := kw_5 (k := 170) rfl rfl
theorem k_cd_Mo_has : Cond.code y_Mo_has b_Mo_has 4 (some .boolean) ∈ allw := kw_5 (k := 171) rfl rfl
theorem k_m_La_104 : Cond.methodLink R_La 104 y_Mo_row ∈ allw := kw_5 (k := 172) rfl rfl
theorem k_im_Mo_row : Cond.instanceMethod y_Mo_row ∈ allw := kw_5 (k := 173) rfl rfl
theorem k_se_Mo_row : Cond.selects R_Mo y_Mo_row y_Mo_row ∈ allw := kw_5 (k := 174) rfl rfl
theorem k_cd_Mo_row : Cond.code y_Mo_row b_Mo_row 5 (some .long) ∈ allw := kw_5 (k := 175) rfl rfl
theorem k_m_La_107 : Cond.methodLink R_La 107 y_Mo_share ∈ allw := kw_5 (k := 176) rfl rfl
theorem k_im_Mo_share : Cond.instanceMethod y_Mo_share ∈ allw := kw_5 (k := 177) rfl rfl
theorem k_se_Mo_share : Cond.selects R_Mo y_Mo_share y_Mo_share ∈ allw := kw_5 (k := 178) rfl rfl
theorem k_cd_Mo_share : Cond.code y_Mo_share b_Mo_share 5 (some .int) ∈ allw := kw_5 (k := 179) rfl rfl
theorem k_se_SR_forget : Cond.selects R_SR y_SR_forget y_SR_forget ∈ allw := kw_s (q := (y_SR_forget, 12)) (k := 0) rfl
theorem k_se_Walker_passPhase : Cond.selects R_Walker y_Walker_passPhase y_Walker_passPhase ∈ allw := kw_s (q := (y_Walker_passPhase, 17)) (k := 1) rfl
theorem k_se_Walker_dashAfter : Cond.selects R_Walker y_Walker_dashAfter y_Walker_dashAfter ∈ allw := kw_s (q := (y_Walker_dashAfter, 17)) (k := 2) rfl
theorem k_se_Walker_walkSubpath : Cond.selects R_Walker y_Walker_walkSubpath y_Walker_walkSubpath ∈ allw := kw_s (q := (y_Walker_walkSubpath, 17)) (k := 3) rfl
theorem k_se_Walker_takeSegment : Cond.selects R_Walker y_Walker_takeSegment y_Walker_takeSegment ∈ allw := kw_s (q := (y_Walker_takeSegment, 17)) (k := 4) rfl
theorem k_se_Walker_offsetPart : Cond.selects R_Walker y_Walker_offsetPart y_Walker_offsetPart ∈ allw := kw_s (q := (y_Walker_offsetPart, 17)) (k := 5) rfl
theorem k_se_Walker_cutSegment : Cond.selects R_Walker y_Walker_cutSegment y_Walker_cutSegment ∈ allw := kw_s (q := (y_Walker_cutSegment, 17)) (k := 6) rfl
theorem k_se_Walker_addPiece : Cond.selects R_Walker y_Walker_addPiece y_Walker_addPiece ∈ allw := kw_s (q := (y_Walker_addPiece, 17)) (k := 7) rfl
theorem k_se_Walker_fineAt : Cond.selects R_Walker y_Walker_fineAt y_Walker_fineAt ∈ allw := kw_s (q := (y_Walker_fineAt, 17)) (k := 8) rfl
theorem k_se_Pieces_grow : Cond.selects R_Pieces y_Pieces_grow y_Pieces_grow ∈ allw := kw_s (q := (y_Pieces_grow, 11)) (k := 9) rfl
theorem k_se_SR_paintPicture : Cond.selects R_SR y_SR_paintPicture y_SR_paintPicture ∈ allw := kw_s (q := (y_SR_paintPicture, 12)) (k := 10) rfl
theorem k_se_Painter_isNear : Cond.selects R_Painter y_Painter_isNear y_Painter_isNear ∈ allw := kw_s (q := (y_Painter_isNear, 3)) (k := 11) rfl
theorem k_se_Painter_paintBody : Cond.selects R_Painter y_Painter_paintBody y_Painter_paintBody ∈ allw := kw_s (q := (y_Painter_paintBody, 3)) (k := 12) rfl
theorem k_se_Grid_doubledArea : Cond.selects R_Grid y_Grid_doubledArea y_Grid_doubledArea ∈ allw := kw_s (q := (y_Grid_doubledArea, 15)) (k := 13) rfl
theorem k_se_Grid_least : Cond.selects R_Grid y_Grid_least y_Grid_least ∈ allw := kw_s (q := (y_Grid_least, 15)) (k := 14) rfl
theorem k_se_Grid_firstRow : Cond.selects R_Grid y_Grid_firstRow y_Grid_firstRow ∈ allw := kw_s (q := (y_Grid_firstRow, 15)) (k := 15) rfl
theorem k_se_Grid_greatest : Cond.selects R_Grid y_Grid_greatest y_Grid_greatest ∈ allw := kw_s (q := (y_Grid_greatest, 15)) (k := 16) rfl
theorem k_se_Grid_lastRow : Cond.selects R_Grid y_Grid_lastRow y_Grid_lastRow ∈ allw := kw_s (q := (y_Grid_lastRow, 15)) (k := 17) rfl
theorem k_se_Grid_polygonBits : Cond.selects R_Grid y_Grid_polygonBits y_Grid_polygonBits ∈ allw := kw_s (q := (y_Grid_polygonBits, 15)) (k := 18) rfl
theorem k_se_Painter_paintCaps : Cond.selects R_Painter y_Painter_paintCaps y_Painter_paintCaps ∈ allw := kw_s (q := (y_Painter_paintCaps, 3)) (k := 19) rfl
theorem k_se_Painter_paintCap : Cond.selects R_Painter y_Painter_paintCap y_Painter_paintCap ∈ allw := kw_s (q := (y_Painter_paintCap, 3)) (k := 20) rfl
theorem k_se_Grid_discBits : Cond.selects R_Grid y_Grid_discBits y_Grid_discBits ∈ allw := kw_s (q := (y_Grid_discBits, 15)) (k := 21) rfl
theorem k_se_Painter_paintJoin : Cond.selects R_Painter y_Painter_paintJoin y_Painter_paintJoin ∈ allw := kw_s (q := (y_Painter_paintJoin, 3)) (k := 22) rfl
theorem k_se_Painter_turnSign : Cond.selects R_Painter y_Painter_turnSign y_Painter_turnSign ∈ allw := kw_s (q := (y_Painter_turnSign, 3)) (k := 23) rfl
theorem k_se_Painter_paintMiter : Cond.selects R_Painter y_Painter_paintMiter y_Painter_paintMiter ∈ allw := kw_s (q := (y_Painter_paintMiter, 3)) (k := 24) rfl
theorem k_se_SR_countSet : Cond.selects R_SR y_SR_countSet y_SR_countSet ∈ allw := kw_s (q := (y_SR_countSet, 12)) (k := 25) rfl
theorem k_se_Mo_refused : Cond.selects R_Mo y_Mo_refused y_Mo_refused ∈ allw := kw_s (q := (y_Mo_refused, 38)) (k := 27) rfl
theorem k_se_Mo_add : Cond.selects R_Mo y_Mo_add y_Mo_add ∈ allw := kw_s (q := (y_Mo_add, 38)) (k := 28) rfl
theorem k_se_Mo_isOpen : Cond.selects R_Mo y_Mo_isOpen y_Mo_isOpen ∈ allw := kw_s (q := (y_Mo_isOpen, 38)) (k := 29) rfl
theorem k_se_Mo_closedOnes : Cond.selects R_Mo y_Mo_closedOnes y_Mo_closedOnes ∈ allw := kw_s (q := (y_Mo_closedOnes, 38)) (k := 30) rfl
theorem k_se_Mo_findPieces : Cond.selects R_Mo y_Mo_findPieces y_Mo_findPieces ∈ allw := kw_s (q := (y_Mo_findPieces, 38)) (k := 31) rfl
theorem k_se_Mo_hasDashes : Cond.selects R_Mo y_Mo_hasDashes y_Mo_hasDashes ∈ allw := kw_s (q := (y_Mo_hasDashes, 38)) (k := 32) rfl
theorem k_se_Mo_leave : Cond.selects R_Mo y_Mo_leave y_Mo_leave ∈ allw := kw_s (q := (y_Mo_leave, 38)) (k := 33) rfl
theorem k_se_Mo_piece : Cond.selects R_Mo y_Mo_piece y_Mo_piece ∈ allw := kw_s (q := (y_Mo_piece, 38)) (k := 34) rfl
theorem k_se_Mo_dashPieces : Cond.selects R_Mo y_Mo_dashPieces y_Mo_dashPieces ∈ allw := kw_s (q := (y_Mo_dashPieces, 38)) (k := 35) rfl
theorem k_se_Mo_firstDash : Cond.selects R_Mo y_Mo_firstDash y_Mo_firstDash ∈ allw := kw_s (q := (y_Mo_firstDash, 38)) (k := 36) rfl
theorem k_se_Mo_dashSegment : Cond.selects R_Mo y_Mo_dashSegment y_Mo_dashSegment ∈ allw := kw_s (q := (y_Mo_dashSegment, 38)) (k := 37) rfl
theorem k_se_Mo_offset : Cond.selects R_Mo y_Mo_offset y_Mo_offset ∈ allw := kw_s (q := (y_Mo_offset, 38)) (k := 38) rfl
theorem k_se_Mo_half : Cond.selects R_Mo y_Mo_half y_Mo_half ∈ allw := kw_s (q := (y_Mo_half, 38)) (k := 39) rfl
theorem k_se_Mo_dashPiece : Cond.selects R_Mo y_Mo_dashPiece y_Mo_dashPiece ∈ allw := kw_s (q := (y_Mo_dashPiece, 38)) (k := 40) rfl
theorem k_se_Mo_endChain : Cond.selects R_Mo y_Mo_endChain y_Mo_endChain ∈ allw := kw_s (q := (y_Mo_endChain, 38)) (k := 41) rfl
theorem k_se_Mo_plainPieces : Cond.selects R_Mo y_Mo_plainPieces y_Mo_plainPieces ∈ allw := kw_s (q := (y_Mo_plainPieces, 38)) (k := 42) rfl
theorem k_se_Mo_setPixels : Cond.selects R_Mo y_Mo_setPixels y_Mo_setPixels ∈ allw := kw_s (q := (y_Mo_setPixels, 38)) (k := 43) rfl
theorem k_se_Mo_isSet : Cond.selects R_Mo y_Mo_isSet y_Mo_isSet ∈ allw := kw_s (q := (y_Mo_isSet, 38)) (k := 44) rfl
theorem k_se_Mo_covers : Cond.selects R_Mo y_Mo_covers y_Mo_covers ∈ allw := kw_s (q := (y_Mo_covers, 38)) (k := 45) rfl
theorem k_se_Mo_inPiece : Cond.selects R_Mo y_Mo_inPiece y_Mo_inPiece ∈ allw := kw_s (q := (y_Mo_inPiece, 38)) (k := 46) rfl
theorem k_se_Mo_inDisc : Cond.selects R_Mo y_Mo_inDisc y_Mo_inDisc ∈ allw := kw_s (q := (y_Mo_inDisc, 38)) (k := 47) rfl
theorem k_se_Mo_inBody : Cond.selects R_Mo y_Mo_inBody y_Mo_inBody ∈ allw := kw_s (q := (y_Mo_inBody, 38)) (k := 48) rfl
theorem k_se_Mo_corner : Cond.selects R_Mo y_Mo_corner y_Mo_corner ∈ allw := kw_s (q := (y_Mo_corner, 38)) (k := 49) rfl
theorem k_se_Mo_inPolygon : Cond.selects R_Mo y_Mo_inPolygon y_Mo_inPolygon ∈ allw := kw_s (q := (y_Mo_inPolygon, 38)) (k := 50) rfl
theorem k_se_Mo_inCap : Cond.selects R_Mo y_Mo_inCap y_Mo_inCap ∈ allw := kw_s (q := (y_Mo_inCap, 38)) (k := 51) rfl
theorem k_se_Mo_inJoin : Cond.selects R_Mo y_Mo_inJoin y_Mo_inJoin ∈ allw := kw_s (q := (y_Mo_inJoin, 38)) (k := 52) rfl
theorem i_Grid : ∀ w ∈ u_ws R_Grid F_Grid 15, w ∈ allw := List.forall_mem_map.mpr (fun k hk => by
  have hk := List.mem_range.mp hk
  match k, hk with
  | 0, _ => exact kw_1 (k := 238) rfl rfl
  | 1, _ => exact kw_2 (k := 0) rfl rfl
  | 2, _ => exact kw_2 (k := 2) rfl rfl
  | 3, _ => exact kw_2 (k := 4) rfl rfl
  | 4, _ => exact kw_2 (k := 6) rfl rfl
  | 5, _ => exact kw_2 (k := 8) rfl rfl
  | 6, _ => exact kw_2 (k := 10) rfl rfl
  | 7, _ => exact kw_2 (k := 12) rfl rfl
  | 8, _ => exact kw_2 (k := 14) rfl rfl
  | 9, _ => exact kw_2 (k := 16) rfl rfl
  | 10, _ => exact kw_2 (k := 18) rfl rfl
  | 11, _ => exact kw_2 (k := 20) rfl rfl
  | 12, _ => exact kw_2 (k := 22) rfl rfl
  | 13, _ => exact kw_2 (k := 24) rfl rfl
  | 14, _ => exact kw_2 (k := 26) rfl rfl
  | k + 15, h => exact absurd h (by omega))
theorem i_Painter : ∀ w ∈ u_ws R_Painter F_Painter 3, w ∈ allw := List.forall_mem_map.mpr (fun k hk => by
  have hk := List.mem_range.mp hk
  match k, hk with
  | 0, _ => exact kw_2 (k := 39) rfl rfl
  | 1, _ => exact kw_2 (k := 41) rfl rfl
  | 2, _ => exact kw_2 (k := 43) rfl rfl
  | k + 3, h => exact absurd h (by omega))
theorem i_Path : ∀ w ∈ u_ws R_Path F_Path 7, w ∈ allw := List.forall_mem_map.mpr (fun k hk => by
  have hk := List.mem_range.mp hk
  match k, hk with
  | 0, _ => exact kw_1 (k := 48) rfl rfl
  | 1, _ => exact kw_1 (k := 50) rfl rfl
  | 2, _ => exact kw_1 (k := 52) rfl rfl
  | 3, _ => exact kw_1 (k := 54) rfl rfl
  | 4, _ => exact kw_1 (k := 56) rfl rfl
  | 5, _ => exact kw_1 (k := 58) rfl rfl
  | 6, _ => exact kw_1 (k := 60) rfl rfl
  | k + 7, h => exact absurd h (by omega))
theorem i_Pen : ∀ w ∈ u_ws R_Pen F_Pen 8, w ∈ allw := List.forall_mem_map.mpr (fun k hk => by
  have hk := List.mem_range.mp hk
  match k, hk with
  | 0, _ => exact kw_1 (k := 89) rfl rfl
  | 1, _ => exact kw_1 (k := 91) rfl rfl
  | 2, _ => exact kw_1 (k := 93) rfl rfl
  | 3, _ => exact kw_1 (k := 95) rfl rfl
  | 4, _ => exact kw_1 (k := 97) rfl rfl
  | 5, _ => exact kw_1 (k := 99) rfl rfl
  | 6, _ => exact kw_1 (k := 101) rfl rfl
  | 7, _ => exact kw_1 (k := 103) rfl rfl
  | k + 8, h => exact absurd h (by omega))
theorem i_Pieces : ∀ w ∈ u_ws R_Pieces F_Pieces 11, w ∈ allw := List.forall_mem_map.mpr (fun k hk => by
  have hk := List.mem_range.mp hk
  match k, hk with
  | 0, _ => exact kw_1 (k := 136) rfl rfl
  | 1, _ => exact kw_1 (k := 138) rfl rfl
  | 2, _ => exact kw_1 (k := 140) rfl rfl
  | 3, _ => exact kw_1 (k := 142) rfl rfl
  | 4, _ => exact kw_1 (k := 144) rfl rfl
  | 5, _ => exact kw_1 (k := 146) rfl rfl
  | 6, _ => exact kw_1 (k := 148) rfl rfl
  | 7, _ => exact kw_1 (k := 150) rfl rfl
  | 8, _ => exact kw_1 (k := 152) rfl rfl
  | 9, _ => exact kw_1 (k := 154) rfl rfl
  | 10, _ => exact kw_1 (k := 156) rfl rfl
  | k + 11, h => exact absurd h (by omega))
theorem i_Walker : ∀ w ∈ u_ws R_Walker F_Walker 17, w ∈ allw := List.forall_mem_map.mpr (fun k hk => by
  have hk := List.mem_range.mp hk
  match k, hk with
  | 0, _ => exact kw_1 (k := 182) rfl rfl
  | 1, _ => exact kw_1 (k := 184) rfl rfl
  | 2, _ => exact kw_1 (k := 186) rfl rfl
  | 3, _ => exact kw_1 (k := 188) rfl rfl
  | 4, _ => exact kw_1 (k := 190) rfl rfl
  | 5, _ => exact kw_1 (k := 192) rfl rfl
  | 6, _ => exact kw_1 (k := 194) rfl rfl
  | 7, _ => exact kw_1 (k := 196) rfl rfl
  | 8, _ => exact kw_1 (k := 198) rfl rfl
  | 9, _ => exact kw_1 (k := 200) rfl rfl
  | 10, _ => exact kw_1 (k := 202) rfl rfl
  | 11, _ => exact kw_1 (k := 204) rfl rfl
  | 12, _ => exact kw_1 (k := 206) rfl rfl
  | 13, _ => exact kw_1 (k := 208) rfl rfl
  | 14, _ => exact kw_1 (k := 210) rfl rfl
  | 15, _ => exact kw_1 (k := 212) rfl rfl
  | 16, _ => exact kw_1 (k := 214) rfl rfl
  | k + 17, h => exact absurd h (by omega))
theorem i_SR : ∀ w ∈ u_ws R_SR F_SR 12, w ∈ allw := List.forall_mem_map.mpr (fun k hk => by
  have hk := List.mem_range.mp hk
  match k, hk with
  | 0, _ => exact kw_2 (k := 58) rfl rfl
  | 1, _ => exact kw_2 (k := 60) rfl rfl
  | 2, _ => exact kw_2 (k := 62) rfl rfl
  | 3, _ => exact kw_2 (k := 64) rfl rfl
  | 4, _ => exact kw_2 (k := 66) rfl rfl
  | 5, _ => exact kw_2 (k := 68) rfl rfl
  | 6, _ => exact kw_2 (k := 70) rfl rfl
  | 7, _ => exact kw_2 (k := 72) rfl rfl
  | 8, _ => exact kw_2 (k := 74) rfl rfl
  | 9, _ => exact kw_2 (k := 76) rfl rfl
  | 10, _ => exact kw_2 (k := 78) rfl rfl
  | 11, _ => exact kw_2 (k := 80) rfl rfl
  | k + 12, h => exact absurd h (by omega))
theorem i_Mo : ∀ w ∈ u_ws R_Mo F_Mo 38, w ∈ allw := List.forall_mem_map.mpr (fun k hk => by
  have hk := List.mem_range.mp hk
  match k, hk with
  | 0, _ => exact kw_4 (k := 151) rfl rfl
  | 1, _ => exact kw_4 (k := 153) rfl rfl
  | 2, _ => exact kw_4 (k := 155) rfl rfl
  | 3, _ => exact kw_4 (k := 157) rfl rfl
  | 4, _ => exact kw_4 (k := 159) rfl rfl
  | 5, _ => exact kw_4 (k := 161) rfl rfl
  | 6, _ => exact kw_4 (k := 163) rfl rfl
  | 7, _ => exact kw_4 (k := 165) rfl rfl
  | 8, _ => exact kw_4 (k := 167) rfl rfl
  | 9, _ => exact kw_4 (k := 169) rfl rfl
  | 10, _ => exact kw_4 (k := 171) rfl rfl
  | 11, _ => exact kw_4 (k := 173) rfl rfl
  | 12, _ => exact kw_4 (k := 175) rfl rfl
  | 13, _ => exact kw_4 (k := 177) rfl rfl
  | 14, _ => exact kw_4 (k := 179) rfl rfl
  | 15, _ => exact kw_4 (k := 181) rfl rfl
  | 16, _ => exact kw_4 (k := 183) rfl rfl
  | 17, _ => exact kw_4 (k := 185) rfl rfl
  | 18, _ => exact kw_4 (k := 187) rfl rfl
  | 19, _ => exact kw_4 (k := 189) rfl rfl
  | 20, _ => exact kw_4 (k := 191) rfl rfl
  | 21, _ => exact kw_4 (k := 193) rfl rfl
  | 22, _ => exact kw_4 (k := 195) rfl rfl
  | 23, _ => exact kw_4 (k := 197) rfl rfl
  | 24, _ => exact kw_4 (k := 199) rfl rfl
  | 25, _ => exact kw_4 (k := 201) rfl rfl
  | 26, _ => exact kw_4 (k := 203) rfl rfl
  | 27, _ => exact kw_4 (k := 205) rfl rfl
  | 28, _ => exact kw_4 (k := 207) rfl rfl
  | 29, _ => exact kw_4 (k := 209) rfl rfl
  | 30, _ => exact kw_4 (k := 211) rfl rfl
  | 31, _ => exact kw_4 (k := 213) rfl rfl
  | 32, _ => exact kw_4 (k := 215) rfl rfl
  | 33, _ => exact kw_4 (k := 217) rfl rfl
  | 34, _ => exact kw_4 (k := 219) rfl rfl
  | 35, _ => exact kw_4 (k := 221) rfl rfl
  | 36, _ => exact kw_4 (k := 223) rfl rfl
  | 37, _ => exact kw_4 (k := 225) rfl rfl
  | k + 38, h => exact absurd h (by omega))
theorem kn_m_SR_9 : Cond.methodLinkNest R_SR 9 y_Path_init "StrokeRaster" ∈ nestw := List.mem_of_getElem? (i := 0) rfl
theorem kn_m_SR_18 : Cond.methodLinkNest R_SR 18 y_Pen_init "StrokeRaster" ∈ nestw := List.mem_of_getElem? (i := 1) rfl
theorem kn_m_SR_25 : Cond.methodLinkNest R_SR 25 y_Pieces_init "StrokeRaster" ∈ nestw := List.mem_of_getElem? (i := 2) rfl
theorem kn_m_SR_41 : Cond.methodLinkNest R_SR 41 y_Grid_init "StrokeRaster" ∈ nestw := List.mem_of_getElem? (i := 3) rfl
theorem kn_m_Walker_161 : Cond.methodLinkNest R_Walker 161 y_SR_root "StrokeRaster" ∈ nestw := List.mem_of_getElem? (i := 4) rfl
theorem kn_m_Grid_117 : Cond.methodLinkNest R_Grid 117 y_SR_root "StrokeRaster" ∈ nestw := List.mem_of_getElem? (i := 5) rfl
theorem g_SR_init : sr_d y_SR_init 0 := by decide +kernel
theorem g_Path_init : sr_d y_Path_init 0 := by decide +kernel
theorem g_Pen_init : sr_d y_Pen_init 0 := by decide +kernel
theorem g_Pieces_init : sr_d y_Pieces_init 0 := by decide +kernel
theorem g_Walker_init : sr_d y_Walker_init 3 := by decide +kernel
theorem g_Grid_init : sr_d y_Grid_init 0 := by decide +kernel
theorem g_Painter_init : sr_d y_Painter_init 3 := by decide +kernel
theorem g_SR_clear : sr_d y_SR_clear 0 := by decide +kernel
theorem g_Path_drop : sr_d y_Path_drop 0 := by decide +kernel
theorem g_SR_forget : sr_d y_SR_forget 0 := by decide +kernel
theorem g_Walker_forget : sr_d y_Walker_forget 0 := by decide +kernel
theorem g_SR_count : sr_d y_SR_count 1 := by decide +kernel
theorem g_Walker_walk : sr_d y_Walker_walk 0 := by decide +kernel
theorem g_Pieces_drop : sr_d y_Pieces_drop 0 := by decide +kernel
theorem g_Walker_passPhase : sr_d y_Walker_passPhase 0 := by decide +kernel
theorem g_Math_floorMod_III : sr_d y_Math_floorMod_III 2 := by decide +kernel
theorem g_Walker_dashAfter : sr_d y_Walker_dashAfter 1 := by decide +kernel
theorem g_Walker_walkSubpath : sr_d y_Walker_walkSubpath 1 := by decide +kernel
theorem g_Path_behind : sr_d y_Path_behind 1 := by decide +kernel
theorem g_Pen_isDashed : sr_d y_Pen_isDashed 0 := by decide +kernel
theorem g_Walker_takeSegment : sr_d y_Walker_takeSegment 2 := by decide +kernel
theorem g_Walker_offsetPart : sr_d y_Walker_offsetPart 2 := by decide +kernel
theorem g_SR_root : sr_d y_SR_root 1 := by decide +kernel
theorem g_Walker_cutSegment : sr_d y_Walker_cutSegment 0 := by decide +kernel
theorem g_Walker_addPiece : sr_d y_Walker_addPiece 2 := by decide +kernel
theorem g_Walker_fineAt : sr_d y_Walker_fineAt 3 := by decide +kernel
theorem g_Math_floorDiv_JJJ : sr_d y_Math_floorDiv_JJJ 2 := by decide +kernel
theorem g_Pieces_add : sr_d y_Pieces_add 6 := by decide +kernel
theorem g_Pieces_grow : sr_d y_Pieces_grow 1 := by decide +kernel
theorem g_Arr_copyOf_AIIAI : sr_d y_Arr_copyOf_AIIAI 2 := by decide +kernel
theorem g_Pieces_endChain : sr_d y_Pieces_endChain 1 := by decide +kernel
theorem g_Pieces_addDot : sr_d y_Pieces_addDot 2 := by decide +kernel
theorem g_Pieces_closeChain : sr_d y_Pieces_closeChain 1 := by decide +kernel
theorem g_SR_paintPicture : sr_d y_SR_paintPicture 0 := by decide +kernel
theorem g_Grid_across : sr_d y_Grid_across 3 := by decide +kernel
theorem g_Grid_bitsFromTo : sr_d y_Grid_bitsFromTo 2 := by decide +kernel
theorem g_Grid_upwards : sr_d y_Grid_upwards 3 := by decide +kernel
theorem g_Arr_fill_AJJV : sr_d y_Arr_fill_AJJV 2 := by decide +kernel
theorem g_Painter_paint : sr_d y_Painter_paint 0 := by decide +kernel
theorem g_Grid_isFilled : sr_d y_Grid_isFilled 0 := by decide +kernel
theorem g_Painter_isNear : sr_d y_Painter_isNear 1 := by decide +kernel
theorem g_Grid_meets : sr_d y_Grid_meets 4 := by decide +kernel
theorem g_Painter_paintBody : sr_d y_Painter_paintBody 1 := by decide +kernel
theorem g_Grid_from : sr_d y_Grid_from 2 := by decide +kernel
theorem g_Grid_corner : sr_d y_Grid_corner 2 := by decide +kernel
theorem g_Grid_polygon : sr_d y_Grid_polygon 0 := by decide +kernel
theorem g_Grid_doubledArea : sr_d y_Grid_doubledArea 0 := by decide +kernel
theorem g_Grid_least : sr_d y_Grid_least 1 := by decide +kernel
theorem g_Grid_firstRow : sr_d y_Grid_firstRow 1 := by decide +kernel
theorem g_Grid_greatest : sr_d y_Grid_greatest 1 := by decide +kernel
theorem g_Grid_lastRow : sr_d y_Grid_lastRow 1 := by decide +kernel
theorem g_Grid_polygonBits : sr_d y_Grid_polygonBits 1 := by decide +kernel
theorem g_Painter_paintCaps : sr_d y_Painter_paintCaps 1 := by decide +kernel
theorem g_Painter_paintCap : sr_d y_Painter_paintCap 4 := by decide +kernel
theorem g_Grid_disc : sr_d y_Grid_disc 3 := by decide +kernel
theorem g_Grid_discBits : sr_d y_Grid_discBits 3 := by decide +kernel
theorem g_Painter_paintJoin : sr_d y_Painter_paintJoin 1 := by decide +kernel
theorem g_Painter_turnSign : sr_d y_Painter_turnSign 2 := by decide +kernel
theorem g_Long_signum_JI : sr_d y_Long_signum_JI 1 := by decide +kernel
theorem g_Painter_paintMiter : sr_d y_Painter_paintMiter 1 := by decide +kernel
theorem g_Grid_bits : sr_d y_Grid_bits 1 := by decide +kernel
theorem g_SR_countSet : sr_d y_SR_countSet 0 := by decide +kernel
theorem g_Long_bitCount_JI : sr_d y_Long_bitCount_JI 1 := by decide +kernel
theorem g_La_move : sr_d y_La_move 4 := by decide +kernel
theorem g_SR_move : sr_d y_SR_move 2 := by decide +kernel
theorem g_SR_isCoordinate : sr_d y_SR_isCoordinate 1 := by decide +kernel
theorem g_Path_begin : sr_d y_Path_begin 2 := by decide +kernel
theorem g_Path_put : sr_d y_Path_put 2 := by decide +kernel
theorem g_La_line : sr_d y_La_line 4 := by decide +kernel
theorem g_SR_line : sr_d y_SR_line 2 := by decide +kernel
theorem g_Path_takes : sr_d y_Path_takes 1 := by decide +kernel
theorem g_Path_isOpen : sr_d y_Path_isOpen 0 := by decide +kernel
theorem g_La_control : sr_d y_La_control 5 := by decide +kernel
theorem g_SR_control : sr_d y_SR_control 4 := by decide +kernel
theorem g_La_curve : sr_d y_La_curve 4 := by decide +kernel
theorem g_SR_curve : sr_d y_SR_curve 2 := by decide +kernel
theorem g_Path_bend : sr_d y_Path_bend 6 := by decide +kernel
theorem g_Path_between : sr_d y_Path_between 5 := by decide +kernel
theorem g_Math_floorDiv_III : sr_d y_Math_floorDiv_III 2 := by decide +kernel
theorem g_La_close : sr_d y_La_close 2 := by decide +kernel
theorem g_SR_close : sr_d y_SR_close 0 := by decide +kernel
theorem g_Path_shutLast : sr_d y_Path_shutLast 0 := by decide +kernel
theorem g_La_pen : sr_d y_La_pen 5 := by decide +kernel
theorem g_SR_pen : sr_d y_SR_pen 4 := by decide +kernel
theorem g_Pen_shape : sr_d y_Pen_shape 4 := by decide +kernel
theorem g_La_dash : sr_d y_La_dash 3 := by decide +kernel
theorem g_SR_dash : sr_d y_SR_dash 1 := by decide +kernel
theorem g_Pen_addDash : sr_d y_Pen_addDash 1 := by decide +kernel
theorem g_La_plain : sr_d y_La_plain 3 := by decide +kernel
theorem g_SR_plain : sr_d y_SR_plain 1 := by decide +kernel
theorem g_Pen_dropDashes : sr_d y_Pen_dropDashes 1 := by decide +kernel
theorem g_La_has : sr_d y_La_has 4 := by decide +kernel
theorem g_SR_has : sr_d y_SR_has 2 := by decide +kernel
theorem g_La_row : sr_d y_La_row 3 := by decide +kernel
theorem g_SR_row : sr_d y_SR_row 1 := by decide +kernel
theorem g_SR_isInPicture : sr_d y_SR_isInPicture 1 := by decide +kernel
theorem g_SR_bottom : sr_d y_SR_bottom 1 := by decide +kernel
theorem g_La_share : sr_d y_La_share 4 := by decide +kernel
theorem g_SR_share : sr_d y_SR_share 2 := by decide +kernel
theorem g_Mo_init : sr_d y_Mo_init 0 := by decide +kernel
theorem g_Mo_thrown : sr_d y_Mo_thrown 0 := by decide +kernel
theorem g_Mo_move : sr_d y_Mo_move 2 := by decide +kernel
theorem g_Mo_isPoint : sr_d y_Mo_isPoint 2 := by decide +kernel
theorem g_Mo_isIn : sr_d y_Mo_isIn 3 := by decide +kernel
theorem g_Mo_refused : sr_d y_Mo_refused 1 := by decide +kernel
theorem g_Mo_add : sr_d y_Mo_add 2 := by decide +kernel
theorem g_Mo_line : sr_d y_Mo_line 2 := by decide +kernel
theorem g_Mo_isOpen : sr_d y_Mo_isOpen 0 := by decide +kernel
theorem g_Mo_control : sr_d y_Mo_control 4 := by decide +kernel
theorem g_Mo_curve : sr_d y_Mo_curve 2 := by decide +kernel
theorem g_Mo_along : sr_d y_Mo_along 5 := by decide +kernel
theorem g_Mo_close : sr_d y_Mo_close 0 := by decide +kernel
theorem g_Mo_closedOnes : sr_d y_Mo_closedOnes 0 := by decide +kernel
theorem g_Mo_clear : sr_d y_Mo_clear 0 := by decide +kernel
theorem g_Mo_pen : sr_d y_Mo_pen 4 := by decide +kernel
theorem g_Mo_dash : sr_d y_Mo_dash 1 := by decide +kernel
theorem g_Mo_plain : sr_d y_Mo_plain 1 := by decide +kernel
theorem g_Mo_count : sr_d y_Mo_count 1 := by decide +kernel
theorem g_Mo_findPieces : sr_d y_Mo_findPieces 0 := by decide +kernel
theorem g_Mo_hasDashes : sr_d y_Mo_hasDashes 0 := by decide +kernel
theorem g_Mo_leave : sr_d y_Mo_leave 1 := by decide +kernel
theorem g_Mo_piece : sr_d y_Mo_piece 5 := by decide +kernel
theorem g_Mo_dashPieces : sr_d y_Mo_dashPieces 1 := by decide +kernel
theorem g_Mo_firstDash : sr_d y_Mo_firstDash 0 := by decide +kernel
theorem g_Mo_dashSegment : sr_d y_Mo_dashSegment 1 := by decide +kernel
theorem g_Mo_offset : sr_d y_Mo_offset 2 := by decide +kernel
theorem g_Mo_half : sr_d y_Mo_half 0 := by decide +kernel
theorem g_Mo_nearest : sr_d y_Mo_nearest 2 := by decide +kernel
theorem g_Mo_root : sr_d y_Mo_root 1 := by decide +kernel
theorem g_Mo_dashPiece : sr_d y_Mo_dashPiece 5 := by decide +kernel
theorem g_Mo_floor : sr_d y_Mo_floor 2 := by decide +kernel
theorem g_Mo_endChain : sr_d y_Mo_endChain 0 := by decide +kernel
theorem g_Mo_plainPieces : sr_d y_Mo_plainPieces 1 := by decide +kernel
theorem g_Mo_setPixels : sr_d y_Mo_setPixels 0 := by decide +kernel
theorem g_Mo_isSet : sr_d y_Mo_isSet 2 := by decide +kernel
theorem g_Mo_covers : sr_d y_Mo_covers 2 := by decide +kernel
theorem g_Mo_inPiece : sr_d y_Mo_inPiece 3 := by decide +kernel
theorem g_Mo_inDisc : sr_d y_Mo_inDisc 4 := by decide +kernel
theorem g_Mo_inBody : sr_d y_Mo_inBody 3 := by decide +kernel
theorem g_Mo_corner : sr_d y_Mo_corner 3 := by decide +kernel
theorem g_Mo_inPolygon : sr_d y_Mo_inPolygon 3 := by decide +kernel
theorem g_Mo_cross : sr_d y_Mo_cross 4 := by decide +kernel
theorem g_Mo_inCap : sr_d y_Mo_inCap 6 := by decide +kernel
theorem g_Mo_inJoin : sr_d y_Mo_inJoin 4 := by decide +kernel
theorem g_Mo_has : sr_d y_Mo_has 2 := by decide +kernel
theorem g_Mo_row : sr_d y_Mo_row 1 := by decide +kernel
theorem g_Mo_share : sr_d y_Mo_share 2 := by decide +kernel
end
section
theorem d_Path_init_0 : decode b_Path_init 0 = .ok (.aload_n 0, 1) := by decide +kernel
theorem d_Path_init_1 : decode b_Path_init 1 = .ok (.invokespecial 3, 3) := by decide +kernel
theorem d_Path_init_4 : decode b_Path_init 4 = .ok (.aload_n 0, 1) := by decide +kernel
theorem d_Path_init_5 : decode b_Path_init 5 = .ok (.bipush 16, 2) := by decide +kernel
theorem d_Path_init_7 : decode b_Path_init 7 = .ok (.newarray .int, 2) := by decide +kernel
theorem d_Path_init_9 : decode b_Path_init 9 = .ok (.putfield 9, 3) := by decide +kernel
theorem d_Path_init_12 : decode b_Path_init 12 = .ok (.aload_n 0, 1) := by decide +kernel
theorem d_Path_init_13 : decode b_Path_init 13 = .ok (.bipush 16, 2) := by decide +kernel
theorem d_Path_init_15 : decode b_Path_init 15 = .ok (.newarray .int, 2) := by decide +kernel
theorem d_Path_init_17 : decode b_Path_init 17 = .ok (.putfield 15, 3) := by decide +kernel
theorem d_Path_init_20 : decode b_Path_init 20 = .ok (.aload_n 0, 1) := by decide +kernel
theorem d_Path_init_21 : decode b_Path_init 21 = .ok (.bipush 64, 2) := by decide +kernel
theorem d_Path_init_23 : decode b_Path_init 23 = .ok (.newarray .int, 2) := by decide +kernel
theorem d_Path_init_25 : decode b_Path_init 25 = .ok (.putfield 18, 3) := by decide +kernel
theorem d_Path_init_28 : decode b_Path_init 28 = .ok (.aload_n 0, 1) := by decide +kernel
theorem d_Path_init_29 : decode b_Path_init 29 = .ok (.bipush 64, 2) := by decide +kernel
theorem d_Path_init_31 : decode b_Path_init 31 = .ok (.newarray .boolean, 2) := by decide +kernel
theorem d_Path_init_33 : decode b_Path_init 33 = .ok (.putfield 21, 3) := by decide +kernel
theorem d_Path_init_36 : decode b_Path_init 36 = .ok (.return_, 1) := by decide +kernel
theorem d_Path_begin_0 : decode b_Path_begin 0 = .ok (.aload_n 0, 1) := by decide +kernel
theorem d_Path_begin_1 : decode b_Path_begin 1 = .ok (.getfield 25, 3) := by decide +kernel
theorem d_Path_begin_4 : decode b_Path_begin 4 = .ok (.bipush 64, 2) := by decide +kernel
theorem d_Path_begin_6 : decode b_Path_begin 6 = .ok (.if_icmp .lt 4, 3) := by decide +kernel
theorem d_Path_begin_9 : decode b_Path_begin 9 = .ok (.return_, 1) := by decide +kernel
theorem d_Path_begin_10 : decode b_Path_begin 10 = .ok (.aload_n 0, 1) := by decide +kernel
theorem d_Path_begin_11 : decode b_Path_begin 11 = .ok (.getfield 18, 3) := by decide +kernel
theorem d_Path_begin_14 : decode b_Path_begin 14 = .ok (.aload_n 0, 1) := by decide +kernel
theorem d_Path_begin_15 : decode b_Path_begin 15 = .ok (.getfield 25, 3) := by decide +kernel
theorem d_Path_begin_18 : decode b_Path_begin 18 = .ok (.aload_n 0, 1) := by decide +kernel
theorem d_Path_begin_19 : decode b_Path_begin 19 = .ok (.getfield 29, 3) := by decide +kernel
theorem d_Path_begin_22 : decode b_Path_begin 22 = .ok (.iastore, 1) := by decide +kernel
theorem d_Path_begin_23 : decode b_Path_begin 23 = .ok (.aload_n 0, 1) := by decide +kernel
theorem d_Path_begin_24 : decode b_Path_begin 24 = .ok (.getfield 21, 3) := by decide +kernel
theorem d_Path_begin_27 : decode b_Path_begin 27 = .ok (.aload_n 0, 1) := by decide +kernel
theorem d_Path_begin_28 : decode b_Path_begin 28 = .ok (.getfield 25, 3) := by decide +kernel
theorem d_Path_begin_31 : decode b_Path_begin 31 = .ok (.iconst 0, 1) := by decide +kernel
theorem d_Path_begin_32 : decode b_Path_begin 32 = .ok (.bastore, 1) := by decide +kernel
theorem d_Path_begin_33 : decode b_Path_begin 33 = .ok (.aload_n 0, 1) := by decide +kernel
theorem d_Path_begin_34 : decode b_Path_begin 34 = .ok (.dup, 1) := by decide +kernel
theorem d_Path_begin_35 : decode b_Path_begin 35 = .ok (.getfield 25, 3) := by decide +kernel
theorem d_Path_begin_38 : decode b_Path_begin 38 = .ok (.iconst 1, 1) := by decide +kernel
theorem d_Path_begin_39 : decode b_Path_begin 39 = .ok (.iadd, 1) := by decide +kernel
theorem d_Path_begin_40 : decode b_Path_begin 40 = .ok (.putfield 25, 3) := by decide +kernel
theorem d_Path_begin_43 : decode b_Path_begin 43 = .ok (.aload_n 0, 1) := by decide +kernel
theorem d_Path_begin_44 : decode b_Path_begin 44 = .ok (.iload_n 1, 1) := by decide +kernel
theorem d_Path_begin_45 : decode b_Path_begin 45 = .ok (.iload_n 2, 1) := by decide +kernel
theorem d_Path_begin_46 : decode b_Path_begin 46 = .ok (.invokevirtual 32, 3) := by decide +kernel
theorem d_Path_begin_49 : decode b_Path_begin 49 = .ok (.return_, 1) := by decide +kernel
theorem d_Path_put_0 : decode b_Path_put 0 = .ok (.aload_n 0, 1) := by decide +kernel
theorem d_Path_put_1 : decode b_Path_put 1 = .ok (.getfield 29, 3) := by decide +kernel
theorem d_Path_put_4 : decode b_Path_put 4 = .ok (.sipush 1024, 3) := by decide +kernel
theorem d_Path_put_7 : decode b_Path_put 7 = .ok (.if_icmp .lt 4, 3) := by decide +kernel
theorem d_Path_put_10 : decode b_Path_put 10 = .ok (.return_, 1) := by decide +kernel
theorem d_Path_put_11 : decode b_Path_put 11 = .ok (.aload_n 0, 1) := by decide +kernel
theorem d_Path_put_12 : decode b_Path_put 12 = .ok (.getfield 29, 3) := by decide +kernel
theorem d_Path_put_15 : decode b_Path_put 15 = .ok (.aload_n 0, 1) := by decide +kernel
theorem d_Path_put_16 : decode b_Path_put 16 = .ok (.getfield 9, 3) := by decide +kernel
theorem d_Path_put_19 : decode b_Path_put 19 = .ok (.arraylength, 1) := by decide +kernel
theorem d_Path_put_20 : decode b_Path_put 20 = .ok (.if_icmp .lt 41, 3) := by decide +kernel
theorem d_Path_put_23 : decode b_Path_put 23 = .ok (.sipush 1024, 3) := by decide +kernel
theorem d_Path_put_26 : decode b_Path_put 26 = .ok (.iconst 2, 1) := by decide +kernel
theorem d_Path_put_27 : decode b_Path_put 27 = .ok (.aload_n 0, 1) := by decide +kernel
theorem d_Path_put_28 : decode b_Path_put 28 = .ok (.getfield 9, 3) := by decide +kernel
theorem d_Path_put_31 : decode b_Path_put 31 = .ok (.arraylength, 1) := by decide +kernel
theorem d_Path_put_32 : decode b_Path_put 32 = .ok (.imul, 1) := by decide +kernel
theorem d_Path_put_33 : decode b_Path_put 33 = .ok (.invokestatic 36, 3) := by decide +kernel
theorem d_Path_put_36 : decode b_Path_put 36 = .ok (.istore_n 3, 1) := by decide +kernel
theorem d_Path_put_37 : decode b_Path_put 37 = .ok (.aload_n 0, 1) := by decide +kernel
theorem d_Path_put_38 : decode b_Path_put 38 = .ok (.aload_n 0, 1) := by decide +kernel
theorem d_Path_put_39 : decode b_Path_put 39 = .ok (.getfield 9, 3) := by decide +kernel
theorem d_Path_put_42 : decode b_Path_put 42 = .ok (.iload_n 3, 1) := by decide +kernel
theorem d_Path_put_43 : decode b_Path_put 43 = .ok (.invokestatic 42, 3) := by decide +kernel
theorem d_Path_put_46 : decode b_Path_put 46 = .ok (.putfield 9, 3) := by decide +kernel
theorem d_Path_put_49 : decode b_Path_put 49 = .ok (.aload_n 0, 1) := by decide +kernel
theorem d_Path_put_50 : decode b_Path_put 50 = .ok (.aload_n 0, 1) := by decide +kernel
theorem d_Path_put_51 : decode b_Path_put 51 = .ok (.getfield 15, 3) := by decide +kernel
theorem d_Path_put_54 : decode b_Path_put 54 = .ok (.iload_n 3, 1) := by decide +kernel
theorem d_Path_put_55 : decode b_Path_put 55 = .ok (.invokestatic 42, 3) := by decide +kernel
theorem d_Path_put_58 : decode b_Path_put 58 = .ok (.putfield 15, 3) := by decide +kernel
theorem d_Path_put_61 : decode b_Path_put 61 = .ok (.aload_n 0, 1) := by decide +kernel
theorem d_Path_put_62 : decode b_Path_put 62 = .ok (.getfield 9, 3) := by decide +kernel
theorem d_Path_put_65 : decode b_Path_put 65 = .ok (.aload_n 0, 1) := by decide +kernel
theorem d_Path_put_66 : decode b_Path_put 66 = .ok (.getfield 29, 3) := by decide +kernel
theorem d_Path_put_69 : decode b_Path_put 69 = .ok (.iload_n 1, 1) := by decide +kernel
theorem d_Path_put_70 : decode b_Path_put 70 = .ok (.iastore, 1) := by decide +kernel
theorem d_Path_put_71 : decode b_Path_put 71 = .ok (.aload_n 0, 1) := by decide +kernel
theorem d_Path_put_72 : decode b_Path_put 72 = .ok (.getfield 15, 3) := by decide +kernel
theorem d_Path_put_75 : decode b_Path_put 75 = .ok (.aload_n 0, 1) := by decide +kernel
theorem d_Path_put_76 : decode b_Path_put 76 = .ok (.getfield 29, 3) := by decide +kernel
theorem d_Path_put_79 : decode b_Path_put 79 = .ok (.iload_n 2, 1) := by decide +kernel
theorem d_Path_put_80 : decode b_Path_put 80 = .ok (.iastore, 1) := by decide +kernel
theorem d_Path_put_81 : decode b_Path_put 81 = .ok (.aload_n 0, 1) := by decide +kernel
theorem d_Path_put_82 : decode b_Path_put 82 = .ok (.dup, 1) := by decide +kernel
theorem d_Path_put_83 : decode b_Path_put 83 = .ok (.getfield 29, 3) := by decide +kernel
theorem d_Path_put_86 : decode b_Path_put 86 = .ok (.iconst 1, 1) := by decide +kernel
theorem d_Path_put_87 : decode b_Path_put 87 = .ok (.iadd, 1) := by decide +kernel
theorem d_Path_put_88 : decode b_Path_put 88 = .ok (.putfield 29, 3) := by decide +kernel
theorem d_Path_put_91 : decode b_Path_put 91 = .ok (.return_, 1) := by decide +kernel
theorem d_Path_bend_0 : decode b_Path_bend 0 = .ok (.aload_n 0, 1) := by decide +kernel
theorem d_Path_bend_1 : decode b_Path_bend 1 = .ok (.getfield 29, 3) := by decide +kernel
theorem d_Path_bend_4 : decode b_Path_bend 4 = .ok (.iconst 1, 1) := by decide +kernel
theorem d_Path_bend_5 : decode b_Path_bend 5 = .ok (.if_icmp .ge 4, 3) := by decide +kernel
theorem d_Path_bend_8 : decode b_Path_bend 8 = .ok (.return_, 1) := by decide +kernel
theorem d_Path_bend_9 : decode b_Path_bend 9 = .ok (.aload_n 0, 1) := by decide +kernel
theorem d_Path_bend_10 : decode b_Path_bend 10 = .ok (.getfield 9, 3) := by decide +kernel
theorem d_Path_bend_13 : decode b_Path_bend 13 = .ok (.aload_n 0, 1) := by decide +kernel
theorem d_Path_bend_14 : decode b_Path_bend 14 = .ok (.getfield 29, 3) := by decide +kernel
theorem d_Path_bend_17 : decode b_Path_bend 17 = .ok (.iconst 1, 1) := by decide +kernel
theorem d_Path_bend_18 : decode b_Path_bend 18 = .ok (.isub, 1) := by decide +kernel
theorem d_Path_bend_19 : decode b_Path_bend 19 = .ok (.iaload, 1) := by decide +kernel
theorem d_Path_bend_20 : decode b_Path_bend 20 = .ok (.istore 7, 2) := by decide +kernel
theorem d_Path_bend_22 : decode b_Path_bend 22 = .ok (.aload_n 0, 1) := by decide +kernel
theorem d_Path_bend_23 : decode b_Path_bend 23 = .ok (.getfield 15, 3) := by decide +kernel
theorem d_Path_bend_26 : decode b_Path_bend 26 = .ok (.aload_n 0, 1) := by decide +kernel
theorem d_Path_bend_27 : decode b_Path_bend 27 = .ok (.getfield 29, 3) := by decide +kernel
theorem d_Path_bend_30 : decode b_Path_bend 30 = .ok (.iconst 1, 1) := by decide +kernel
theorem d_Path_bend_31 : decode b_Path_bend 31 = .ok (.isub, 1) := by decide +kernel
theorem d_Path_bend_32 : decode b_Path_bend 32 = .ok (.iaload, 1) := by decide +kernel
theorem d_Path_bend_33 : decode b_Path_bend 33 = .ok (.istore 8, 2) := by decide +kernel
theorem d_Path_bend_35 : decode b_Path_bend 35 = .ok (.iconst 1, 1) := by decide +kernel
theorem d_Path_bend_36 : decode b_Path_bend 36 = .ok (.istore 9, 2) := by decide +kernel
theorem d_Path_bend_38 : decode b_Path_bend 38 = .ok (.iload 9, 2) := by decide +kernel
theorem d_Path_bend_40 : decode b_Path_bend 40 = .ok (.bipush 16, 2) := by decide +kernel
theorem d_Path_bend_42 : decode b_Path_bend 42 = .ok (.if_icmp .gt 36, 3) := by decide +kernel
theorem d_Path_bend_45 : decode b_Path_bend 45 = .ok (.aload_n 0, 1) := by decide +kernel
theorem d_Path_bend_46 : decode b_Path_bend 46 = .ok (.iload 7, 2) := by decide +kernel
theorem d_Path_bend_48 : decode b_Path_bend 48 = .ok (.iload_n 1, 1) := by decide +kernel
theorem d_Path_bend_49 : decode b_Path_bend 49 = .ok (.iload_n 3, 1) := by decide +kernel
theorem d_Path_bend_50 : decode b_Path_bend 50 = .ok (.iload 5, 2) := by decide +kernel
theorem d_Path_bend_52 : decode b_Path_bend 52 = .ok (.iload 9, 2) := by decide +kernel
theorem d_Path_bend_54 : decode b_Path_bend 54 = .ok (.invokestatic 48, 3) := by decide +kernel
theorem d_Path_bend_57 : decode b_Path_bend 57 = .ok (.iload 8, 2) := by decide +kernel
theorem d_Path_bend_59 : decode b_Path_bend 59 = .ok (.iload_n 2, 1) := by decide +kernel
theorem d_Path_bend_60 : decode b_Path_bend 60 = .ok (.iload 4, 2) := by decide +kernel
theorem d_Path_bend_62 : decode b_Path_bend 62 = .ok (.iload 6, 2) := by decide +kernel
theorem d_Path_bend_64 : decode b_Path_bend 64 = .ok (.iload 9, 2) := by decide +kernel
theorem d_Path_bend_66 : decode b_Path_bend 66 = .ok (.invokestatic 48, 3) := by decide +kernel
theorem d_Path_bend_69 : decode b_Path_bend 69 = .ok (.invokevirtual 32, 3) := by decide +kernel
theorem d_Path_bend_72 : decode b_Path_bend 72 = .ok (.iinc 9 1, 3) := by decide +kernel
theorem d_Path_bend_75 : decode b_Path_bend 75 = .ok (.goto (-37), 3) := by decide +kernel
theorem d_Path_bend_78 : decode b_Path_bend 78 = .ok (.return_, 1) := by decide +kernel
theorem d_Path_between_0 : decode b_Path_between 0 = .ok (.bipush 16, 2) := by decide +kernel
theorem d_Path_between_2 : decode b_Path_between 2 = .ok (.iload 4, 2) := by decide +kernel
theorem d_Path_between_4 : decode b_Path_between 4 = .ok (.isub, 1) := by decide +kernel
theorem d_Path_between_5 : decode b_Path_between 5 = .ok (.istore 5, 2) := by decide +kernel
theorem d_Path_between_7 : decode b_Path_between 7 = .ok (.iload_n 0, 1) := by decide +kernel
theorem d_Path_between_8 : decode b_Path_between 8 = .ok (.iload 5, 2) := by decide +kernel
theorem d_Path_between_10 : decode b_Path_between 10 = .ok (.imul, 1) := by decide +kernel
theorem d_Path_between_11 : decode b_Path_between 11 = .ok (.iload 5, 2) := by decide +kernel
theorem d_Path_between_13 : decode b_Path_between 13 = .ok (.imul, 1) := by decide +kernel
theorem d_Path_between_14 : decode b_Path_between 14 = .ok (.iload 5, 2) := by decide +kernel
theorem d_Path_between_16 : decode b_Path_between 16 = .ok (.imul, 1) := by decide +kernel
theorem d_Path_between_17 : decode b_Path_between 17 = .ok (.iconst 3, 1) := by decide +kernel
theorem d_Path_between_18 : decode b_Path_between 18 = .ok (.iload_n 1, 1) := by decide +kernel
theorem d_Path_between_19 : decode b_Path_between 19 = .ok (.imul, 1) := by decide +kernel
theorem d_Path_between_20 : decode b_Path_between 20 = .ok (.iload 4, 2) := by decide +kernel
theorem d_Path_between_22 : decode b_Path_between 22 = .ok (.imul, 1) := by decide +kernel
theorem d_Path_between_23 : decode b_Path_between 23 = .ok (.iload 5, 2) := by decide +kernel
theorem d_Path_between_25 : decode b_Path_between 25 = .ok (.imul, 1) := by decide +kernel
theorem d_Path_between_26 : decode b_Path_between 26 = .ok (.iload 5, 2) := by decide +kernel
theorem d_Path_between_28 : decode b_Path_between 28 = .ok (.imul, 1) := by decide +kernel
theorem d_Path_between_29 : decode b_Path_between 29 = .ok (.iadd, 1) := by decide +kernel
theorem d_Path_between_30 : decode b_Path_between 30 = .ok (.iconst 3, 1) := by decide +kernel
theorem d_Path_between_31 : decode b_Path_between 31 = .ok (.iload_n 2, 1) := by decide +kernel
theorem d_Path_between_32 : decode b_Path_between 32 = .ok (.imul, 1) := by decide +kernel
theorem d_Path_between_33 : decode b_Path_between 33 = .ok (.iload 4, 2) := by decide +kernel
theorem d_Path_between_35 : decode b_Path_between 35 = .ok (.imul, 1) := by decide +kernel
theorem d_Path_between_36 : decode b_Path_between 36 = .ok (.iload 4, 2) := by decide +kernel
theorem d_Path_between_38 : decode b_Path_between 38 = .ok (.imul, 1) := by decide +kernel
theorem d_Path_between_39 : decode b_Path_between 39 = .ok (.iload 5, 2) := by decide +kernel
theorem d_Path_between_41 : decode b_Path_between 41 = .ok (.imul, 1) := by decide +kernel
theorem d_Path_between_42 : decode b_Path_between 42 = .ok (.iadd, 1) := by decide +kernel
theorem d_Path_between_43 : decode b_Path_between 43 = .ok (.iload_n 3, 1) := by decide +kernel
theorem d_Path_between_44 : decode b_Path_between 44 = .ok (.iload 4, 2) := by decide +kernel
theorem d_Path_between_46 : decode b_Path_between 46 = .ok (.imul, 1) := by decide +kernel
theorem d_Path_between_47 : decode b_Path_between 47 = .ok (.iload 4, 2) := by decide +kernel
theorem d_Path_between_49 : decode b_Path_between 49 = .ok (.imul, 1) := by decide +kernel
theorem d_Path_between_50 : decode b_Path_between 50 = .ok (.iload 4, 2) := by decide +kernel
theorem d_Path_between_52 : decode b_Path_between 52 = .ok (.imul, 1) := by decide +kernel
theorem d_Path_between_53 : decode b_Path_between 53 = .ok (.iadd, 1) := by decide +kernel
theorem d_Path_between_54 : decode b_Path_between 54 = .ok (.istore 6, 2) := by decide +kernel
theorem d_Path_between_56 : decode b_Path_between 56 = .ok (.iload 6, 2) := by decide +kernel
theorem d_Path_between_58 : decode b_Path_between 58 = .ok (.sipush 2048, 3) := by decide +kernel
theorem d_Path_between_61 : decode b_Path_between 61 = .ok (.iadd, 1) := by decide +kernel
theorem d_Path_between_62 : decode b_Path_between 62 = .ok (.sipush 4096, 3) := by decide +kernel
theorem d_Path_between_65 : decode b_Path_between 65 = .ok (.invokestatic 52, 3) := by decide +kernel
theorem d_Path_between_68 : decode b_Path_between 68 = .ok (.ireturn, 1) := by decide +kernel
theorem d_Path_isOpen_0 : decode b_Path_isOpen 0 = .ok (.aload_n 0, 1) := by decide +kernel
theorem d_Path_isOpen_1 : decode b_Path_isOpen 1 = .ok (.getfield 25, 3) := by decide +kernel
theorem d_Path_isOpen_4 : decode b_Path_isOpen 4 = .ok (.ifCond .le 21, 3) := by decide +kernel
theorem d_Path_isOpen_7 : decode b_Path_isOpen 7 = .ok (.aload_n 0, 1) := by decide +kernel
theorem d_Path_isOpen_8 : decode b_Path_isOpen 8 = .ok (.getfield 21, 3) := by decide +kernel
theorem d_Path_isOpen_11 : decode b_Path_isOpen 11 = .ok (.aload_n 0, 1) := by decide +kernel
theorem d_Path_isOpen_12 : decode b_Path_isOpen 12 = .ok (.getfield 25, 3) := by decide +kernel
theorem d_Path_isOpen_15 : decode b_Path_isOpen 15 = .ok (.iconst 1, 1) := by decide +kernel
theorem d_Path_isOpen_16 : decode b_Path_isOpen 16 = .ok (.isub, 1) := by decide +kernel
theorem d_Path_isOpen_17 : decode b_Path_isOpen 17 = .ok (.baload, 1) := by decide +kernel
theorem d_Path_isOpen_18 : decode b_Path_isOpen 18 = .ok (.ifCond .ne 7, 3) := by decide +kernel
theorem d_Path_isOpen_21 : decode b_Path_isOpen 21 = .ok (.iconst 1, 1) := by decide +kernel
theorem d_Path_isOpen_22 : decode b_Path_isOpen 22 = .ok (.goto 4, 3) := by decide +kernel
theorem d_Path_isOpen_25 : decode b_Path_isOpen 25 = .ok (.iconst 0, 1) := by decide +kernel
theorem d_Path_isOpen_26 : decode b_Path_isOpen 26 = .ok (.ireturn, 1) := by decide +kernel
theorem d_Path_takes_0 : decode b_Path_takes 0 = .ok (.aload_n 0, 1) := by decide +kernel
theorem d_Path_takes_1 : decode b_Path_takes 1 = .ok (.invokevirtual 55, 3) := by decide +kernel
theorem d_Path_takes_4 : decode b_Path_takes 4 = .ok (.ifCond .eq 19, 3) := by decide +kernel
theorem d_Path_takes_7 : decode b_Path_takes 7 = .ok (.aload_n 0, 1) := by decide +kernel
theorem d_Path_takes_8 : decode b_Path_takes 8 = .ok (.getfield 29, 3) := by decide +kernel
theorem d_Path_takes_11 : decode b_Path_takes 11 = .ok (.iload_n 1, 1) := by decide +kernel
theorem d_Path_takes_12 : decode b_Path_takes 12 = .ok (.iadd, 1) := by decide +kernel
theorem d_Path_takes_13 : decode b_Path_takes 13 = .ok (.sipush 1024, 3) := by decide +kernel
theorem d_Path_takes_16 : decode b_Path_takes 16 = .ok (.if_icmp .gt 7, 3) := by decide +kernel
theorem d_Path_takes_19 : decode b_Path_takes 19 = .ok (.iconst 1, 1) := by decide +kernel
theorem d_Path_takes_20 : decode b_Path_takes 20 = .ok (.goto 4, 3) := by decide +kernel
theorem d_Path_takes_23 : decode b_Path_takes 23 = .ok (.iconst 0, 1) := by decide +kernel
theorem d_Path_takes_24 : decode b_Path_takes 24 = .ok (.ireturn, 1) := by decide +kernel
theorem d_Path_shutLast_0 : decode b_Path_shutLast 0 = .ok (.aload_n 0, 1) := by decide +kernel
theorem d_Path_shutLast_1 : decode b_Path_shutLast 1 = .ok (.invokevirtual 55, 3) := by decide +kernel
theorem d_Path_shutLast_4 : decode b_Path_shutLast 4 = .ok (.ifCond .eq 25, 3) := by decide +kernel
theorem d_Path_shutLast_7 : decode b_Path_shutLast 7 = .ok (.aload_n 0, 1) := by decide +kernel
theorem d_Path_shutLast_8 : decode b_Path_shutLast 8 = .ok (.getfield 21, 3) := by decide +kernel
theorem d_Path_shutLast_11 : decode b_Path_shutLast 11 = .ok (.aload_n 0, 1) := by decide +kernel
theorem d_Path_shutLast_12 : decode b_Path_shutLast 12 = .ok (.getfield 25, 3) := by decide +kernel
theorem d_Path_shutLast_15 : decode b_Path_shutLast 15 = .ok (.iconst 1, 1) := by decide +kernel
theorem d_Path_shutLast_16 : decode b_Path_shutLast 16 = .ok (.isub, 1) := by decide +kernel
theorem d_Path_shutLast_17 : decode b_Path_shutLast 17 = .ok (.iconst 1, 1) := by decide +kernel
theorem d_Path_shutLast_18 : decode b_Path_shutLast 18 = .ok (.bastore, 1) := by decide +kernel
theorem d_Path_shutLast_19 : decode b_Path_shutLast 19 = .ok (.aload_n 0, 1) := by decide +kernel
theorem d_Path_shutLast_20 : decode b_Path_shutLast 20 = .ok (.dup, 1) := by decide +kernel
theorem d_Path_shutLast_21 : decode b_Path_shutLast 21 = .ok (.getfield 59, 3) := by decide +kernel
theorem d_Path_shutLast_24 : decode b_Path_shutLast 24 = .ok (.iconst 1, 1) := by decide +kernel
theorem d_Path_shutLast_25 : decode b_Path_shutLast 25 = .ok (.iadd, 1) := by decide +kernel
theorem d_Path_shutLast_26 : decode b_Path_shutLast 26 = .ok (.putfield 59, 3) := by decide +kernel
theorem d_Path_shutLast_29 : decode b_Path_shutLast 29 = .ok (.return_, 1) := by decide +kernel
theorem d_Path_drop_0 : decode b_Path_drop 0 = .ok (.aload_n 0, 1) := by decide +kernel
theorem d_Path_drop_1 : decode b_Path_drop 1 = .ok (.iconst 0, 1) := by decide +kernel
theorem d_Path_drop_2 : decode b_Path_drop 2 = .ok (.putfield 29, 3) := by decide +kernel
theorem d_Path_drop_5 : decode b_Path_drop 5 = .ok (.aload_n 0, 1) := by decide +kernel
theorem d_Path_drop_6 : decode b_Path_drop 6 = .ok (.iconst 0, 1) := by decide +kernel
theorem d_Path_drop_7 : decode b_Path_drop 7 = .ok (.putfield 25, 3) := by decide +kernel
theorem d_Path_drop_10 : decode b_Path_drop 10 = .ok (.aload_n 0, 1) := by decide +kernel
theorem d_Path_drop_11 : decode b_Path_drop 11 = .ok (.iconst 0, 1) := by decide +kernel
theorem d_Path_drop_12 : decode b_Path_drop 12 = .ok (.putfield 59, 3) := by decide +kernel
theorem d_Path_drop_15 : decode b_Path_drop 15 = .ok (.return_, 1) := by decide +kernel
theorem d_Path_behind_0 : decode b_Path_behind 0 = .ok (.iload_n 1, 1) := by decide +kernel
theorem d_Path_behind_1 : decode b_Path_behind 1 = .ok (.iconst 1, 1) := by decide +kernel
theorem d_Path_behind_2 : decode b_Path_behind 2 = .ok (.iadd, 1) := by decide +kernel
theorem d_Path_behind_3 : decode b_Path_behind 3 = .ok (.aload_n 0, 1) := by decide +kernel
theorem d_Path_behind_4 : decode b_Path_behind 4 = .ok (.getfield 25, 3) := by decide +kernel
theorem d_Path_behind_7 : decode b_Path_behind 7 = .ok (.if_icmp .ge 14, 3) := by decide +kernel
theorem d_Path_behind_10 : decode b_Path_behind 10 = .ok (.aload_n 0, 1) := by decide +kernel
theorem d_Path_behind_11 : decode b_Path_behind 11 = .ok (.getfield 18, 3) := by decide +kernel
theorem d_Path_behind_14 : decode b_Path_behind 14 = .ok (.iload_n 1, 1) := by decide +kernel
theorem d_Path_behind_15 : decode b_Path_behind 15 = .ok (.iconst 1, 1) := by decide +kernel
theorem d_Path_behind_16 : decode b_Path_behind 16 = .ok (.iadd, 1) := by decide +kernel
theorem d_Path_behind_17 : decode b_Path_behind 17 = .ok (.iaload, 1) := by decide +kernel
theorem d_Path_behind_18 : decode b_Path_behind 18 = .ok (.goto 7, 3) := by decide +kernel
theorem d_Path_behind_21 : decode b_Path_behind 21 = .ok (.aload_n 0, 1) := by decide +kernel
theorem d_Path_behind_22 : decode b_Path_behind 22 = .ok (.getfield 29, 3) := by decide +kernel
theorem d_Path_behind_25 : decode b_Path_behind 25 = .ok (.ireturn, 1) := by decide +kernel
theorem d_Pen_init_0 : decode b_Pen_init 0 = .ok (.aload_n 0, 1) := by decide +kernel
theorem d_Pen_init_1 : decode b_Pen_init 1 = .ok (.invokespecial 3, 3) := by decide +kernel
theorem d_Pen_init_4 : decode b_Pen_init 4 = .ok (.aload_n 0, 1) := by decide +kernel
theorem d_Pen_init_5 : decode b_Pen_init 5 = .ok (.sipush 512, 3) := by decide +kernel
theorem d_Pen_init_8 : decode b_Pen_init 8 = .ok (.putfield 9, 3) := by decide +kernel
theorem d_Pen_init_11 : decode b_Pen_init 11 = .ok (.aload_n 0, 1) := by decide +kernel
theorem d_Pen_init_12 : decode b_Pen_init 12 = .ok (.sipush 640, 3) := by decide +kernel
theorem d_Pen_init_15 : decode b_Pen_init 15 = .ok (.putfield 15, 3) := by decide +kernel
theorem d_Pen_init_18 : decode b_Pen_init 18 = .ok (.aload_n 0, 1) := by decide +kernel
theorem d_Pen_init_19 : decode b_Pen_init 19 = .ok (.bipush 8, 2) := by decide +kernel
theorem d_Pen_init_21 : decode b_Pen_init 21 = .ok (.newarray .int, 2) := by decide +kernel
theorem d_Pen_init_23 : decode b_Pen_init 23 = .ok (.putfield 18, 3) := by decide +kernel
theorem d_Pen_init_26 : decode b_Pen_init 26 = .ok (.return_, 1) := by decide +kernel
theorem d_Pen_shape_0 : decode b_Pen_shape 0 = .ok (.aload_n 0, 1) := by decide +kernel
theorem d_Pen_shape_1 : decode b_Pen_shape 1 = .ok (.bipush 8, 2) := by decide +kernel
theorem d_Pen_shape_3 : decode b_Pen_shape 3 = .ok (.iload_n 1, 1) := by decide +kernel
theorem d_Pen_shape_4 : decode b_Pen_shape 4 = .ok (.imul, 1) := by decide +kernel
theorem d_Pen_shape_5 : decode b_Pen_shape 5 = .ok (.putfield 9, 3) := by decide +kernel
theorem d_Pen_shape_8 : decode b_Pen_shape 8 = .ok (.aload_n 0, 1) := by decide +kernel
theorem d_Pen_shape_9 : decode b_Pen_shape 9 = .ok (.iload_n 2, 1) := by decide +kernel
theorem d_Pen_shape_10 : decode b_Pen_shape 10 = .ok (.putfield 22, 3) := by decide +kernel
theorem d_Pen_shape_13 : decode b_Pen_shape 13 = .ok (.aload_n 0, 1) := by decide +kernel
theorem d_Pen_shape_14 : decode b_Pen_shape 14 = .ok (.iload_n 3, 1) := by decide +kernel
theorem d_Pen_shape_15 : decode b_Pen_shape 15 = .ok (.putfield 25, 3) := by decide +kernel
theorem d_Pen_shape_18 : decode b_Pen_shape 18 = .ok (.aload_n 0, 1) := by decide +kernel
theorem d_Pen_shape_19 : decode b_Pen_shape 19 = .ok (.iload 4, 2) := by decide +kernel
theorem d_Pen_shape_21 : decode b_Pen_shape 21 = .ok (.putfield 15, 3) := by decide +kernel
theorem d_Pen_shape_24 : decode b_Pen_shape 24 = .ok (.return_, 1) := by decide +kernel
theorem d_Pen_addDash_0 : decode b_Pen_addDash 0 = .ok (.aload_n 0, 1) := by decide +kernel
theorem d_Pen_addDash_1 : decode b_Pen_addDash 1 = .ok (.getfield 28, 3) := by decide +kernel
theorem d_Pen_addDash_4 : decode b_Pen_addDash 4 = .ok (.bipush 8, 2) := by decide +kernel
theorem d_Pen_addDash_6 : decode b_Pen_addDash 6 = .ok (.if_icmp .ge 33, 3) := by decide +kernel
theorem d_Pen_addDash_9 : decode b_Pen_addDash 9 = .ok (.aload_n 0, 1) := by decide +kernel
theorem d_Pen_addDash_10 : decode b_Pen_addDash 10 = .ok (.getfield 18, 3) := by decide +kernel
theorem d_Pen_addDash_13 : decode b_Pen_addDash 13 = .ok (.aload_n 0, 1) := by decide +kernel
theorem d_Pen_addDash_14 : decode b_Pen_addDash 14 = .ok (.getfield 28, 3) := by decide +kernel
theorem d_Pen_addDash_17 : decode b_Pen_addDash 17 = .ok (.iload_n 1, 1) := by decide +kernel
theorem d_Pen_addDash_18 : decode b_Pen_addDash 18 = .ok (.iastore, 1) := by decide +kernel
theorem d_Pen_addDash_19 : decode b_Pen_addDash 19 = .ok (.aload_n 0, 1) := by decide +kernel
theorem d_Pen_addDash_20 : decode b_Pen_addDash 20 = .ok (.dup, 1) := by decide +kernel
theorem d_Pen_addDash_21 : decode b_Pen_addDash 21 = .ok (.getfield 28, 3) := by decide +kernel
theorem d_Pen_addDash_24 : decode b_Pen_addDash 24 = .ok (.iconst 1, 1) := by decide +kernel
theorem d_Pen_addDash_25 : decode b_Pen_addDash 25 = .ok (.iadd, 1) := by decide +kernel
theorem d_Pen_addDash_26 : decode b_Pen_addDash 26 = .ok (.putfield 28, 3) := by decide +kernel
theorem d_Pen_addDash_29 : decode b_Pen_addDash 29 = .ok (.aload_n 0, 1) := by decide +kernel
theorem d_Pen_addDash_30 : decode b_Pen_addDash 30 = .ok (.dup, 1) := by decide +kernel
theorem d_Pen_addDash_31 : decode b_Pen_addDash 31 = .ok (.getfield 31, 3) := by decide +kernel
theorem d_Pen_addDash_34 : decode b_Pen_addDash 34 = .ok (.iload_n 1, 1) := by decide +kernel
theorem d_Pen_addDash_35 : decode b_Pen_addDash 35 = .ok (.iadd, 1) := by decide +kernel
theorem d_Pen_addDash_36 : decode b_Pen_addDash 36 = .ok (.putfield 31, 3) := by decide +kernel
theorem d_Pen_addDash_39 : decode b_Pen_addDash 39 = .ok (.return_, 1) := by decide +kernel
theorem d_Pen_dropDashes_0 : decode b_Pen_dropDashes 0 = .ok (.aload_n 0, 1) := by decide +kernel
theorem d_Pen_dropDashes_1 : decode b_Pen_dropDashes 1 = .ok (.iload_n 1, 1) := by decide +kernel
theorem d_Pen_dropDashes_2 : decode b_Pen_dropDashes 2 = .ok (.putfield 34, 3) := by decide +kernel
theorem d_Pen_dropDashes_5 : decode b_Pen_dropDashes 5 = .ok (.aload_n 0, 1) := by decide +kernel
theorem d_Pen_dropDashes_6 : decode b_Pen_dropDashes 6 = .ok (.iconst 0, 1) := by decide +kernel
theorem d_Pen_dropDashes_7 : decode b_Pen_dropDashes 7 = .ok (.putfield 28, 3) := by decide +kernel
theorem d_Pen_dropDashes_10 : decode b_Pen_dropDashes 10 = .ok (.aload_n 0, 1) := by decide +kernel
theorem d_Pen_dropDashes_11 : decode b_Pen_dropDashes 11 = .ok (.iconst 0, 1) := by decide +kernel
theorem d_Pen_dropDashes_12 : decode b_Pen_dropDashes 12 = .ok (.putfield 31, 3) := by decide +kernel
theorem d_Pen_dropDashes_15 : decode b_Pen_dropDashes 15 = .ok (.return_, 1) := by decide +kernel
theorem d_Pen_isDashed_0 : decode b_Pen_isDashed 0 = .ok (.aload_n 0, 1) := by decide +kernel
theorem d_Pen_isDashed_1 : decode b_Pen_isDashed 1 = .ok (.getfield 31, 3) := by decide +kernel
theorem d_Pen_isDashed_4 : decode b_Pen_isDashed 4 = .ok (.ifCond .le 7, 3) := by decide +kernel
theorem d_Pen_isDashed_7 : decode b_Pen_isDashed 7 = .ok (.iconst 1, 1) := by decide +kernel
theorem d_Pen_isDashed_8 : decode b_Pen_isDashed 8 = .ok (.goto 4, 3) := by decide +kernel
theorem d_Pen_isDashed_11 : decode b_Pen_isDashed 11 = .ok (.iconst 0, 1) := by decide +kernel
theorem d_Pen_isDashed_12 : decode b_Pen_isDashed 12 = .ok (.ireturn, 1) := by decide +kernel
theorem d_Pieces_init_0 : decode b_Pieces_init 0 = .ok (.aload_n 0, 1) := by decide +kernel
theorem d_Pieces_init_1 : decode b_Pieces_init 1 = .ok (.invokespecial 3, 3) := by decide +kernel
theorem d_Pieces_init_4 : decode b_Pieces_init 4 = .ok (.aload_n 0, 1) := by decide +kernel
theorem d_Pieces_init_5 : decode b_Pieces_init 5 = .ok (.bipush 16, 2) := by decide +kernel
theorem d_Pieces_init_7 : decode b_Pieces_init 7 = .ok (.newarray .int, 2) := by decide +kernel
theorem d_Pieces_init_9 : decode b_Pieces_init 9 = .ok (.putfield 9, 3) := by decide +kernel
theorem d_Pieces_init_12 : decode b_Pieces_init 12 = .ok (.aload_n 0, 1) := by decide +kernel
theorem d_Pieces_init_13 : decode b_Pieces_init 13 = .ok (.bipush 16, 2) := by decide +kernel
theorem d_Pieces_init_15 : decode b_Pieces_init 15 = .ok (.newarray .int, 2) := by decide +kernel
theorem d_Pieces_init_17 : decode b_Pieces_init 17 = .ok (.putfield 15, 3) := by decide +kernel
theorem d_Pieces_init_20 : decode b_Pieces_init 20 = .ok (.aload_n 0, 1) := by decide +kernel
theorem d_Pieces_init_21 : decode b_Pieces_init 21 = .ok (.bipush 16, 2) := by decide +kernel
theorem d_Pieces_init_23 : decode b_Pieces_init 23 = .ok (.newarray .int, 2) := by decide +kernel
theorem d_Pieces_init_25 : decode b_Pieces_init 25 = .ok (.putfield 18, 3) := by decide +kernel
theorem d_Pieces_init_28 : decode b_Pieces_init 28 = .ok (.aload_n 0, 1) := by decide +kernel
theorem d_Pieces_init_29 : decode b_Pieces_init 29 = .ok (.bipush 16, 2) := by decide +kernel
theorem d_Pieces_init_31 : decode b_Pieces_init 31 = .ok (.newarray .int, 2) := by decide +kernel
theorem d_Pieces_init_33 : decode b_Pieces_init 33 = .ok (.putfield 21, 3) := by decide +kernel
theorem d_Pieces_init_36 : decode b_Pieces_init 36 = .ok (.aload_n 0, 1) := by decide +kernel
theorem d_Pieces_init_37 : decode b_Pieces_init 37 = .ok (.bipush 16, 2) := by decide +kernel
theorem d_Pieces_init_39 : decode b_Pieces_init 39 = .ok (.newarray .int, 2) := by decide +kernel
theorem d_Pieces_init_41 : decode b_Pieces_init 41 = .ok (.putfield 24, 3) := by decide +kernel
theorem d_Pieces_init_44 : decode b_Pieces_init 44 = .ok (.aload_n 0, 1) := by decide +kernel
theorem d_Pieces_init_45 : decode b_Pieces_init 45 = .ok (.bipush 16, 2) := by decide +kernel
theorem d_Pieces_init_47 : decode b_Pieces_init 47 = .ok (.newarray .int, 2) := by decide +kernel
theorem d_Pieces_init_49 : decode b_Pieces_init 49 = .ok (.putfield 27, 3) := by decide +kernel
theorem d_Pieces_init_52 : decode b_Pieces_init 52 = .ok (.aload_n 0, 1) := by decide +kernel
theorem d_Pieces_init_53 : decode b_Pieces_init 53 = .ok (.bipush 16, 2) := by decide +kernel
theorem d_Pieces_init_55 : decode b_Pieces_init 55 = .ok (.newarray .int, 2) := by decide +kernel
theorem d_Pieces_init_57 : decode b_Pieces_init 57 = .ok (.putfield 30, 3) := by decide +kernel
theorem d_Pieces_init_60 : decode b_Pieces_init 60 = .ok (.aload_n 0, 1) := by decide +kernel
theorem d_Pieces_init_61 : decode b_Pieces_init 61 = .ok (.bipush 16, 2) := by decide +kernel
theorem d_Pieces_init_63 : decode b_Pieces_init 63 = .ok (.newarray .int, 2) := by decide +kernel
theorem d_Pieces_init_65 : decode b_Pieces_init 65 = .ok (.putfield 33, 3) := by decide +kernel
theorem d_Pieces_init_68 : decode b_Pieces_init 68 = .ok (.aload_n 0, 1) := by decide +kernel
theorem d_Pieces_init_69 : decode b_Pieces_init 69 = .ok (.iconst (-1), 1) := by decide +kernel
theorem d_Pieces_init_70 : decode b_Pieces_init 70 = .ok (.putfield 36, 3) := by decide +kernel
theorem d_Pieces_init_73 : decode b_Pieces_init 73 = .ok (.return_, 1) := by decide +kernel
theorem d_Pieces_drop_0 : decode b_Pieces_drop 0 = .ok (.aload_n 0, 1) := by decide +kernel
theorem d_Pieces_drop_1 : decode b_Pieces_drop 1 = .ok (.iconst 0, 1) := by decide +kernel
theorem d_Pieces_drop_2 : decode b_Pieces_drop 2 = .ok (.putfield 40, 3) := by decide +kernel
theorem d_Pieces_drop_5 : decode b_Pieces_drop 5 = .ok (.aload_n 0, 1) := by decide +kernel
theorem d_Pieces_drop_6 : decode b_Pieces_drop 6 = .ok (.iconst 0, 1) := by decide +kernel
theorem d_Pieces_drop_7 : decode b_Pieces_drop 7 = .ok (.putfield 43, 3) := by decide +kernel
theorem d_Pieces_drop_10 : decode b_Pieces_drop 10 = .ok (.aload_n 0, 1) := by decide +kernel
theorem d_Pieces_drop_11 : decode b_Pieces_drop 11 = .ok (.iconst (-1), 1) := by decide +kernel
theorem d_Pieces_drop_12 : decode b_Pieces_drop 12 = .ok (.putfield 36, 3) := by decide +kernel
theorem d_Pieces_drop_15 : decode b_Pieces_drop 15 = .ok (.return_, 1) := by decide +kernel
theorem d_Pieces_add_0 : decode b_Pieces_add 0 = .ok (.aload_n 0, 1) := by decide +kernel
theorem d_Pieces_add_1 : decode b_Pieces_add 1 = .ok (.getfield 43, 3) := by decide +kernel
theorem d_Pieces_add_4 : decode b_Pieces_add 4 = .ok (.ifCond .ne 13, 3) := by decide +kernel
theorem d_Pieces_add_7 : decode b_Pieces_add 7 = .ok (.aload_n 0, 1) := by decide +kernel
theorem d_Pieces_add_8 : decode b_Pieces_add 8 = .ok (.getfield 40, 3) := by decide +kernel
theorem d_Pieces_add_11 : decode b_Pieces_add 11 = .ok (.sipush 2000, 3) := by decide +kernel
theorem d_Pieces_add_14 : decode b_Pieces_add 14 = .ok (.if_icmp .lt 19, 3) := by decide +kernel
theorem d_Pieces_add_17 : decode b_Pieces_add 17 = .ok (.aload_n 0, 1) := by decide +kernel
theorem d_Pieces_add_18 : decode b_Pieces_add 18 = .ok (.iconst 1, 1) := by decide +kernel
theorem d_Pieces_add_19 : decode b_Pieces_add 19 = .ok (.putfield 43, 3) := by decide +kernel
theorem d_Pieces_add_22 : decode b_Pieces_add 22 = .ok (.aload_n 0, 1) := by decide +kernel
theorem d_Pieces_add_23 : decode b_Pieces_add 23 = .ok (.iconst 0, 1) := by decide +kernel
theorem d_Pieces_add_24 : decode b_Pieces_add 24 = .ok (.putfield 40, 3) := by decide +kernel
theorem d_Pieces_add_27 : decode b_Pieces_add 27 = .ok (.aload_n 0, 1) := by decide +kernel
theorem d_Pieces_add_28 : decode b_Pieces_add 28 = .ok (.iconst (-1), 1) := by decide +kernel
theorem d_Pieces_add_29 : decode b_Pieces_add 29 = .ok (.putfield 36, 3) := by decide +kernel
theorem d_Pieces_add_32 : decode b_Pieces_add 32 = .ok (.return_, 1) := by decide +kernel
theorem d_Pieces_add_33 : decode b_Pieces_add 33 = .ok (.aload_n 0, 1) := by decide +kernel
theorem d_Pieces_add_34 : decode b_Pieces_add 34 = .ok (.getfield 40, 3) := by decide +kernel
theorem d_Pieces_add_37 : decode b_Pieces_add 37 = .ok (.aload_n 0, 1) := by decide +kernel
theorem d_Pieces_add_38 : decode b_Pieces_add 38 = .ok (.getfield 9, 3) := by decide +kernel
theorem d_Pieces_add_41 : decode b_Pieces_add 41 = .ok (.arraylength, 1) := by decide +kernel
theorem d_Pieces_add_42 : decode b_Pieces_add 42 = .ok (.if_icmp .lt 20, 3) := by decide +kernel
theorem d_Pieces_add_45 : decode b_Pieces_add 45 = .ok (.aload_n 0, 1) := by decide +kernel
theorem d_Pieces_add_46 : decode b_Pieces_add 46 = .ok (.sipush 2000, 3) := by decide +kernel
theorem d_Pieces_add_49 : decode b_Pieces_add 49 = .ok (.iconst 2, 1) := by decide +kernel
theorem d_Pieces_add_50 : decode b_Pieces_add 50 = .ok (.aload_n 0, 1) := by decide +kernel
theorem d_Pieces_add_51 : decode b_Pieces_add 51 = .ok (.getfield 9, 3) := by decide +kernel
theorem d_Pieces_add_54 : decode b_Pieces_add 54 = .ok (.arraylength, 1) := by decide +kernel
theorem d_Pieces_add_55 : decode b_Pieces_add 55 = .ok (.imul, 1) := by decide +kernel
theorem d_Pieces_add_56 : decode b_Pieces_add 56 = .ok (.invokestatic 47, 3) := by decide +kernel
theorem d_Pieces_add_59 : decode b_Pieces_add 59 = .ok (.invokevirtual 53, 3) := by decide +kernel
theorem d_Pieces_add_62 : decode b_Pieces_add 62 = .ok (.aload_n 0, 1) := by decide +kernel
theorem d_Pieces_add_63 : decode b_Pieces_add 63 = .ok (.getfield 9, 3) := by decide +kernel
theorem d_Pieces_add_66 : decode b_Pieces_add 66 = .ok (.aload_n 0, 1) := by decide +kernel
theorem d_Pieces_add_67 : decode b_Pieces_add 67 = .ok (.getfield 40, 3) := by decide +kernel
theorem d_Pieces_add_70 : decode b_Pieces_add 70 = .ok (.iload_n 1, 1) := by decide +kernel
theorem d_Pieces_add_71 : decode b_Pieces_add 71 = .ok (.iastore, 1) := by decide +kernel
theorem d_Pieces_add_72 : decode b_Pieces_add 72 = .ok (.aload_n 0, 1) := by decide +kernel
theorem d_Pieces_add_73 : decode b_Pieces_add 73 = .ok (.getfield 15, 3) := by decide +kernel
theorem d_Pieces_add_76 : decode b_Pieces_add 76 = .ok (.aload_n 0, 1) := by decide +kernel
theorem d_Pieces_add_77 : decode b_Pieces_add 77 = .ok (.getfield 40, 3) := by decide +kernel
theorem d_Pieces_add_80 : decode b_Pieces_add 80 = .ok (.iload_n 2, 1) := by decide +kernel
theorem d_Pieces_add_81 : decode b_Pieces_add 81 = .ok (.iastore, 1) := by decide +kernel
theorem d_Pieces_add_82 : decode b_Pieces_add 82 = .ok (.aload_n 0, 1) := by decide +kernel
theorem d_Pieces_add_83 : decode b_Pieces_add 83 = .ok (.getfield 18, 3) := by decide +kernel
theorem d_Pieces_add_86 : decode b_Pieces_add 86 = .ok (.aload_n 0, 1) := by decide +kernel
theorem d_Pieces_add_87 : decode b_Pieces_add 87 = .ok (.getfield 40, 3) := by decide +kernel
theorem d_Pieces_add_90 : decode b_Pieces_add 90 = .ok (.iload_n 3, 1) := by decide +kernel
theorem d_Pieces_add_91 : decode b_Pieces_add 91 = .ok (.iastore, 1) := by decide +kernel
theorem d_Pieces_add_92 : decode b_Pieces_add 92 = .ok (.aload_n 0, 1) := by decide +kernel
theorem d_Pieces_add_93 : decode b_Pieces_add 93 = .ok (.getfield 21, 3) := by decide +kernel
theorem d_Pieces_add_96 : decode b_Pieces_add 96 = .ok (.aload_n 0, 1) := by decide +kernel
theorem d_Pieces_add_97 : decode b_Pieces_add 97 = .ok (.getfield 40, 3) := by decide +kernel
theorem d_Pieces_add_100 : decode b_Pieces_add 100 = .ok (.iload 4, 2) := by decide +kernel
theorem d_Pieces_add_102 : decode b_Pieces_add 102 = .ok (.iastore, 1) := by decide +kernel
theorem d_Pieces_add_103 : decode b_Pieces_add 103 = .ok (.aload_n 0, 1) := by decide +kernel
theorem d_Pieces_add_104 : decode b_Pieces_add 104 = .ok (.getfield 24, 3) := by decide +kernel
theorem d_Pieces_add_107 : decode b_Pieces_add 107 = .ok (.aload_n 0, 1) := by decide +kernel
theorem d_Pieces_add_108 : decode b_Pieces_add 108 = .ok (.getfield 40, 3) := by decide +kernel
theorem d_Pieces_add_111 : decode b_Pieces_add 111 = .ok (.iload 5, 2) := by decide +kernel
theorem d_Pieces_add_113 : decode b_Pieces_add 113 = .ok (.iastore, 1) := by decide +kernel
theorem d_Pieces_add_114 : decode b_Pieces_add 114 = .ok (.aload_n 0, 1) := by decide +kernel
theorem d_Pieces_add_115 : decode b_Pieces_add 115 = .ok (.getfield 27, 3) := by decide +kernel
theorem d_Pieces_add_118 : decode b_Pieces_add 118 = .ok (.aload_n 0, 1) := by decide +kernel
theorem d_Pieces_add_119 : decode b_Pieces_add 119 = .ok (.getfield 40, 3) := by decide +kernel
theorem d_Pieces_add_122 : decode b_Pieces_add 122 = .ok (.iload 6, 2) := by decide +kernel
theorem d_Pieces_add_124 : decode b_Pieces_add 124 = .ok (.iastore, 1) := by decide +kernel
theorem d_Pieces_add_125 : decode b_Pieces_add 125 = .ok (.aload_n 0, 1) := by decide +kernel
theorem d_Pieces_add_126 : decode b_Pieces_add 126 = .ok (.getfield 30, 3) := by decide +kernel
theorem d_Pieces_add_129 : decode b_Pieces_add 129 = .ok (.aload_n 0, 1) := by decide +kernel
theorem d_Pieces_add_130 : decode b_Pieces_add 130 = .ok (.getfield 40, 3) := by decide +kernel
theorem d_Pieces_add_133 : decode b_Pieces_add 133 = .ok (.aload_n 0, 1) := by decide +kernel
theorem d_Pieces_add_134 : decode b_Pieces_add 134 = .ok (.getfield 36, 3) := by decide +kernel
theorem d_Pieces_add_137 : decode b_Pieces_add 137 = .ok (.iastore, 1) := by decide +kernel
theorem d_Pieces_add_138 : decode b_Pieces_add 138 = .ok (.aload_n 0, 1) := by decide +kernel
theorem d_Pieces_add_139 : decode b_Pieces_add 139 = .ok (.getfield 33, 3) := by decide +kernel
theorem d_Pieces_add_142 : decode b_Pieces_add 142 = .ok (.aload_n 0, 1) := by decide +kernel
theorem d_Pieces_add_143 : decode b_Pieces_add 143 = .ok (.getfield 40, 3) := by decide +kernel
theorem d_Pieces_add_146 : decode b_Pieces_add 146 = .ok (.iconst 0, 1) := by decide +kernel
theorem d_Pieces_add_147 : decode b_Pieces_add 147 = .ok (.iastore, 1) := by decide +kernel
theorem d_Pieces_add_148 : decode b_Pieces_add 148 = .ok (.aload_n 0, 1) := by decide +kernel
theorem d_Pieces_add_149 : decode b_Pieces_add 149 = .ok (.aload_n 0, 1) := by decide +kernel
theorem d_Pieces_add_150 : decode b_Pieces_add 150 = .ok (.getfield 40, 3) := by decide +kernel
theorem d_Pieces_add_153 : decode b_Pieces_add 153 = .ok (.putfield 36, 3) := by decide +kernel
theorem d_Pieces_add_156 : decode b_Pieces_add 156 = .ok (.aload_n 0, 1) := by decide +kernel
theorem d_Pieces_add_157 : decode b_Pieces_add 157 = .ok (.dup, 1) := by decide +kernel
theorem d_Pieces_add_158 : decode b_Pieces_add 158 = .ok (.getfield 40, 3) := by decide +kernel
theorem d_Pieces_add_161 : decode b_Pieces_add 161 = .ok (.iconst 1, 1) := by decide +kernel
theorem d_Pieces_add_162 : decode b_Pieces_add 162 = .ok (.iadd, 1) := by decide +kernel
theorem d_Pieces_add_163 : decode b_Pieces_add 163 = .ok (.putfield 40, 3) := by decide +kernel
theorem d_Pieces_add_166 : decode b_Pieces_add 166 = .ok (.return_, 1) := by decide +kernel
theorem d_Pieces_addDot_0 : decode b_Pieces_addDot 0 = .ok (.aload_n 0, 1) := by decide +kernel
theorem d_Pieces_addDot_1 : decode b_Pieces_addDot 1 = .ok (.iload_n 1, 1) := by decide +kernel
theorem d_Pieces_addDot_2 : decode b_Pieces_addDot 2 = .ok (.iload_n 2, 1) := by decide +kernel
theorem d_Pieces_addDot_3 : decode b_Pieces_addDot 3 = .ok (.iload_n 1, 1) := by decide +kernel
theorem d_Pieces_addDot_4 : decode b_Pieces_addDot 4 = .ok (.iload_n 2, 1) := by decide +kernel
theorem d_Pieces_addDot_5 : decode b_Pieces_addDot 5 = .ok (.iconst 0, 1) := by decide +kernel
theorem d_Pieces_addDot_6 : decode b_Pieces_addDot 6 = .ok (.iconst 0, 1) := by decide +kernel
theorem d_Pieces_addDot_7 : decode b_Pieces_addDot 7 = .ok (.invokevirtual 57, 3) := by decide +kernel
theorem d_Pieces_addDot_10 : decode b_Pieces_addDot 10 = .ok (.aload_n 0, 1) := by decide +kernel
theorem d_Pieces_addDot_11 : decode b_Pieces_addDot 11 = .ok (.iconst 2, 1) := by decide +kernel
theorem d_Pieces_addDot_12 : decode b_Pieces_addDot 12 = .ok (.invokevirtual 61, 3) := by decide +kernel
theorem d_Pieces_addDot_15 : decode b_Pieces_addDot 15 = .ok (.return_, 1) := by decide +kernel
theorem d_Pieces_endChain_0 : decode b_Pieces_endChain 0 = .ok (.aload_n 0, 1) := by decide +kernel
theorem d_Pieces_endChain_1 : decode b_Pieces_endChain 1 = .ok (.getfield 36, 3) := by decide +kernel
theorem d_Pieces_endChain_4 : decode b_Pieces_endChain 4 = .ok (.ifCond .lt 18, 3) := by decide +kernel
theorem d_Pieces_endChain_7 : decode b_Pieces_endChain 7 = .ok (.aload_n 0, 1) := by decide +kernel
theorem d_Pieces_endChain_8 : decode b_Pieces_endChain 8 = .ok (.getfield 33, 3) := by decide +kernel
theorem d_Pieces_endChain_11 : decode b_Pieces_endChain 11 = .ok (.aload_n 0, 1) := by decide +kernel
theorem d_Pieces_endChain_12 : decode b_Pieces_endChain 12 = .ok (.getfield 36, 3) := by decide +kernel
theorem d_Pieces_endChain_15 : decode b_Pieces_endChain 15 = .ok (.iload_n 1, 1) := by decide +kernel
theorem d_Pieces_endChain_16 : decode b_Pieces_endChain 16 = .ok (.iastore, 1) := by decide +kernel
theorem d_Pieces_endChain_17 : decode b_Pieces_endChain 17 = .ok (.aload_n 0, 1) := by decide +kernel
theorem d_Pieces_endChain_18 : decode b_Pieces_endChain 18 = .ok (.iconst (-1), 1) := by decide +kernel
theorem d_Pieces_endChain_19 : decode b_Pieces_endChain 19 = .ok (.putfield 36, 3) := by decide +kernel
theorem d_Pieces_endChain_22 : decode b_Pieces_endChain 22 = .ok (.return_, 1) := by decide +kernel
theorem d_Pieces_closeChain_0 : decode b_Pieces_closeChain 0 = .ok (.aload_n 0, 1) := by decide +kernel
theorem d_Pieces_closeChain_1 : decode b_Pieces_closeChain 1 = .ok (.getfield 36, 3) := by decide +kernel
theorem d_Pieces_closeChain_4 : decode b_Pieces_closeChain 4 = .ok (.ifCond .lt 30, 3) := by decide +kernel
theorem d_Pieces_closeChain_7 : decode b_Pieces_closeChain 7 = .ok (.iload_n 1, 1) := by decide +kernel
theorem d_Pieces_closeChain_8 : decode b_Pieces_closeChain 8 = .ok (.ifCond .lt 26, 3) := by decide +kernel
theorem d_Pieces_closeChain_11 : decode b_Pieces_closeChain 11 = .ok (.iload_n 1, 1) := by decide +kernel
theorem d_Pieces_closeChain_12 : decode b_Pieces_closeChain 12 = .ok (.aload_n 0, 1) := by decide +kernel
theorem d_Pieces_closeChain_13 : decode b_Pieces_closeChain 13 = .ok (.getfield 36, 3) := by decide +kernel
theorem d_Pieces_closeChain_16 : decode b_Pieces_closeChain 16 = .ok (.if_icmp .gt 18, 3) := by decide +kernel
theorem d_Pieces_closeChain_19 : decode b_Pieces_closeChain 19 = .ok (.aload_n 0, 1) := by decide +kernel
theorem d_Pieces_closeChain_20 : decode b_Pieces_closeChain 20 = .ok (.getfield 30, 3) := by decide +kernel
theorem d_Pieces_closeChain_23 : decode b_Pieces_closeChain 23 = .ok (.iload_n 1, 1) := by decide +kernel
theorem d_Pieces_closeChain_24 : decode b_Pieces_closeChain 24 = .ok (.aload_n 0, 1) := by decide +kernel
theorem d_Pieces_closeChain_25 : decode b_Pieces_closeChain 25 = .ok (.getfield 36, 3) := by decide +kernel
theorem d_Pieces_closeChain_28 : decode b_Pieces_closeChain 28 = .ok (.iastore, 1) := by decide +kernel
theorem d_Pieces_closeChain_29 : decode b_Pieces_closeChain 29 = .ok (.aload_n 0, 1) := by decide +kernel
theorem d_Pieces_closeChain_30 : decode b_Pieces_closeChain 30 = .ok (.iconst (-1), 1) := by decide +kernel
theorem d_Pieces_closeChain_31 : decode b_Pieces_closeChain 31 = .ok (.putfield 36, 3) := by decide +kernel
theorem d_Pieces_closeChain_34 : decode b_Pieces_closeChain 34 = .ok (.return_, 1) := by decide +kernel
theorem d_Pieces_grow_0 : decode b_Pieces_grow 0 = .ok (.aload_n 0, 1) := by decide +kernel
theorem d_Pieces_grow_1 : decode b_Pieces_grow 1 = .ok (.aload_n 0, 1) := by decide +kernel
theorem d_Pieces_grow_2 : decode b_Pieces_grow 2 = .ok (.getfield 9, 3) := by decide +kernel
theorem d_Pieces_grow_5 : decode b_Pieces_grow 5 = .ok (.iload_n 1, 1) := by decide +kernel
theorem d_Pieces_grow_6 : decode b_Pieces_grow 6 = .ok (.invokestatic 64, 3) := by decide +kernel
theorem d_Pieces_grow_9 : decode b_Pieces_grow 9 = .ok (.putfield 9, 3) := by decide +kernel
theorem d_Pieces_grow_12 : decode b_Pieces_grow 12 = .ok (.aload_n 0, 1) := by decide +kernel
theorem d_Pieces_grow_13 : decode b_Pieces_grow 13 = .ok (.aload_n 0, 1) := by decide +kernel
theorem d_Pieces_grow_14 : decode b_Pieces_grow 14 = .ok (.getfield 15, 3) := by decide +kernel
theorem d_Pieces_grow_17 : decode b_Pieces_grow 17 = .ok (.iload_n 1, 1) := by decide +kernel
theorem d_Pieces_grow_18 : decode b_Pieces_grow 18 = .ok (.invokestatic 64, 3) := by decide +kernel
theorem d_Pieces_grow_21 : decode b_Pieces_grow 21 = .ok (.putfield 15, 3) := by decide +kernel
theorem d_Pieces_grow_24 : decode b_Pieces_grow 24 = .ok (.aload_n 0, 1) := by decide +kernel
theorem d_Pieces_grow_25 : decode b_Pieces_grow 25 = .ok (.aload_n 0, 1) := by decide +kernel
theorem d_Pieces_grow_26 : decode b_Pieces_grow 26 = .ok (.getfield 18, 3) := by decide +kernel
theorem d_Pieces_grow_29 : decode b_Pieces_grow 29 = .ok (.iload_n 1, 1) := by decide +kernel
theorem d_Pieces_grow_30 : decode b_Pieces_grow 30 = .ok (.invokestatic 64, 3) := by decide +kernel
theorem d_Pieces_grow_33 : decode b_Pieces_grow 33 = .ok (.putfield 18, 3) := by decide +kernel
theorem d_Pieces_grow_36 : decode b_Pieces_grow 36 = .ok (.aload_n 0, 1) := by decide +kernel
theorem d_Pieces_grow_37 : decode b_Pieces_grow 37 = .ok (.aload_n 0, 1) := by decide +kernel
theorem d_Pieces_grow_38 : decode b_Pieces_grow 38 = .ok (.getfield 21, 3) := by decide +kernel
theorem d_Pieces_grow_41 : decode b_Pieces_grow 41 = .ok (.iload_n 1, 1) := by decide +kernel
theorem d_Pieces_grow_42 : decode b_Pieces_grow 42 = .ok (.invokestatic 64, 3) := by decide +kernel
theorem d_Pieces_grow_45 : decode b_Pieces_grow 45 = .ok (.putfield 21, 3) := by decide +kernel
theorem d_Pieces_grow_48 : decode b_Pieces_grow 48 = .ok (.aload_n 0, 1) := by decide +kernel
theorem d_Pieces_grow_49 : decode b_Pieces_grow 49 = .ok (.aload_n 0, 1) := by decide +kernel
theorem d_Pieces_grow_50 : decode b_Pieces_grow 50 = .ok (.getfield 24, 3) := by decide +kernel
theorem d_Pieces_grow_53 : decode b_Pieces_grow 53 = .ok (.iload_n 1, 1) := by decide +kernel
theorem d_Pieces_grow_54 : decode b_Pieces_grow 54 = .ok (.invokestatic 64, 3) := by decide +kernel
theorem d_Pieces_grow_57 : decode b_Pieces_grow 57 = .ok (.putfield 24, 3) := by decide +kernel
theorem d_Pieces_grow_60 : decode b_Pieces_grow 60 = .ok (.aload_n 0, 1) := by decide +kernel
theorem d_Pieces_grow_61 : decode b_Pieces_grow 61 = .ok (.aload_n 0, 1) := by decide +kernel
theorem d_Pieces_grow_62 : decode b_Pieces_grow 62 = .ok (.getfield 27, 3) := by decide +kernel
theorem d_Pieces_grow_65 : decode b_Pieces_grow 65 = .ok (.iload_n 1, 1) := by decide +kernel
theorem d_Pieces_grow_66 : decode b_Pieces_grow 66 = .ok (.invokestatic 64, 3) := by decide +kernel
theorem d_Pieces_grow_69 : decode b_Pieces_grow 69 = .ok (.putfield 27, 3) := by decide +kernel
theorem d_Pieces_grow_72 : decode b_Pieces_grow 72 = .ok (.aload_n 0, 1) := by decide +kernel
theorem d_Pieces_grow_73 : decode b_Pieces_grow 73 = .ok (.aload_n 0, 1) := by decide +kernel
theorem d_Pieces_grow_74 : decode b_Pieces_grow 74 = .ok (.getfield 30, 3) := by decide +kernel
theorem d_Pieces_grow_77 : decode b_Pieces_grow 77 = .ok (.iload_n 1, 1) := by decide +kernel
theorem d_Pieces_grow_78 : decode b_Pieces_grow 78 = .ok (.invokestatic 64, 3) := by decide +kernel
theorem d_Pieces_grow_81 : decode b_Pieces_grow 81 = .ok (.putfield 30, 3) := by decide +kernel
theorem d_Pieces_grow_84 : decode b_Pieces_grow 84 = .ok (.aload_n 0, 1) := by decide +kernel
theorem d_Pieces_grow_85 : decode b_Pieces_grow 85 = .ok (.aload_n 0, 1) := by decide +kernel
theorem d_Pieces_grow_86 : decode b_Pieces_grow 86 = .ok (.getfield 33, 3) := by decide +kernel
theorem d_Pieces_grow_89 : decode b_Pieces_grow 89 = .ok (.iload_n 1, 1) := by decide +kernel
theorem d_Pieces_grow_90 : decode b_Pieces_grow 90 = .ok (.invokestatic 64, 3) := by decide +kernel
theorem d_Pieces_grow_93 : decode b_Pieces_grow 93 = .ok (.putfield 33, 3) := by decide +kernel
theorem d_Pieces_grow_96 : decode b_Pieces_grow 96 = .ok (.return_, 1) := by decide +kernel
theorem d_Walker_init_0 : decode b_Walker_init 0 = .ok (.aload_n 0, 1) := by decide +kernel
theorem d_Walker_init_1 : decode b_Walker_init 1 = .ok (.invokespecial 3, 3) := by decide +kernel
theorem d_Walker_init_4 : decode b_Walker_init 4 = .ok (.aload_n 0, 1) := by decide +kernel
theorem d_Walker_init_5 : decode b_Walker_init 5 = .ok (.aload_n 1, 1) := by decide +kernel
theorem d_Walker_init_6 : decode b_Walker_init 6 = .ok (.putfield 9, 3) := by decide +kernel
theorem d_Walker_init_9 : decode b_Walker_init 9 = .ok (.aload_n 0, 1) := by decide +kernel
theorem d_Walker_init_10 : decode b_Walker_init 10 = .ok (.aload_n 2, 1) := by decide +kernel
theorem d_Walker_init_11 : decode b_Walker_init 11 = .ok (.putfield 15, 3) := by decide +kernel
theorem d_Walker_init_14 : decode b_Walker_init 14 = .ok (.aload_n 0, 1) := by decide +kernel
theorem d_Walker_init_15 : decode b_Walker_init 15 = .ok (.aload_n 3, 1) := by decide +kernel
theorem d_Walker_init_16 : decode b_Walker_init 16 = .ok (.putfield 19, 3) := by decide +kernel
theorem d_Walker_init_19 : decode b_Walker_init 19 = .ok (.return_, 1) := by decide +kernel
theorem d_Walker_forget_0 : decode b_Walker_forget 0 = .ok (.aload_n 0, 1) := by decide +kernel
theorem d_Walker_forget_1 : decode b_Walker_forget 1 = .ok (.iconst 0, 1) := by decide +kernel
theorem d_Walker_forget_2 : decode b_Walker_forget 2 = .ok (.putfield 23, 3) := by decide +kernel
theorem d_Walker_forget_5 : decode b_Walker_forget 5 = .ok (.return_, 1) := by decide +kernel
theorem d_Walker_walk_0 : decode b_Walker_walk 0 = .ok (.aload_n 0, 1) := by decide +kernel
theorem d_Walker_walk_1 : decode b_Walker_walk 1 = .ok (.getfield 23, 3) := by decide +kernel
theorem d_Walker_walk_4 : decode b_Walker_walk 4 = .ok (.ifCond .eq 4, 3) := by decide +kernel
theorem d_Walker_walk_7 : decode b_Walker_walk 7 = .ok (.return_, 1) := by decide +kernel
theorem d_Walker_walk_8 : decode b_Walker_walk 8 = .ok (.aload_n 0, 1) := by decide +kernel
theorem d_Walker_walk_9 : decode b_Walker_walk 9 = .ok (.getfield 19, 3) := by decide +kernel
theorem d_Walker_walk_12 : decode b_Walker_walk 12 = .ok (.invokevirtual 27, 3) := by decide +kernel
theorem d_Walker_walk_15 : decode b_Walker_walk 15 = .ok (.aload_n 0, 1) := by decide +kernel
theorem d_Walker_walk_16 : decode b_Walker_walk 16 = .ok (.invokevirtual 32, 3) := by decide +kernel
theorem d_Walker_walk_19 : decode b_Walker_walk 19 = .ok (.iconst 0, 1) := by decide +kernel
theorem d_Walker_walk_20 : decode b_Walker_walk 20 = .ok (.istore_n 1, 1) := by decide +kernel
theorem d_Walker_walk_21 : decode b_Walker_walk 21 = .ok (.iload_n 1, 1) := by decide +kernel
theorem d_Walker_walk_22 : decode b_Walker_walk 22 = .ok (.aload_n 0, 1) := by decide +kernel
theorem d_Walker_walk_23 : decode b_Walker_walk 23 = .ok (.getfield 9, 3) := by decide +kernel
theorem d_Walker_walk_26 : decode b_Walker_walk 26 = .ok (.getfield 35, 3) := by decide +kernel
theorem d_Walker_walk_29 : decode b_Walker_walk 29 = .ok (.if_icmp .ge 24, 3) := by decide +kernel
theorem d_Walker_walk_32 : decode b_Walker_walk 32 = .ok (.aload_n 0, 1) := by decide +kernel
theorem d_Walker_walk_33 : decode b_Walker_walk 33 = .ok (.getfield 19, 3) := by decide +kernel
theorem d_Walker_walk_36 : decode b_Walker_walk 36 = .ok (.getfield 41, 3) := by decide +kernel
theorem d_Walker_walk_39 : decode b_Walker_walk 39 = .ok (.ifCond .ne 14, 3) := by decide +kernel
theorem d_Walker_walk_42 : decode b_Walker_walk 42 = .ok (.aload_n 0, 1) := by decide +kernel
theorem d_Walker_walk_43 : decode b_Walker_walk 43 = .ok (.iload_n 1, 1) := by decide +kernel
theorem d_Walker_walk_44 : decode b_Walker_walk 44 = .ok (.invokevirtual 44, 3) := by decide +kernel
theorem d_Walker_walk_47 : decode b_Walker_walk 47 = .ok (.iinc 1 1, 3) := by decide +kernel
theorem d_Walker_walk_50 : decode b_Walker_walk 50 = .ok (.goto (-29), 3) := by decide +kernel
theorem d_Walker_walk_53 : decode b_Walker_walk 53 = .ok (.aload_n 0, 1) := by decide +kernel
theorem d_Walker_walk_54 : decode b_Walker_walk 54 = .ok (.iconst 1, 1) := by decide +kernel
theorem d_Walker_walk_55 : decode b_Walker_walk 55 = .ok (.putfield 23, 3) := by decide +kernel
theorem d_Walker_walk_58 : decode b_Walker_walk 58 = .ok (.return_, 1) := by decide +kernel
theorem d_Walker_passPhase_0 : decode b_Walker_passPhase 0 = .ok (.aload_n 0, 1) := by decide +kernel
theorem d_Walker_passPhase_1 : decode b_Walker_passPhase 1 = .ok (.iconst 0, 1) := by decide +kernel
theorem d_Walker_passPhase_2 : decode b_Walker_passPhase 2 = .ok (.putfield 48, 3) := by decide +kernel
theorem d_Walker_passPhase_5 : decode b_Walker_passPhase 5 = .ok (.aload_n 0, 1) := by decide +kernel
theorem d_Walker_passPhase_6 : decode b_Walker_passPhase 6 = .ok (.iconst 1, 1) := by decide +kernel
theorem d_Walker_passPhase_7 : decode b_Walker_passPhase 7 = .ok (.putfield 51, 3) := by decide +kernel
theorem d_Walker_passPhase_10 : decode b_Walker_passPhase 10 = .ok (.aload_n 0, 1) := by decide +kernel
theorem d_Walker_passPhase_11 : decode b_Walker_passPhase 11 = .ok (.getfield 15, 3) := by decide +kernel
theorem d_Walker_passPhase_14 : decode b_Walker_passPhase 14 = .ok (.getfield 54, 3) := by decide +kernel
theorem d_Walker_passPhase_17 : decode b_Walker_passPhase 17 = .ok (.ifCond .gt 4, 3) := by decide +kernel
theorem d_Walker_passPhase_20 : decode b_Walker_passPhase 20 = .ok (.return_, 1) := by decide +kernel
theorem d_Walker_passPhase_21 : decode b_Walker_passPhase 21 = .ok (.aload_n 0, 1) := by decide +kernel
theorem d_Walker_passPhase_22 : decode b_Walker_passPhase 22 = .ok (.getfield 15, 3) := by decide +kernel
theorem d_Walker_passPhase_25 : decode b_Walker_passPhase 25 = .ok (.getfield 59, 3) := by decide +kernel
theorem d_Walker_passPhase_28 : decode b_Walker_passPhase 28 = .ok (.iconst 2, 1) := by decide +kernel
theorem d_Walker_passPhase_29 : decode b_Walker_passPhase 29 = .ok (.aload_n 0, 1) := by decide +kernel
theorem d_Walker_passPhase_30 : decode b_Walker_passPhase 30 = .ok (.getfield 15, 3) := by decide +kernel
theorem d_Walker_passPhase_33 : decode b_Walker_passPhase 33 = .ok (.getfield 54, 3) := by decide +kernel
theorem d_Walker_passPhase_36 : decode b_Walker_passPhase 36 = .ok (.imul, 1) := by decide +kernel
theorem d_Walker_passPhase_37 : decode b_Walker_passPhase 37 = .ok (.invokestatic 62, 3) := by decide +kernel
theorem d_Walker_passPhase_40 : decode b_Walker_passPhase 40 = .ok (.istore_n 1, 1) := by decide +kernel
theorem d_Walker_passPhase_41 : decode b_Walker_passPhase 41 = .ok (.iconst 0, 1) := by decide +kernel
theorem d_Walker_passPhase_42 : decode b_Walker_passPhase 42 = .ok (.istore_n 2, 1) := by decide +kernel
theorem d_Walker_passPhase_43 : decode b_Walker_passPhase 43 = .ok (.iload_n 2, 1) := by decide +kernel
theorem d_Walker_passPhase_44 : decode b_Walker_passPhase 44 = .ok (.bipush 16, 2) := by decide +kernel
theorem d_Walker_passPhase_46 : decode b_Walker_passPhase 46 = .ok (.if_icmp .ge 68, 3) := by decide +kernel
theorem d_Walker_passPhase_49 : decode b_Walker_passPhase 49 = .ok (.iload_n 1, 1) := by decide +kernel
theorem d_Walker_passPhase_50 : decode b_Walker_passPhase 50 = .ok (.aload_n 0, 1) := by decide +kernel
theorem d_Walker_passPhase_51 : decode b_Walker_passPhase 51 = .ok (.getfield 15, 3) := by decide +kernel
theorem d_Walker_passPhase_54 : decode b_Walker_passPhase 54 = .ok (.getfield 68, 3) := by decide +kernel
theorem d_Walker_passPhase_57 : decode b_Walker_passPhase 57 = .ok (.aload_n 0, 1) := by decide +kernel
theorem d_Walker_passPhase_58 : decode b_Walker_passPhase 58 = .ok (.getfield 48, 3) := by decide +kernel
theorem d_Walker_passPhase_61 : decode b_Walker_passPhase 61 = .ok (.iaload, 1) := by decide +kernel
theorem d_Walker_passPhase_62 : decode b_Walker_passPhase 62 = .ok (.if_icmp .lt 52, 3) := by decide +kernel
theorem d_Walker_passPhase_65 : decode b_Walker_passPhase 65 = .ok (.iload_n 1, 1) := by decide +kernel
theorem d_Walker_passPhase_66 : decode b_Walker_passPhase 66 = .ok (.aload_n 0, 1) := by decide +kernel
theorem d_Walker_passPhase_67 : decode b_Walker_passPhase 67 = .ok (.getfield 15, 3) := by decide +kernel
theorem d_Walker_passPhase_70 : decode b_Walker_passPhase 70 = .ok (.getfield 68, 3) := by decide +kernel
theorem d_Walker_passPhase_73 : decode b_Walker_passPhase 73 = .ok (.aload_n 0, 1) := by decide +kernel
theorem d_Walker_passPhase_74 : decode b_Walker_passPhase 74 = .ok (.getfield 48, 3) := by decide +kernel
theorem d_Walker_passPhase_77 : decode b_Walker_passPhase 77 = .ok (.iaload, 1) := by decide +kernel
theorem d_Walker_passPhase_78 : decode b_Walker_passPhase 78 = .ok (.isub, 1) := by decide +kernel
theorem d_Walker_passPhase_79 : decode b_Walker_passPhase 79 = .ok (.istore_n 1, 1) := by decide +kernel
theorem d_Walker_passPhase_80 : decode b_Walker_passPhase 80 = .ok (.aload_n 0, 1) := by decide +kernel
theorem d_Walker_passPhase_81 : decode b_Walker_passPhase 81 = .ok (.aload_n 0, 1) := by decide +kernel
theorem d_Walker_passPhase_82 : decode b_Walker_passPhase 82 = .ok (.aload_n 0, 1) := by decide +kernel
theorem d_Walker_passPhase_83 : decode b_Walker_passPhase 83 = .ok (.getfield 48, 3) := by decide +kernel
theorem d_Walker_passPhase_86 : decode b_Walker_passPhase 86 = .ok (.invokevirtual 72, 3) := by decide +kernel
theorem d_Walker_passPhase_89 : decode b_Walker_passPhase 89 = .ok (.putfield 48, 3) := by decide +kernel
theorem d_Walker_passPhase_92 : decode b_Walker_passPhase 92 = .ok (.aload_n 0, 1) := by decide +kernel
theorem d_Walker_passPhase_93 : decode b_Walker_passPhase 93 = .ok (.aload_n 0, 1) := by decide +kernel
theorem d_Walker_passPhase_94 : decode b_Walker_passPhase 94 = .ok (.getfield 51, 3) := by decide +kernel
theorem d_Walker_passPhase_97 : decode b_Walker_passPhase 97 = .ok (.ifCond .ne 7, 3) := by decide +kernel
theorem d_Walker_passPhase_100 : decode b_Walker_passPhase 100 = .ok (.iconst 1, 1) := by decide +kernel
theorem d_Walker_passPhase_101 : decode b_Walker_passPhase 101 = .ok (.goto 4, 3) := by decide +kernel
theorem d_Walker_passPhase_104 : decode b_Walker_passPhase 104 = .ok (.iconst 0, 1) := by decide +kernel
theorem d_Walker_passPhase_105 : decode b_Walker_passPhase 105 = .ok (.putfield 51, 3) := by decide +kernel
theorem d_Walker_passPhase_108 : decode b_Walker_passPhase 108 = .ok (.iinc 2 1, 3) := by decide +kernel
theorem d_Walker_passPhase_111 : decode b_Walker_passPhase 111 = .ok (.goto (-68), 3) := by decide +kernel
theorem d_Walker_passPhase_114 : decode b_Walker_passPhase 114 = .ok (.aload_n 0, 1) := by decide +kernel
theorem d_Walker_passPhase_115 : decode b_Walker_passPhase 115 = .ok (.sipush 256, 3) := by decide +kernel
theorem d_Walker_passPhase_118 : decode b_Walker_passPhase 118 = .ok (.aload_n 0, 1) := by decide +kernel
theorem d_Walker_passPhase_119 : decode b_Walker_passPhase 119 = .ok (.getfield 15, 3) := by decide +kernel
theorem d_Walker_passPhase_122 : decode b_Walker_passPhase 122 = .ok (.getfield 68, 3) := by decide +kernel
theorem d_Walker_passPhase_125 : decode b_Walker_passPhase 125 = .ok (.aload_n 0, 1) := by decide +kernel
theorem d_Walker_passPhase_126 : decode b_Walker_passPhase 126 = .ok (.getfield 48, 3) := by decide +kernel
theorem d_Walker_passPhase_129 : decode b_Walker_passPhase 129 = .ok (.iaload, 1) := by decide +kernel
theorem d_Walker_passPhase_130 : decode b_Walker_passPhase 130 = .ok (.iload_n 1, 1) := by decide +kernel
theorem d_Walker_passPhase_131 : decode b_Walker_passPhase 131 = .ok (.isub, 1) := by decide +kernel
theorem d_Walker_passPhase_132 : decode b_Walker_passPhase 132 = .ok (.imul, 1) := by decide +kernel
theorem d_Walker_passPhase_133 : decode b_Walker_passPhase 133 = .ok (.putfield 76, 3) := by decide +kernel
theorem d_Walker_passPhase_136 : decode b_Walker_passPhase 136 = .ok (.return_, 1) := by decide +kernel
theorem d_Walker_dashAfter_0 : decode b_Walker_dashAfter 0 = .ok (.iload_n 1, 1) := by decide +kernel
theorem d_Walker_dashAfter_1 : decode b_Walker_dashAfter 1 = .ok (.iconst 1, 1) := by decide +kernel
theorem d_Walker_dashAfter_2 : decode b_Walker_dashAfter 2 = .ok (.iadd, 1) := by decide +kernel
theorem d_Walker_dashAfter_3 : decode b_Walker_dashAfter 3 = .ok (.aload_n 0, 1) := by decide +kernel
theorem d_Walker_dashAfter_4 : decode b_Walker_dashAfter 4 = .ok (.getfield 15, 3) := by decide +kernel
theorem d_Walker_dashAfter_7 : decode b_Walker_dashAfter 7 = .ok (.getfield 79, 3) := by decide +kernel
theorem d_Walker_dashAfter_10 : decode b_Walker_dashAfter 10 = .ok (.if_icmp .ge 9, 3) := by decide +kernel
theorem d_Walker_dashAfter_13 : decode b_Walker_dashAfter 13 = .ok (.iload_n 1, 1) := by decide +kernel
theorem d_Walker_dashAfter_14 : decode b_Walker_dashAfter 14 = .ok (.iconst 1, 1) := by decide +kernel
theorem d_Walker_dashAfter_15 : decode b_Walker_dashAfter 15 = .ok (.iadd, 1) := by decide +kernel
theorem d_Walker_dashAfter_16 : decode b_Walker_dashAfter 16 = .ok (.goto 4, 3) := by decide +kernel
theorem d_Walker_dashAfter_19 : decode b_Walker_dashAfter 19 = .ok (.iconst 0, 1) := by decide +kernel
theorem d_Walker_dashAfter_20 : decode b_Walker_dashAfter 20 = .ok (.ireturn, 1) := by decide +kernel
theorem d_Walker_walkSubpath_0 : decode b_Walker_walkSubpath 0 = .ok (.aload_n 0, 1) := by decide +kernel
theorem d_Walker_walkSubpath_1 : decode b_Walker_walkSubpath 1 = .ok (.getfield 9, 3) := by decide +kernel
theorem d_Walker_walkSubpath_4 : decode b_Walker_walkSubpath 4 = .ok (.getfield 82, 3) := by decide +kernel
theorem d_Walker_walkSubpath_7 : decode b_Walker_walkSubpath 7 = .ok (.iload_n 1, 1) := by decide +kernel
theorem d_Walker_walkSubpath_8 : decode b_Walker_walkSubpath 8 = .ok (.iaload, 1) := by decide +kernel
theorem d_Walker_walkSubpath_9 : decode b_Walker_walkSubpath 9 = .ok (.istore_n 2, 1) := by decide +kernel
theorem d_Walker_walkSubpath_10 : decode b_Walker_walkSubpath 10 = .ok (.aload_n 0, 1) := by decide +kernel
theorem d_Walker_walkSubpath_11 : decode b_Walker_walkSubpath 11 = .ok (.getfield 9, 3) := by decide +kernel
theorem d_Walker_walkSubpath_14 : decode b_Walker_walkSubpath 14 = .ok (.iload_n 1, 1) := by decide +kernel
theorem d_Walker_walkSubpath_15 : decode b_Walker_walkSubpath 15 = .ok (.invokevirtual 85, 3) := by decide +kernel
theorem d_Walker_walkSubpath_18 : decode b_Walker_walkSubpath 18 = .ok (.istore_n 3, 1) := by decide +kernel
theorem d_Walker_walkSubpath_19 : decode b_Walker_walkSubpath 19 = .ok (.aload_n 0, 1) := by decide +kernel
theorem d_Walker_walkSubpath_20 : decode b_Walker_walkSubpath 20 = .ok (.getfield 9, 3) := by decide +kernel
theorem d_Walker_walkSubpath_23 : decode b_Walker_walkSubpath 23 = .ok (.getfield 88, 3) := by decide +kernel
theorem d_Walker_walkSubpath_26 : decode b_Walker_walkSubpath 26 = .ok (.iload_n 1, 1) := by decide +kernel
theorem d_Walker_walkSubpath_27 : decode b_Walker_walkSubpath 27 = .ok (.baload, 1) := by decide +kernel
theorem d_Walker_walkSubpath_28 : decode b_Walker_walkSubpath 28 = .ok (.istore 4, 2) := by decide +kernel
theorem d_Walker_walkSubpath_30 : decode b_Walker_walkSubpath 30 = .ok (.aload_n 0, 1) := by decide +kernel
theorem d_Walker_walkSubpath_31 : decode b_Walker_walkSubpath 31 = .ok (.getfield 19, 3) := by decide +kernel
theorem d_Walker_walkSubpath_34 : decode b_Walker_walkSubpath 34 = .ok (.getfield 92, 3) := by decide +kernel
theorem d_Walker_walkSubpath_37 : decode b_Walker_walkSubpath 37 = .ok (.istore 5, 2) := by decide +kernel
theorem d_Walker_walkSubpath_39 : decode b_Walker_walkSubpath 39 = .ok (.iload 4, 2) := by decide +kernel
theorem d_Walker_walkSubpath_41 : decode b_Walker_walkSubpath 41 = .ok (.ifCond .eq 7, 3) := by decide +kernel
theorem d_Walker_walkSubpath_44 : decode b_Walker_walkSubpath 44 = .ok (.iload_n 3, 1) := by decide +kernel
theorem d_Walker_walkSubpath_45 : decode b_Walker_walkSubpath 45 = .ok (.goto 6, 3) := by decide +kernel
theorem d_Walker_walkSubpath_48 : decode b_Walker_walkSubpath 48 = .ok (.iload_n 3, 1) := by decide +kernel
theorem d_Walker_walkSubpath_49 : decode b_Walker_walkSubpath 49 = .ok (.iconst 1, 1) := by decide +kernel
theorem d_Walker_walkSubpath_50 : decode b_Walker_walkSubpath 50 = .ok (.isub, 1) := by decide +kernel
theorem d_Walker_walkSubpath_51 : decode b_Walker_walkSubpath 51 = .ok (.istore 6, 2) := by decide +kernel
theorem d_Walker_walkSubpath_53 : decode b_Walker_walkSubpath 53 = .ok (.aload_n 0, 1) := by decide +kernel
theorem d_Walker_walkSubpath_54 : decode b_Walker_walkSubpath 54 = .ok (.getfield 15, 3) := by decide +kernel
theorem d_Walker_walkSubpath_57 : decode b_Walker_walkSubpath 57 = .ok (.invokevirtual 95, 3) := by decide +kernel
theorem d_Walker_walkSubpath_60 : decode b_Walker_walkSubpath 60 = .ok (.istore 7, 2) := by decide +kernel
theorem d_Walker_walkSubpath_62 : decode b_Walker_walkSubpath 62 = .ok (.iconst 0, 1) := by decide +kernel
theorem d_Walker_walkSubpath_63 : decode b_Walker_walkSubpath 63 = .ok (.istore 8, 2) := by decide +kernel
theorem d_Walker_walkSubpath_65 : decode b_Walker_walkSubpath 65 = .ok (.aload_n 0, 1) := by decide +kernel
theorem d_Walker_walkSubpath_66 : decode b_Walker_walkSubpath 66 = .ok (.aload_n 0, 1) := by decide +kernel
theorem d_Walker_walkSubpath_67 : decode b_Walker_walkSubpath 67 = .ok (.getfield 48, 3) := by decide +kernel
theorem d_Walker_walkSubpath_70 : decode b_Walker_walkSubpath 70 = .ok (.putfield 99, 3) := by decide +kernel
theorem d_Walker_walkSubpath_73 : decode b_Walker_walkSubpath 73 = .ok (.aload_n 0, 1) := by decide +kernel
theorem d_Walker_walkSubpath_74 : decode b_Walker_walkSubpath 74 = .ok (.aload_n 0, 1) := by decide +kernel
theorem d_Walker_walkSubpath_75 : decode b_Walker_walkSubpath 75 = .ok (.getfield 51, 3) := by decide +kernel
theorem d_Walker_walkSubpath_78 : decode b_Walker_walkSubpath 78 = .ok (.putfield 102, 3) := by decide +kernel
theorem d_Walker_walkSubpath_81 : decode b_Walker_walkSubpath 81 = .ok (.aload_n 0, 1) := by decide +kernel
theorem d_Walker_walkSubpath_82 : decode b_Walker_walkSubpath 82 = .ok (.aload_n 0, 1) := by decide +kernel
theorem d_Walker_walkSubpath_83 : decode b_Walker_walkSubpath 83 = .ok (.getfield 76, 3) := by decide +kernel
theorem d_Walker_walkSubpath_86 : decode b_Walker_walkSubpath 86 = .ok (.putfield 105, 3) := by decide +kernel
theorem d_Walker_walkSubpath_89 : decode b_Walker_walkSubpath 89 = .ok (.iload_n 2, 1) := by decide +kernel
theorem d_Walker_walkSubpath_90 : decode b_Walker_walkSubpath 90 = .ok (.iconst 1, 1) := by decide +kernel
theorem d_Walker_walkSubpath_91 : decode b_Walker_walkSubpath 91 = .ok (.iadd, 1) := by decide +kernel
theorem d_Walker_walkSubpath_92 : decode b_Walker_walkSubpath 92 = .ok (.istore 9, 2) := by decide +kernel
theorem d_Walker_walkSubpath_94 : decode b_Walker_walkSubpath 94 = .ok (.iload 9, 2) := by decide +kernel
theorem d_Walker_walkSubpath_96 : decode b_Walker_walkSubpath 96 = .ok (.iload 6, 2) := by decide +kernel
theorem d_Walker_walkSubpath_98 : decode b_Walker_walkSubpath 98 = .ok (.if_icmp .gt 66, 3) := by decide +kernel
theorem d_Walker_walkSubpath_101 : decode b_Walker_walkSubpath 101 = .ok (.aload_n 0, 1) := by decide +kernel
theorem d_Walker_walkSubpath_102 : decode b_Walker_walkSubpath 102 = .ok (.getfield 19, 3) := by decide +kernel
theorem d_Walker_walkSubpath_105 : decode b_Walker_walkSubpath 105 = .ok (.getfield 41, 3) := by decide +kernel
theorem d_Walker_walkSubpath_108 : decode b_Walker_walkSubpath 108 = .ok (.ifCond .ne 56, 3) := by decide +kernel
theorem d_Walker_walkSubpath_111 : decode b_Walker_walkSubpath 111 = .ok (.aload_n 0, 1) := by decide +kernel
theorem d_Walker_walkSubpath_112 : decode b_Walker_walkSubpath 112 = .ok (.iload 9, 2) := by decide +kernel
theorem d_Walker_walkSubpath_114 : decode b_Walker_walkSubpath 114 = .ok (.iconst 1, 1) := by decide +kernel
theorem d_Walker_walkSubpath_115 : decode b_Walker_walkSubpath 115 = .ok (.isub, 1) := by decide +kernel
theorem d_Walker_walkSubpath_116 : decode b_Walker_walkSubpath 116 = .ok (.iload 9, 2) := by decide +kernel
theorem d_Walker_walkSubpath_118 : decode b_Walker_walkSubpath 118 = .ok (.iload_n 3, 1) := by decide +kernel
theorem d_Walker_walkSubpath_119 : decode b_Walker_walkSubpath 119 = .ok (.if_icmp .ge 8, 3) := by decide +kernel
theorem d_Walker_walkSubpath_122 : decode b_Walker_walkSubpath 122 = .ok (.iload 9, 2) := by decide +kernel
theorem d_Walker_walkSubpath_124 : decode b_Walker_walkSubpath 124 = .ok (.goto 4, 3) := by decide +kernel
theorem d_Walker_walkSubpath_127 : decode b_Walker_walkSubpath 127 = .ok (.iload_n 2, 1) := by decide +kernel
theorem d_Walker_walkSubpath_128 : decode b_Walker_walkSubpath 128 = .ok (.invokevirtual 108, 3) := by decide +kernel
theorem d_Walker_walkSubpath_131 : decode b_Walker_walkSubpath 131 = .ok (.ifCond .eq 27, 3) := by decide +kernel
theorem d_Walker_walkSubpath_134 : decode b_Walker_walkSubpath 134 = .ok (.iconst 1, 1) := by decide +kernel
theorem d_Walker_walkSubpath_135 : decode b_Walker_walkSubpath 135 = .ok (.istore 8, 2) := by decide +kernel
theorem d_Walker_walkSubpath_137 : decode b_Walker_walkSubpath 137 = .ok (.iload 7, 2) := by decide +kernel
theorem d_Walker_walkSubpath_139 : decode b_Walker_walkSubpath 139 = .ok (.ifCond .eq 10, 3) := by decide +kernel
theorem d_Walker_walkSubpath_142 : decode b_Walker_walkSubpath 142 = .ok (.aload_n 0, 1) := by decide +kernel
theorem d_Walker_walkSubpath_143 : decode b_Walker_walkSubpath 143 = .ok (.invokevirtual 112, 3) := by decide +kernel
theorem d_Walker_walkSubpath_146 : decode b_Walker_walkSubpath 146 = .ok (.goto 12, 3) := by decide +kernel
theorem d_Walker_walkSubpath_149 : decode b_Walker_walkSubpath 149 = .ok (.aload_n 0, 1) := by decide +kernel
theorem d_Walker_walkSubpath_150 : decode b_Walker_walkSubpath 150 = .ok (.iconst 0, 1) := by decide +kernel
theorem d_Walker_walkSubpath_151 : decode b_Walker_walkSubpath 151 = .ok (.aload_n 0, 1) := by decide +kernel
theorem d_Walker_walkSubpath_152 : decode b_Walker_walkSubpath 152 = .ok (.getfield 115, 3) := by decide +kernel
theorem d_Walker_walkSubpath_155 : decode b_Walker_walkSubpath 155 = .ok (.invokevirtual 118, 3) := by decide +kernel
theorem d_Walker_walkSubpath_158 : decode b_Walker_walkSubpath 158 = .ok (.iinc 9 1, 3) := by decide +kernel
theorem d_Walker_walkSubpath_161 : decode b_Walker_walkSubpath 161 = .ok (.goto (-67), 3) := by decide +kernel
theorem d_Walker_walkSubpath_164 : decode b_Walker_walkSubpath 164 = .ok (.iload 8, 2) := by decide +kernel
theorem d_Walker_walkSubpath_166 : decode b_Walker_walkSubpath 166 = .ok (.ifCond .ne 46, 3) := by decide +kernel
theorem d_Walker_walkSubpath_169 : decode b_Walker_walkSubpath 169 = .ok (.iload 4, 2) := by decide +kernel
theorem d_Walker_walkSubpath_171 : decode b_Walker_walkSubpath 171 = .ok (.ifCond .ne 10, 3) := by decide +kernel
theorem d_Walker_walkSubpath_174 : decode b_Walker_walkSubpath 174 = .ok (.iload_n 3, 1) := by decide +kernel
theorem d_Walker_walkSubpath_175 : decode b_Walker_walkSubpath 175 = .ok (.iload_n 2, 1) := by decide +kernel
theorem d_Walker_walkSubpath_176 : decode b_Walker_walkSubpath 176 = .ok (.isub, 1) := by decide +kernel
theorem d_Walker_walkSubpath_177 : decode b_Walker_walkSubpath 177 = .ok (.iconst 1, 1) := by decide +kernel
theorem d_Walker_walkSubpath_178 : decode b_Walker_walkSubpath 178 = .ok (.if_icmp .le 34, 3) := by decide +kernel
theorem d_Walker_walkSubpath_181 : decode b_Walker_walkSubpath 181 = .ok (.aload_n 0, 1) := by decide +kernel
theorem d_Walker_walkSubpath_182 : decode b_Walker_walkSubpath 182 = .ok (.getfield 19, 3) := by decide +kernel
theorem d_Walker_walkSubpath_185 : decode b_Walker_walkSubpath 185 = .ok (.bipush 16, 2) := by decide +kernel
theorem d_Walker_walkSubpath_187 : decode b_Walker_walkSubpath 187 = .ok (.aload_n 0, 1) := by decide +kernel
theorem d_Walker_walkSubpath_188 : decode b_Walker_walkSubpath 188 = .ok (.getfield 9, 3) := by decide +kernel
theorem d_Walker_walkSubpath_191 : decode b_Walker_walkSubpath 191 = .ok (.getfield 122, 3) := by decide +kernel
theorem d_Walker_walkSubpath_194 : decode b_Walker_walkSubpath 194 = .ok (.iload_n 2, 1) := by decide +kernel
theorem d_Walker_walkSubpath_195 : decode b_Walker_walkSubpath 195 = .ok (.iaload, 1) := by decide +kernel
theorem d_Walker_walkSubpath_196 : decode b_Walker_walkSubpath 196 = .ok (.imul, 1) := by decide +kernel
theorem d_Walker_walkSubpath_197 : decode b_Walker_walkSubpath 197 = .ok (.bipush 16, 2) := by decide +kernel
theorem d_Walker_walkSubpath_199 : decode b_Walker_walkSubpath 199 = .ok (.aload_n 0, 1) := by decide +kernel
theorem d_Walker_walkSubpath_200 : decode b_Walker_walkSubpath 200 = .ok (.getfield 9, 3) := by decide +kernel
theorem d_Walker_walkSubpath_203 : decode b_Walker_walkSubpath 203 = .ok (.getfield 125, 3) := by decide +kernel
theorem d_Walker_walkSubpath_206 : decode b_Walker_walkSubpath 206 = .ok (.iload_n 2, 1) := by decide +kernel
theorem d_Walker_walkSubpath_207 : decode b_Walker_walkSubpath 207 = .ok (.iaload, 1) := by decide +kernel
theorem d_Walker_walkSubpath_208 : decode b_Walker_walkSubpath 208 = .ok (.imul, 1) := by decide +kernel
theorem d_Walker_walkSubpath_209 : decode b_Walker_walkSubpath 209 = .ok (.invokevirtual 128, 3) := by decide +kernel
theorem d_Walker_walkSubpath_212 : decode b_Walker_walkSubpath 212 = .ok (.iload 4, 2) := by decide +kernel
theorem d_Walker_walkSubpath_214 : decode b_Walker_walkSubpath 214 = .ok (.ifCond .eq 17, 3) := by decide +kernel
theorem d_Walker_walkSubpath_217 : decode b_Walker_walkSubpath 217 = .ok (.iload 7, 2) := by decide +kernel
theorem d_Walker_walkSubpath_219 : decode b_Walker_walkSubpath 219 = .ok (.ifCond .ne 12, 3) := by decide +kernel
theorem d_Walker_walkSubpath_222 : decode b_Walker_walkSubpath 222 = .ok (.aload_n 0, 1) := by decide +kernel
theorem d_Walker_walkSubpath_223 : decode b_Walker_walkSubpath 223 = .ok (.getfield 19, 3) := by decide +kernel
theorem d_Walker_walkSubpath_226 : decode b_Walker_walkSubpath 226 = .ok (.iload 5, 2) := by decide +kernel
theorem d_Walker_walkSubpath_228 : decode b_Walker_walkSubpath 228 = .ok (.invokevirtual 131, 3) := by decide +kernel
theorem d_Walker_walkSubpath_231 : decode b_Walker_walkSubpath 231 = .ok (.aload_n 0, 1) := by decide +kernel
theorem d_Walker_walkSubpath_232 : decode b_Walker_walkSubpath 232 = .ok (.getfield 19, 3) := by decide +kernel
theorem d_Walker_walkSubpath_235 : decode b_Walker_walkSubpath 235 = .ok (.iconst 1, 1) := by decide +kernel
theorem d_Walker_walkSubpath_236 : decode b_Walker_walkSubpath 236 = .ok (.invokevirtual 134, 3) := by decide +kernel
theorem d_Walker_walkSubpath_239 : decode b_Walker_walkSubpath 239 = .ok (.return_, 1) := by decide +kernel
theorem d_Walker_takeSegment_0 : decode b_Walker_takeSegment 0 = .ok (.aload_n 0, 1) := by decide +kernel
theorem d_Walker_takeSegment_1 : decode b_Walker_takeSegment 1 = .ok (.aload_n 0, 1) := by decide +kernel
theorem d_Walker_takeSegment_2 : decode b_Walker_takeSegment 2 = .ok (.getfield 9, 3) := by decide +kernel
theorem d_Walker_takeSegment_5 : decode b_Walker_takeSegment 5 = .ok (.getfield 122, 3) := by decide +kernel
theorem d_Walker_takeSegment_8 : decode b_Walker_takeSegment 8 = .ok (.iload_n 1, 1) := by decide +kernel
theorem d_Walker_takeSegment_9 : decode b_Walker_takeSegment 9 = .ok (.iaload, 1) := by decide +kernel
theorem d_Walker_takeSegment_10 : decode b_Walker_takeSegment 10 = .ok (.putfield 137, 3) := by decide +kernel
theorem d_Walker_takeSegment_13 : decode b_Walker_takeSegment 13 = .ok (.aload_n 0, 1) := by decide +kernel
theorem d_Walker_takeSegment_14 : decode b_Walker_takeSegment 14 = .ok (.aload_n 0, 1) := by decide +kernel
theorem d_Walker_takeSegment_15 : decode b_Walker_takeSegment 15 = .ok (.getfield 9, 3) := by decide +kernel
theorem d_Walker_takeSegment_18 : decode b_Walker_takeSegment 18 = .ok (.getfield 125, 3) := by decide +kernel
theorem d_Walker_takeSegment_21 : decode b_Walker_takeSegment 21 = .ok (.iload_n 1, 1) := by decide +kernel
theorem d_Walker_takeSegment_22 : decode b_Walker_takeSegment 22 = .ok (.iaload, 1) := by decide +kernel
theorem d_Walker_takeSegment_23 : decode b_Walker_takeSegment 23 = .ok (.putfield 140, 3) := by decide +kernel
theorem d_Walker_takeSegment_26 : decode b_Walker_takeSegment 26 = .ok (.aload_n 0, 1) := by decide +kernel
theorem d_Walker_takeSegment_27 : decode b_Walker_takeSegment 27 = .ok (.aload_n 0, 1) := by decide +kernel
theorem d_Walker_takeSegment_28 : decode b_Walker_takeSegment 28 = .ok (.getfield 9, 3) := by decide +kernel
theorem d_Walker_takeSegment_31 : decode b_Walker_takeSegment 31 = .ok (.getfield 122, 3) := by decide +kernel
theorem d_Walker_takeSegment_34 : decode b_Walker_takeSegment 34 = .ok (.iload_n 2, 1) := by decide +kernel
theorem d_Walker_takeSegment_35 : decode b_Walker_takeSegment 35 = .ok (.iaload, 1) := by decide +kernel
theorem d_Walker_takeSegment_36 : decode b_Walker_takeSegment 36 = .ok (.aload_n 0, 1) := by decide +kernel
theorem d_Walker_takeSegment_37 : decode b_Walker_takeSegment 37 = .ok (.getfield 137, 3) := by decide +kernel
theorem d_Walker_takeSegment_40 : decode b_Walker_takeSegment 40 = .ok (.isub, 1) := by decide +kernel
theorem d_Walker_takeSegment_41 : decode b_Walker_takeSegment 41 = .ok (.putfield 143, 3) := by decide +kernel
theorem d_Walker_takeSegment_44 : decode b_Walker_takeSegment 44 = .ok (.aload_n 0, 1) := by decide +kernel
theorem d_Walker_takeSegment_45 : decode b_Walker_takeSegment 45 = .ok (.aload_n 0, 1) := by decide +kernel
theorem d_Walker_takeSegment_46 : decode b_Walker_takeSegment 46 = .ok (.getfield 9, 3) := by decide +kernel
theorem d_Walker_takeSegment_49 : decode b_Walker_takeSegment 49 = .ok (.getfield 125, 3) := by decide +kernel
theorem d_Walker_takeSegment_52 : decode b_Walker_takeSegment 52 = .ok (.iload_n 2, 1) := by decide +kernel
theorem d_Walker_takeSegment_53 : decode b_Walker_takeSegment 53 = .ok (.iaload, 1) := by decide +kernel
theorem d_Walker_takeSegment_54 : decode b_Walker_takeSegment 54 = .ok (.aload_n 0, 1) := by decide +kernel
theorem d_Walker_takeSegment_55 : decode b_Walker_takeSegment 55 = .ok (.getfield 140, 3) := by decide +kernel
theorem d_Walker_takeSegment_58 : decode b_Walker_takeSegment 58 = .ok (.isub, 1) := by decide +kernel
theorem d_Walker_takeSegment_59 : decode b_Walker_takeSegment 59 = .ok (.putfield 146, 3) := by decide +kernel
theorem d_Walker_takeSegment_62 : decode b_Walker_takeSegment 62 = .ok (.aload_n 0, 1) := by decide +kernel
theorem d_Walker_takeSegment_63 : decode b_Walker_takeSegment 63 = .ok (.getfield 143, 3) := by decide +kernel
theorem d_Walker_takeSegment_66 : decode b_Walker_takeSegment 66 = .ok (.ifCond .ne 12, 3) := by decide +kernel
theorem d_Walker_takeSegment_69 : decode b_Walker_takeSegment 69 = .ok (.aload_n 0, 1) := by decide +kernel
theorem d_Walker_takeSegment_70 : decode b_Walker_takeSegment 70 = .ok (.getfield 146, 3) := by decide +kernel
theorem d_Walker_takeSegment_73 : decode b_Walker_takeSegment 73 = .ok (.ifCond .ne 5, 3) := by decide +kernel
theorem d_Walker_takeSegment_76 : decode b_Walker_takeSegment 76 = .ok (.iconst 0, 1) := by decide +kernel
theorem d_Walker_takeSegment_77 : decode b_Walker_takeSegment 77 = .ok (.ireturn, 1) := by decide +kernel
theorem d_Walker_takeSegment_78 : decode b_Walker_takeSegment 78 = .ok (.aload_n 0, 1) := by decide +kernel
theorem d_Walker_takeSegment_79 : decode b_Walker_takeSegment 79 = .ok (.getfield 143, 3) := by decide +kernel
theorem d_Walker_takeSegment_82 : decode b_Walker_takeSegment 82 = .ok (.i2l, 1) := by decide +kernel
theorem d_Walker_takeSegment_83 : decode b_Walker_takeSegment 83 = .ok (.aload_n 0, 1) := by decide +kernel
theorem d_Walker_takeSegment_84 : decode b_Walker_takeSegment 84 = .ok (.getfield 143, 3) := by decide +kernel
theorem d_Walker_takeSegment_87 : decode b_Walker_takeSegment 87 = .ok (.i2l, 1) := by decide +kernel
theorem d_Walker_takeSegment_88 : decode b_Walker_takeSegment 88 = .ok (.lmul, 1) := by decide +kernel
theorem d_Walker_takeSegment_89 : decode b_Walker_takeSegment 89 = .ok (.aload_n 0, 1) := by decide +kernel
theorem d_Walker_takeSegment_90 : decode b_Walker_takeSegment 90 = .ok (.getfield 146, 3) := by decide +kernel
theorem d_Walker_takeSegment_93 : decode b_Walker_takeSegment 93 = .ok (.i2l, 1) := by decide +kernel
theorem d_Walker_takeSegment_94 : decode b_Walker_takeSegment 94 = .ok (.aload_n 0, 1) := by decide +kernel
theorem d_Walker_takeSegment_95 : decode b_Walker_takeSegment 95 = .ok (.getfield 146, 3) := by decide +kernel
theorem d_Walker_takeSegment_98 : decode b_Walker_takeSegment 98 = .ok (.i2l, 1) := by decide +kernel
theorem d_Walker_takeSegment_99 : decode b_Walker_takeSegment 99 = .ok (.lmul, 1) := by decide +kernel
theorem d_Walker_takeSegment_100 : decode b_Walker_takeSegment 100 = .ok (.ladd, 1) := by decide +kernel
theorem d_Walker_takeSegment_101 : decode b_Walker_takeSegment 101 = .ok (.lstore_n 3, 1) := by decide +kernel
theorem d_Walker_takeSegment_102 : decode b_Walker_takeSegment 102 = .ok (.aload_n 0, 1) := by decide +kernel
theorem d_Walker_takeSegment_103 : decode b_Walker_takeSegment 103 = .ok (.aload_n 0, 1) := by decide +kernel
theorem d_Walker_takeSegment_104 : decode b_Walker_takeSegment 104 = .ok (.aload_n 0, 1) := by decide +kernel
theorem d_Walker_takeSegment_105 : decode b_Walker_takeSegment 105 = .ok (.getfield 146, 3) := by decide +kernel
theorem d_Walker_takeSegment_108 : decode b_Walker_takeSegment 108 = .ok (.lload_n 3, 1) := by decide +kernel
theorem d_Walker_takeSegment_109 : decode b_Walker_takeSegment 109 = .ok (.invokevirtual 149, 3) := by decide +kernel
theorem d_Walker_takeSegment_112 : decode b_Walker_takeSegment 112 = .ok (.putfield 153, 3) := by decide +kernel
theorem d_Walker_takeSegment_115 : decode b_Walker_takeSegment 115 = .ok (.aload_n 0, 1) := by decide +kernel
theorem d_Walker_takeSegment_116 : decode b_Walker_takeSegment 116 = .ok (.aload_n 0, 1) := by decide +kernel
theorem d_Walker_takeSegment_117 : decode b_Walker_takeSegment 117 = .ok (.aload_n 0, 1) := by decide +kernel
theorem d_Walker_takeSegment_118 : decode b_Walker_takeSegment 118 = .ok (.getfield 143, 3) := by decide +kernel
theorem d_Walker_takeSegment_121 : decode b_Walker_takeSegment 121 = .ok (.lload_n 3, 1) := by decide +kernel
theorem d_Walker_takeSegment_122 : decode b_Walker_takeSegment 122 = .ok (.invokevirtual 149, 3) := by decide +kernel
theorem d_Walker_takeSegment_125 : decode b_Walker_takeSegment 125 = .ok (.ineg, 1) := by decide +kernel
theorem d_Walker_takeSegment_126 : decode b_Walker_takeSegment 126 = .ok (.putfield 156, 3) := by decide +kernel
theorem d_Walker_takeSegment_129 : decode b_Walker_takeSegment 129 = .ok (.aload_n 0, 1) := by decide +kernel
theorem d_Walker_takeSegment_130 : decode b_Walker_takeSegment 130 = .ok (.ldc2_w 159, 3) := by decide +kernel
theorem d_Walker_takeSegment_133 : decode b_Walker_takeSegment 133 = .ok (.lload_n 3, 1) := by decide +kernel
theorem d_Walker_takeSegment_134 : decode b_Walker_takeSegment 134 = .ok (.lmul, 1) := by decide +kernel
theorem d_Walker_takeSegment_135 : decode b_Walker_takeSegment 135 = .ok (.invokestatic 161, 3) := by decide +kernel
theorem d_Walker_takeSegment_138 : decode b_Walker_takeSegment 138 = .ok (.l2i, 1) := by decide +kernel
theorem d_Walker_takeSegment_139 : decode b_Walker_takeSegment 139 = .ok (.putfield 115, 3) := by decide +kernel
theorem d_Walker_takeSegment_142 : decode b_Walker_takeSegment 142 = .ok (.iconst 1, 1) := by decide +kernel
theorem d_Walker_takeSegment_143 : decode b_Walker_takeSegment 143 = .ok (.ireturn, 1) := by decide +kernel
theorem d_Walker_offsetPart_0 : decode b_Walker_offsetPart 0 = .ok (.lload_n 2, 1) := by decide +kernel
theorem d_Walker_offsetPart_1 : decode b_Walker_offsetPart 1 = .ok (.lconst 0, 1) := by decide +kernel
theorem d_Walker_offsetPart_2 : decode b_Walker_offsetPart 2 = .ok (.lcmp, 1) := by decide +kernel
theorem d_Walker_offsetPart_3 : decode b_Walker_offsetPart 3 = .ok (.ifCond .gt 5, 3) := by decide +kernel
theorem d_Walker_offsetPart_6 : decode b_Walker_offsetPart 6 = .ok (.iconst 0, 1) := by decide +kernel
theorem d_Walker_offsetPart_7 : decode b_Walker_offsetPart 7 = .ok (.ireturn, 1) := by decide +kernel
theorem d_Walker_offsetPart_8 : decode b_Walker_offsetPart 8 = .ok (.ldc2_w 165, 3) := by decide +kernel
theorem d_Walker_offsetPart_11 : decode b_Walker_offsetPart 11 = .ok (.aload_n 0, 1) := by decide +kernel
theorem d_Walker_offsetPart_12 : decode b_Walker_offsetPart 12 = .ok (.getfield 15, 3) := by decide +kernel
theorem d_Walker_offsetPart_15 : decode b_Walker_offsetPart 15 = .ok (.getfield 167, 3) := by decide +kernel
theorem d_Walker_offsetPart_18 : decode b_Walker_offsetPart 18 = .ok (.i2l, 1) := by decide +kernel
theorem d_Walker_offsetPart_19 : decode b_Walker_offsetPart 19 = .ok (.lmul, 1) := by decide +kernel
theorem d_Walker_offsetPart_20 : decode b_Walker_offsetPart 20 = .ok (.iload_n 1, 1) := by decide +kernel
theorem d_Walker_offsetPart_21 : decode b_Walker_offsetPart 21 = .ok (.i2l, 1) := by decide +kernel
theorem d_Walker_offsetPart_22 : decode b_Walker_offsetPart 22 = .ok (.lmul, 1) := by decide +kernel
theorem d_Walker_offsetPart_23 : decode b_Walker_offsetPart 23 = .ok (.lstore 4, 2) := by decide +kernel
theorem d_Walker_offsetPart_25 : decode b_Walker_offsetPart 25 = .ok (.lload 4, 2) := by decide +kernel
theorem d_Walker_offsetPart_27 : decode b_Walker_offsetPart 27 = .ok (.lload 4, 2) := by decide +kernel
theorem d_Walker_offsetPart_29 : decode b_Walker_offsetPart 29 = .ok (.lmul, 1) := by decide +kernel
theorem d_Walker_offsetPart_30 : decode b_Walker_offsetPart 30 = .ok (.lload_n 2, 1) := by decide +kernel
theorem d_Walker_offsetPart_31 : decode b_Walker_offsetPart 31 = .ok (.ldiv, 1) := by decide +kernel
theorem d_Walker_offsetPart_32 : decode b_Walker_offsetPart 32 = .ok (.invokestatic 161, 3) := by decide +kernel
theorem d_Walker_offsetPart_35 : decode b_Walker_offsetPart 35 = .ok (.lconst 1, 1) := by decide +kernel
theorem d_Walker_offsetPart_36 : decode b_Walker_offsetPart 36 = .ok (.ladd, 1) := by decide +kernel
theorem d_Walker_offsetPart_37 : decode b_Walker_offsetPart 37 = .ok (.ldc2_w 165, 3) := by decide +kernel
theorem d_Walker_offsetPart_40 : decode b_Walker_offsetPart 40 = .ok (.ldiv, 1) := by decide +kernel
theorem d_Walker_offsetPart_41 : decode b_Walker_offsetPart 41 = .ok (.l2i, 1) := by decide +kernel
theorem d_Walker_offsetPart_42 : decode b_Walker_offsetPart 42 = .ok (.istore 6, 2) := by decide +kernel
theorem d_Walker_offsetPart_44 : decode b_Walker_offsetPart 44 = .ok (.iload_n 1, 1) := by decide +kernel
theorem d_Walker_offsetPart_45 : decode b_Walker_offsetPart 45 = .ok (.ifCond .ge 9, 3) := by decide +kernel
theorem d_Walker_offsetPart_48 : decode b_Walker_offsetPart 48 = .ok (.iload 6, 2) := by decide +kernel
theorem d_Walker_offsetPart_50 : decode b_Walker_offsetPart 50 = .ok (.ineg, 1) := by decide +kernel
theorem d_Walker_offsetPart_51 : decode b_Walker_offsetPart 51 = .ok (.goto 5, 3) := by decide +kernel
theorem d_Walker_offsetPart_54 : decode b_Walker_offsetPart 54 = .ok (.iload 6, 2) := by decide +kernel
theorem d_Walker_offsetPart_56 : decode b_Walker_offsetPart 56 = .ok (.ireturn, 1) := by decide +kernel
theorem d_Walker_cutSegment_0 : decode b_Walker_cutSegment 0 = .ok (.iconst 0, 1) := by decide +kernel
theorem d_Walker_cutSegment_1 : decode b_Walker_cutSegment 1 = .ok (.istore_n 1, 1) := by decide +kernel
theorem d_Walker_cutSegment_2 : decode b_Walker_cutSegment 2 = .ok (.iconst 0, 1) := by decide +kernel
theorem d_Walker_cutSegment_3 : decode b_Walker_cutSegment 3 = .ok (.istore_n 2, 1) := by decide +kernel
theorem d_Walker_cutSegment_4 : decode b_Walker_cutSegment 4 = .ok (.iload_n 2, 1) := by decide +kernel
theorem d_Walker_cutSegment_5 : decode b_Walker_cutSegment 5 = .ok (.ldc 170, 2) := by decide +kernel
theorem d_Walker_cutSegment_7 : decode b_Walker_cutSegment 7 = .ok (.if_icmp .ge 138, 3) := by decide +kernel
theorem d_Walker_cutSegment_10 : decode b_Walker_cutSegment 10 = .ok (.iload_n 1, 1) := by decide +kernel
theorem d_Walker_cutSegment_11 : decode b_Walker_cutSegment 11 = .ok (.aload_n 0, 1) := by decide +kernel
theorem d_Walker_cutSegment_12 : decode b_Walker_cutSegment 12 = .ok (.getfield 115, 3) := by decide +kernel
theorem d_Walker_cutSegment_15 : decode b_Walker_cutSegment 15 = .ok (.if_icmp .lt 10, 3) := by decide +kernel
theorem d_Walker_cutSegment_18 : decode b_Walker_cutSegment 18 = .ok (.aload_n 0, 1) := by decide +kernel
theorem d_Walker_cutSegment_19 : decode b_Walker_cutSegment 19 = .ok (.getfield 105, 3) := by decide +kernel
theorem d_Walker_cutSegment_22 : decode b_Walker_cutSegment 22 = .ok (.ifCond .gt 123, 3) := by decide +kernel
theorem d_Walker_cutSegment_25 : decode b_Walker_cutSegment 25 = .ok (.aload_n 0, 1) := by decide +kernel
theorem d_Walker_cutSegment_26 : decode b_Walker_cutSegment 26 = .ok (.getfield 19, 3) := by decide +kernel
theorem d_Walker_cutSegment_29 : decode b_Walker_cutSegment 29 = .ok (.getfield 41, 3) := by decide +kernel
theorem d_Walker_cutSegment_32 : decode b_Walker_cutSegment 32 = .ok (.ifCond .ne 113, 3) := by decide +kernel
theorem d_Walker_cutSegment_35 : decode b_Walker_cutSegment 35 = .ok (.aload_n 0, 1) := by decide +kernel
theorem d_Walker_cutSegment_36 : decode b_Walker_cutSegment 36 = .ok (.getfield 115, 3) := by decide +kernel
theorem d_Walker_cutSegment_39 : decode b_Walker_cutSegment 39 = .ok (.iload_n 1, 1) := by decide +kernel
theorem d_Walker_cutSegment_40 : decode b_Walker_cutSegment 40 = .ok (.aload_n 0, 1) := by decide +kernel
theorem d_Walker_cutSegment_41 : decode b_Walker_cutSegment 41 = .ok (.getfield 105, 3) := by decide +kernel
theorem d_Walker_cutSegment_44 : decode b_Walker_cutSegment 44 = .ok (.iadd, 1) := by decide +kernel
theorem d_Walker_cutSegment_45 : decode b_Walker_cutSegment 45 = .ok (.invokestatic 171, 3) := by decide +kernel
theorem d_Walker_cutSegment_48 : decode b_Walker_cutSegment 48 = .ok (.istore_n 3, 1) := by decide +kernel
theorem d_Walker_cutSegment_49 : decode b_Walker_cutSegment 49 = .ok (.aload_n 0, 1) := by decide +kernel
theorem d_Walker_cutSegment_50 : decode b_Walker_cutSegment 50 = .ok (.getfield 102, 3) := by decide +kernel
theorem d_Walker_cutSegment_53 : decode b_Walker_cutSegment 53 = .ok (.ifCond .eq 9, 3) := by decide +kernel
theorem d_Walker_cutSegment_56 : decode b_Walker_cutSegment 56 = .ok (.aload_n 0, 1) := by decide +kernel
theorem d_Walker_cutSegment_57 : decode b_Walker_cutSegment 57 = .ok (.iload_n 1, 1) := by decide +kernel
theorem d_Walker_cutSegment_58 : decode b_Walker_cutSegment 58 = .ok (.iload_n 3, 1) := by decide +kernel
theorem d_Walker_cutSegment_59 : decode b_Walker_cutSegment 59 = .ok (.invokevirtual 118, 3) := by decide +kernel
theorem d_Walker_cutSegment_62 : decode b_Walker_cutSegment 62 = .ok (.aload_n 0, 1) := by decide +kernel
theorem d_Walker_cutSegment_63 : decode b_Walker_cutSegment 63 = .ok (.dup, 1) := by decide +kernel
theorem d_Walker_cutSegment_64 : decode b_Walker_cutSegment 64 = .ok (.getfield 105, 3) := by decide +kernel
theorem d_Walker_cutSegment_67 : decode b_Walker_cutSegment 67 = .ok (.iload_n 3, 1) := by decide +kernel
theorem d_Walker_cutSegment_68 : decode b_Walker_cutSegment 68 = .ok (.iload_n 1, 1) := by decide +kernel
theorem d_Walker_cutSegment_69 : decode b_Walker_cutSegment 69 = .ok (.isub, 1) := by decide +kernel
theorem d_Walker_cutSegment_70 : decode b_Walker_cutSegment 70 = .ok (.isub, 1) := by decide +kernel
theorem d_Walker_cutSegment_71 : decode b_Walker_cutSegment 71 = .ok (.putfield 105, 3) := by decide +kernel
theorem d_Walker_cutSegment_74 : decode b_Walker_cutSegment 74 = .ok (.iload_n 3, 1) := by decide +kernel
theorem d_Walker_cutSegment_75 : decode b_Walker_cutSegment 75 = .ok (.istore_n 1, 1) := by decide +kernel
theorem d_Walker_cutSegment_76 : decode b_Walker_cutSegment 76 = .ok (.aload_n 0, 1) := by decide +kernel
theorem d_Walker_cutSegment_77 : decode b_Walker_cutSegment 77 = .ok (.getfield 105, 3) := by decide +kernel
theorem d_Walker_cutSegment_80 : decode b_Walker_cutSegment 80 = .ok (.ifCond .gt 59, 3) := by decide +kernel
theorem d_Walker_cutSegment_83 : decode b_Walker_cutSegment 83 = .ok (.aload_n 0, 1) := by decide +kernel
theorem d_Walker_cutSegment_84 : decode b_Walker_cutSegment 84 = .ok (.getfield 19, 3) := by decide +kernel
theorem d_Walker_cutSegment_87 : decode b_Walker_cutSegment 87 = .ok (.iconst 1, 1) := by decide +kernel
theorem d_Walker_cutSegment_88 : decode b_Walker_cutSegment 88 = .ok (.invokevirtual 134, 3) := by decide +kernel
theorem d_Walker_cutSegment_91 : decode b_Walker_cutSegment 91 = .ok (.aload_n 0, 1) := by decide +kernel
theorem d_Walker_cutSegment_92 : decode b_Walker_cutSegment 92 = .ok (.aload_n 0, 1) := by decide +kernel
theorem d_Walker_cutSegment_93 : decode b_Walker_cutSegment 93 = .ok (.aload_n 0, 1) := by decide +kernel
theorem d_Walker_cutSegment_94 : decode b_Walker_cutSegment 94 = .ok (.getfield 99, 3) := by decide +kernel
theorem d_Walker_cutSegment_97 : decode b_Walker_cutSegment 97 = .ok (.invokevirtual 72, 3) := by decide +kernel
theorem d_Walker_cutSegment_100 : decode b_Walker_cutSegment 100 = .ok (.putfield 99, 3) := by decide +kernel
theorem d_Walker_cutSegment_103 : decode b_Walker_cutSegment 103 = .ok (.aload_n 0, 1) := by decide +kernel
theorem d_Walker_cutSegment_104 : decode b_Walker_cutSegment 104 = .ok (.aload_n 0, 1) := by decide +kernel
theorem d_Walker_cutSegment_105 : decode b_Walker_cutSegment 105 = .ok (.getfield 102, 3) := by decide +kernel
theorem d_Walker_cutSegment_108 : decode b_Walker_cutSegment 108 = .ok (.ifCond .ne 7, 3) := by decide +kernel
theorem d_Walker_cutSegment_111 : decode b_Walker_cutSegment 111 = .ok (.iconst 1, 1) := by decide +kernel
theorem d_Walker_cutSegment_112 : decode b_Walker_cutSegment 112 = .ok (.goto 4, 3) := by decide +kernel
theorem d_Walker_cutSegment_115 : decode b_Walker_cutSegment 115 = .ok (.iconst 0, 1) := by decide +kernel
theorem d_Walker_cutSegment_116 : decode b_Walker_cutSegment 116 = .ok (.putfield 102, 3) := by decide +kernel
theorem d_Walker_cutSegment_119 : decode b_Walker_cutSegment 119 = .ok (.aload_n 0, 1) := by decide +kernel
theorem d_Walker_cutSegment_120 : decode b_Walker_cutSegment 120 = .ok (.sipush 256, 3) := by decide +kernel
theorem d_Walker_cutSegment_123 : decode b_Walker_cutSegment 123 = .ok (.aload_n 0, 1) := by decide +kernel
theorem d_Walker_cutSegment_124 : decode b_Walker_cutSegment 124 = .ok (.getfield 15, 3) := by decide +kernel
theorem d_Walker_cutSegment_127 : decode b_Walker_cutSegment 127 = .ok (.getfield 68, 3) := by decide +kernel
theorem d_Walker_cutSegment_130 : decode b_Walker_cutSegment 130 = .ok (.aload_n 0, 1) := by decide +kernel
theorem d_Walker_cutSegment_131 : decode b_Walker_cutSegment 131 = .ok (.getfield 99, 3) := by decide +kernel
theorem d_Walker_cutSegment_134 : decode b_Walker_cutSegment 134 = .ok (.iaload, 1) := by decide +kernel
theorem d_Walker_cutSegment_135 : decode b_Walker_cutSegment 135 = .ok (.imul, 1) := by decide +kernel
theorem d_Walker_cutSegment_136 : decode b_Walker_cutSegment 136 = .ok (.putfield 105, 3) := by decide +kernel
theorem d_Walker_cutSegment_139 : decode b_Walker_cutSegment 139 = .ok (.iinc 2 1, 3) := by decide +kernel
theorem d_Walker_cutSegment_142 : decode b_Walker_cutSegment 142 = .ok (.goto (-138), 3) := by decide +kernel
theorem d_Walker_cutSegment_145 : decode b_Walker_cutSegment 145 = .ok (.return_, 1) := by decide +kernel
theorem d_Walker_addPiece_0 : decode b_Walker_addPiece 0 = .ok (.aload_n 0, 1) := by decide +kernel
theorem d_Walker_addPiece_1 : decode b_Walker_addPiece 1 = .ok (.getfield 19, 3) := by decide +kernel
theorem d_Walker_addPiece_4 : decode b_Walker_addPiece 4 = .ok (.aload_n 0, 1) := by decide +kernel
theorem d_Walker_addPiece_5 : decode b_Walker_addPiece 5 = .ok (.aload_n 0, 1) := by decide +kernel
theorem d_Walker_addPiece_6 : decode b_Walker_addPiece 6 = .ok (.getfield 137, 3) := by decide +kernel
theorem d_Walker_addPiece_9 : decode b_Walker_addPiece 9 = .ok (.aload_n 0, 1) := by decide +kernel
theorem d_Walker_addPiece_10 : decode b_Walker_addPiece 10 = .ok (.getfield 143, 3) := by decide +kernel
theorem d_Walker_addPiece_13 : decode b_Walker_addPiece 13 = .ok (.iload_n 1, 1) := by decide +kernel
theorem d_Walker_addPiece_14 : decode b_Walker_addPiece 14 = .ok (.invokevirtual 174, 3) := by decide +kernel
theorem d_Walker_addPiece_17 : decode b_Walker_addPiece 17 = .ok (.aload_n 0, 1) := by decide +kernel
theorem d_Walker_addPiece_18 : decode b_Walker_addPiece 18 = .ok (.aload_n 0, 1) := by decide +kernel
theorem d_Walker_addPiece_19 : decode b_Walker_addPiece 19 = .ok (.getfield 140, 3) := by decide +kernel
theorem d_Walker_addPiece_22 : decode b_Walker_addPiece 22 = .ok (.aload_n 0, 1) := by decide +kernel
theorem d_Walker_addPiece_23 : decode b_Walker_addPiece 23 = .ok (.getfield 146, 3) := by decide +kernel
theorem d_Walker_addPiece_26 : decode b_Walker_addPiece 26 = .ok (.iload_n 1, 1) := by decide +kernel
theorem d_Walker_addPiece_27 : decode b_Walker_addPiece 27 = .ok (.invokevirtual 174, 3) := by decide +kernel
theorem d_Walker_addPiece_30 : decode b_Walker_addPiece 30 = .ok (.aload_n 0, 1) := by decide +kernel
theorem d_Walker_addPiece_31 : decode b_Walker_addPiece 31 = .ok (.aload_n 0, 1) := by decide +kernel
theorem d_Walker_addPiece_32 : decode b_Walker_addPiece 32 = .ok (.getfield 137, 3) := by decide +kernel
theorem d_Walker_addPiece_35 : decode b_Walker_addPiece 35 = .ok (.aload_n 0, 1) := by decide +kernel
theorem d_Walker_addPiece_36 : decode b_Walker_addPiece 36 = .ok (.getfield 143, 3) := by decide +kernel
theorem d_Walker_addPiece_39 : decode b_Walker_addPiece 39 = .ok (.iload_n 2, 1) := by decide +kernel
theorem d_Walker_addPiece_40 : decode b_Walker_addPiece 40 = .ok (.invokevirtual 174, 3) := by decide +kernel
theorem d_Walker_addPiece_43 : decode b_Walker_addPiece 43 = .ok (.aload_n 0, 1) := by decide +kernel
theorem d_Walker_addPiece_44 : decode b_Walker_addPiece 44 = .ok (.aload_n 0, 1) := by decide +kernel
theorem d_Walker_addPiece_45 : decode b_Walker_addPiece 45 = .ok (.getfield 140, 3) := by decide +kernel
theorem d_Walker_addPiece_48 : decode b_Walker_addPiece 48 = .ok (.aload_n 0, 1) := by decide +kernel
theorem d_Walker_addPiece_49 : decode b_Walker_addPiece 49 = .ok (.getfield 146, 3) := by decide +kernel
theorem d_Walker_addPiece_52 : decode b_Walker_addPiece 52 = .ok (.iload_n 2, 1) := by decide +kernel
theorem d_Walker_addPiece_53 : decode b_Walker_addPiece 53 = .ok (.invokevirtual 174, 3) := by decide +kernel
theorem d_Walker_addPiece_56 : decode b_Walker_addPiece 56 = .ok (.aload_n 0, 1) := by decide +kernel
theorem d_Walker_addPiece_57 : decode b_Walker_addPiece 57 = .ok (.getfield 153, 3) := by decide +kernel
theorem d_Walker_addPiece_60 : decode b_Walker_addPiece 60 = .ok (.aload_n 0, 1) := by decide +kernel
theorem d_Walker_addPiece_61 : decode b_Walker_addPiece 61 = .ok (.getfield 156, 3) := by decide +kernel
theorem d_Walker_addPiece_64 : decode b_Walker_addPiece 64 = .ok (.invokevirtual 178, 3) := by decide +kernel
theorem d_Walker_addPiece_67 : decode b_Walker_addPiece 67 = .ok (.return_, 1) := by decide +kernel
theorem d_Walker_fineAt_0 : decode b_Walker_fineAt 0 = .ok (.aload_n 0, 1) := by decide +kernel
theorem d_Walker_fineAt_1 : decode b_Walker_fineAt 1 = .ok (.getfield 115, 3) := by decide +kernel
theorem d_Walker_fineAt_4 : decode b_Walker_fineAt 4 = .ok (.ifCond .gt 8, 3) := by decide +kernel
theorem d_Walker_fineAt_7 : decode b_Walker_fineAt 7 = .ok (.bipush 16, 2) := by decide +kernel
theorem d_Walker_fineAt_9 : decode b_Walker_fineAt 9 = .ok (.iload_n 1, 1) := by decide +kernel
theorem d_Walker_fineAt_10 : decode b_Walker_fineAt 10 = .ok (.imul, 1) := by decide +kernel
theorem d_Walker_fineAt_11 : decode b_Walker_fineAt 11 = .ok (.ireturn, 1) := by decide +kernel
theorem d_Walker_fineAt_12 : decode b_Walker_fineAt 12 = .ok (.bipush 16, 2) := by decide +kernel
theorem d_Walker_fineAt_14 : decode b_Walker_fineAt 14 = .ok (.iload_n 1, 1) := by decide +kernel
theorem d_Walker_fineAt_15 : decode b_Walker_fineAt 15 = .ok (.imul, 1) := by decide +kernel
theorem d_Walker_fineAt_16 : decode b_Walker_fineAt 16 = .ok (.ldc2_w 182, 3) := by decide +kernel
theorem d_Walker_fineAt_19 : decode b_Walker_fineAt 19 = .ok (.iload_n 2, 1) := by decide +kernel
theorem d_Walker_fineAt_20 : decode b_Walker_fineAt 20 = .ok (.i2l, 1) := by decide +kernel
theorem d_Walker_fineAt_21 : decode b_Walker_fineAt 21 = .ok (.lmul, 1) := by decide +kernel
theorem d_Walker_fineAt_22 : decode b_Walker_fineAt 22 = .ok (.iload_n 3, 1) := by decide +kernel
theorem d_Walker_fineAt_23 : decode b_Walker_fineAt 23 = .ok (.i2l, 1) := by decide +kernel
theorem d_Walker_fineAt_24 : decode b_Walker_fineAt 24 = .ok (.lmul, 1) := by decide +kernel
theorem d_Walker_fineAt_25 : decode b_Walker_fineAt 25 = .ok (.aload_n 0, 1) := by decide +kernel
theorem d_Walker_fineAt_26 : decode b_Walker_fineAt 26 = .ok (.getfield 115, 3) := by decide +kernel
theorem d_Walker_fineAt_29 : decode b_Walker_fineAt 29 = .ok (.i2l, 1) := by decide +kernel
theorem d_Walker_fineAt_30 : decode b_Walker_fineAt 30 = .ok (.ladd, 1) := by decide +kernel
theorem d_Walker_fineAt_31 : decode b_Walker_fineAt 31 = .ok (.ldc2_w 165, 3) := by decide +kernel
theorem d_Walker_fineAt_34 : decode b_Walker_fineAt 34 = .ok (.aload_n 0, 1) := by decide +kernel
theorem d_Walker_fineAt_35 : decode b_Walker_fineAt 35 = .ok (.getfield 115, 3) := by decide +kernel
theorem d_Walker_fineAt_38 : decode b_Walker_fineAt 38 = .ok (.i2l, 1) := by decide +kernel
theorem d_Walker_fineAt_39 : decode b_Walker_fineAt 39 = .ok (.lmul, 1) := by decide +kernel
theorem d_Walker_fineAt_40 : decode b_Walker_fineAt 40 = .ok (.invokestatic 184, 3) := by decide +kernel
theorem d_Walker_fineAt_43 : decode b_Walker_fineAt 43 = .ok (.l2i, 1) := by decide +kernel
theorem d_Walker_fineAt_44 : decode b_Walker_fineAt 44 = .ok (.iadd, 1) := by decide +kernel
theorem d_Walker_fineAt_45 : decode b_Walker_fineAt 45 = .ok (.ireturn, 1) := by decide +kernel
end
section
theorem d_SR_init_0 : decode b_SR_init 0 = .ok (.aload_n 0, 1) := by decide +kernel
theorem d_SR_init_1 : decode b_SR_init 1 = .ok (.invokespecial 1, 3) := by decide +kernel
theorem d_SR_init_4 : decode b_SR_init 4 = .ok (.aload_n 0, 1) := by decide +kernel
theorem d_SR_init_5 : decode b_SR_init 5 = .ok (.new 7, 3) := by decide +kernel
theorem d_SR_init_8 : decode b_SR_init 8 = .ok (.dup, 1) := by decide +kernel
theorem d_SR_init_9 : decode b_SR_init 9 = .ok (.invokespecial 9, 3) := by decide +kernel
theorem d_SR_init_12 : decode b_SR_init 12 = .ok (.putfield 10, 3) := by decide +kernel
theorem d_SR_init_15 : decode b_SR_init 15 = .ok (.aload_n 0, 1) := by decide +kernel
theorem d_SR_init_16 : decode b_SR_init 16 = .ok (.new 16, 3) := by decide +kernel
theorem d_SR_init_19 : decode b_SR_init 19 = .ok (.dup, 1) := by decide +kernel
theorem d_SR_init_20 : decode b_SR_init 20 = .ok (.invokespecial 18, 3) := by decide +kernel
theorem d_SR_init_23 : decode b_SR_init 23 = .ok (.putfield 19, 3) := by decide +kernel
theorem d_SR_init_26 : decode b_SR_init 26 = .ok (.aload_n 0, 1) := by decide +kernel
theorem d_SR_init_27 : decode b_SR_init 27 = .ok (.new 23, 3) := by decide +kernel
theorem d_SR_init_30 : decode b_SR_init 30 = .ok (.dup, 1) := by decide +kernel
theorem d_SR_init_31 : decode b_SR_init 31 = .ok (.invokespecial 25, 3) := by decide +kernel
theorem d_SR_init_34 : decode b_SR_init 34 = .ok (.putfield 26, 3) := by decide +kernel
theorem d_SR_init_37 : decode b_SR_init 37 = .ok (.aload_n 0, 1) := by decide +kernel
theorem d_SR_init_38 : decode b_SR_init 38 = .ok (.new 30, 3) := by decide +kernel
theorem d_SR_init_41 : decode b_SR_init 41 = .ok (.dup, 1) := by decide +kernel
theorem d_SR_init_42 : decode b_SR_init 42 = .ok (.aload_n 0, 1) := by decide +kernel
theorem d_SR_init_43 : decode b_SR_init 43 = .ok (.getfield 10, 3) := by decide +kernel
theorem d_SR_init_46 : decode b_SR_init 46 = .ok (.aload_n 0, 1) := by decide +kernel
theorem d_SR_init_47 : decode b_SR_init 47 = .ok (.getfield 19, 3) := by decide +kernel
theorem d_SR_init_50 : decode b_SR_init 50 = .ok (.aload_n 0, 1) := by decide +kernel
theorem d_SR_init_51 : decode b_SR_init 51 = .ok (.getfield 26, 3) := by decide +kernel
theorem d_SR_init_54 : decode b_SR_init 54 = .ok (.invokespecial 32, 3) := by decide +kernel
theorem d_SR_init_57 : decode b_SR_init 57 = .ok (.putfield 35, 3) := by decide +kernel
theorem d_SR_init_60 : decode b_SR_init 60 = .ok (.aload_n 0, 1) := by decide +kernel
theorem d_SR_init_61 : decode b_SR_init 61 = .ok (.new 39, 3) := by decide +kernel
theorem d_SR_init_64 : decode b_SR_init 64 = .ok (.dup, 1) := by decide +kernel
theorem d_SR_init_65 : decode b_SR_init 65 = .ok (.invokespecial 41, 3) := by decide +kernel
theorem d_SR_init_68 : decode b_SR_init 68 = .ok (.putfield 42, 3) := by decide +kernel
theorem d_SR_init_71 : decode b_SR_init 71 = .ok (.aload_n 0, 1) := by decide +kernel
theorem d_SR_init_72 : decode b_SR_init 72 = .ok (.new 46, 3) := by decide +kernel
theorem d_SR_init_75 : decode b_SR_init 75 = .ok (.dup, 1) := by decide +kernel
theorem d_SR_init_76 : decode b_SR_init 76 = .ok (.aload_n 0, 1) := by decide +kernel
theorem d_SR_init_77 : decode b_SR_init 77 = .ok (.getfield 19, 3) := by decide +kernel
theorem d_SR_init_80 : decode b_SR_init 80 = .ok (.aload_n 0, 1) := by decide +kernel
theorem d_SR_init_81 : decode b_SR_init 81 = .ok (.getfield 26, 3) := by decide +kernel
theorem d_SR_init_84 : decode b_SR_init 84 = .ok (.aload_n 0, 1) := by decide +kernel
theorem d_SR_init_85 : decode b_SR_init 85 = .ok (.getfield 42, 3) := by decide +kernel
theorem d_SR_init_88 : decode b_SR_init 88 = .ok (.invokespecial 48, 3) := by decide +kernel
theorem d_SR_init_91 : decode b_SR_init 91 = .ok (.putfield 51, 3) := by decide +kernel
theorem d_SR_init_94 : decode b_SR_init 94 = .ok (.aload_n 0, 1) := by decide +kernel
theorem d_SR_init_95 : decode b_SR_init 95 = .ok (.bipush 64, 2) := by decide +kernel
theorem d_SR_init_97 : decode b_SR_init 97 = .ok (.newarray .long, 2) := by decide +kernel
theorem d_SR_init_99 : decode b_SR_init 99 = .ok (.putfield 55, 3) := by decide +kernel
theorem d_SR_init_102 : decode b_SR_init 102 = .ok (.return_, 1) := by decide +kernel
theorem d_SR_move_0 : decode b_SR_move 0 = .ok (.iload_n 1, 1) := by decide +kernel
theorem d_SR_move_1 : decode b_SR_move 1 = .ok (.invokestatic 59, 3) := by decide +kernel
theorem d_SR_move_4 : decode b_SR_move 4 = .ok (.ifCond .eq 10, 3) := by decide +kernel
theorem d_SR_move_7 : decode b_SR_move 7 = .ok (.iload_n 2, 1) := by decide +kernel
theorem d_SR_move_8 : decode b_SR_move 8 = .ok (.invokestatic 59, 3) := by decide +kernel
theorem d_SR_move_11 : decode b_SR_move 11 = .ok (.ifCond .ne 13, 3) := by decide +kernel
theorem d_SR_move_14 : decode b_SR_move 14 = .ok (.new 63, 3) := by decide +kernel
theorem d_SR_move_17 : decode b_SR_move 17 = .ok (.dup, 1) := by decide +kernel
theorem d_SR_move_18 : decode b_SR_move 18 = .ok (.ldc 65, 2) := by decide +kernel
theorem d_SR_move_20 : decode b_SR_move 20 = .ok (.invokespecial 67, 3) := by decide +kernel
theorem d_SR_move_23 : decode b_SR_move 23 = .ok (.athrow, 1) := by decide +kernel
theorem d_SR_move_24 : decode b_SR_move 24 = .ok (.aload_n 0, 1) := by decide +kernel
theorem d_SR_move_25 : decode b_SR_move 25 = .ok (.getfield 10, 3) := by decide +kernel
theorem d_SR_move_28 : decode b_SR_move 28 = .ok (.getfield 70, 3) := by decide +kernel
theorem d_SR_move_31 : decode b_SR_move 31 = .ok (.bipush 64, 2) := by decide +kernel
theorem d_SR_move_33 : decode b_SR_move 33 = .ok (.if_icmp .ge 16, 3) := by decide +kernel
theorem d_SR_move_36 : decode b_SR_move 36 = .ok (.aload_n 0, 1) := by decide +kernel
theorem d_SR_move_37 : decode b_SR_move 37 = .ok (.getfield 10, 3) := by decide +kernel
theorem d_SR_move_40 : decode b_SR_move 40 = .ok (.getfield 74, 3) := by decide +kernel
theorem d_SR_move_43 : decode b_SR_move 43 = .ok (.sipush 1024, 3) := by decide +kernel
theorem d_SR_move_46 : decode b_SR_move 46 = .ok (.if_icmp .lt 13, 3) := by decide +kernel
theorem d_SR_move_49 : decode b_SR_move 49 = .ok (.new 77, 3) := by decide +kernel
theorem d_SR_move_52 : decode b_SR_move 52 = .ok (.dup, 1) := by decide +kernel
theorem d_SR_move_53 : decode b_SR_move 53 = .ok (.ldc 79, 2) := by decide +kernel
theorem d_SR_move_55 : decode b_SR_move 55 = .ok (.invokespecial 81, 3) := by decide +kernel
theorem d_SR_move_58 : decode b_SR_move 58 = .ok (.athrow, 1) := by decide +kernel
theorem d_SR_move_59 : decode b_SR_move 59 = .ok (.aload_n 0, 1) := by decide +kernel
theorem d_SR_move_60 : decode b_SR_move 60 = .ok (.getfield 10, 3) := by decide +kernel
theorem d_SR_move_63 : decode b_SR_move 63 = .ok (.iload_n 1, 1) := by decide +kernel
theorem d_SR_move_64 : decode b_SR_move 64 = .ok (.iload_n 2, 1) := by decide +kernel
theorem d_SR_move_65 : decode b_SR_move 65 = .ok (.invokevirtual 82, 3) := by decide +kernel
theorem d_SR_move_68 : decode b_SR_move 68 = .ok (.aload_n 0, 1) := by decide +kernel
theorem d_SR_move_69 : decode b_SR_move 69 = .ok (.invokevirtual 86, 3) := by decide +kernel
theorem d_SR_move_72 : decode b_SR_move 72 = .ok (.aload_n 0, 1) := by decide +kernel
theorem d_SR_move_73 : decode b_SR_move 73 = .ok (.getfield 10, 3) := by decide +kernel
theorem d_SR_move_76 : decode b_SR_move 76 = .ok (.getfield 70, 3) := by decide +kernel
theorem d_SR_move_79 : decode b_SR_move 79 = .ok (.ireturn, 1) := by decide +kernel
theorem d_SR_line_0 : decode b_SR_line 0 = .ok (.iload_n 1, 1) := by decide +kernel
theorem d_SR_line_1 : decode b_SR_line 1 = .ok (.invokestatic 59, 3) := by decide +kernel
theorem d_SR_line_4 : decode b_SR_line 4 = .ok (.ifCond .eq 10, 3) := by decide +kernel
theorem d_SR_line_7 : decode b_SR_line 7 = .ok (.iload_n 2, 1) := by decide +kernel
theorem d_SR_line_8 : decode b_SR_line 8 = .ok (.invokestatic 59, 3) := by decide +kernel
theorem d_SR_line_11 : decode b_SR_line 11 = .ok (.ifCond .ne 13, 3) := by decide +kernel
theorem d_SR_line_14 : decode b_SR_line 14 = .ok (.new 63, 3) := by decide +kernel
theorem d_SR_line_17 : decode b_SR_line 17 = .ok (.dup, 1) := by decide +kernel
theorem d_SR_line_18 : decode b_SR_line 18 = .ok (.ldc 65, 2) := by decide +kernel
theorem d_SR_line_20 : decode b_SR_line 20 = .ok (.invokespecial 67, 3) := by decide +kernel
theorem d_SR_line_23 : decode b_SR_line 23 = .ok (.athrow, 1) := by decide +kernel
theorem d_SR_line_24 : decode b_SR_line 24 = .ok (.aload_n 0, 1) := by decide +kernel
theorem d_SR_line_25 : decode b_SR_line 25 = .ok (.getfield 10, 3) := by decide +kernel
theorem d_SR_line_28 : decode b_SR_line 28 = .ok (.iconst 1, 1) := by decide +kernel
theorem d_SR_line_29 : decode b_SR_line 29 = .ok (.invokevirtual 89, 3) := by decide +kernel
theorem d_SR_line_32 : decode b_SR_line 32 = .ok (.ifCond .ne 13, 3) := by decide +kernel
theorem d_SR_line_35 : decode b_SR_line 35 = .ok (.new 77, 3) := by decide +kernel
theorem d_SR_line_38 : decode b_SR_line 38 = .ok (.dup, 1) := by decide +kernel
theorem d_SR_line_39 : decode b_SR_line 39 = .ok (.ldc 92, 2) := by decide +kernel
theorem d_SR_line_41 : decode b_SR_line 41 = .ok (.invokespecial 81, 3) := by decide +kernel
theorem d_SR_line_44 : decode b_SR_line 44 = .ok (.athrow, 1) := by decide +kernel
theorem d_SR_line_45 : decode b_SR_line 45 = .ok (.aload_n 0, 1) := by decide +kernel
theorem d_SR_line_46 : decode b_SR_line 46 = .ok (.getfield 10, 3) := by decide +kernel
theorem d_SR_line_49 : decode b_SR_line 49 = .ok (.iload_n 1, 1) := by decide +kernel
theorem d_SR_line_50 : decode b_SR_line 50 = .ok (.iload_n 2, 1) := by decide +kernel
theorem d_SR_line_51 : decode b_SR_line 51 = .ok (.invokevirtual 94, 3) := by decide +kernel
theorem d_SR_line_54 : decode b_SR_line 54 = .ok (.aload_n 0, 1) := by decide +kernel
theorem d_SR_line_55 : decode b_SR_line 55 = .ok (.invokevirtual 86, 3) := by decide +kernel
theorem d_SR_line_58 : decode b_SR_line 58 = .ok (.aload_n 0, 1) := by decide +kernel
theorem d_SR_line_59 : decode b_SR_line 59 = .ok (.getfield 10, 3) := by decide +kernel
theorem d_SR_line_62 : decode b_SR_line 62 = .ok (.getfield 74, 3) := by decide +kernel
theorem d_SR_line_65 : decode b_SR_line 65 = .ok (.ireturn, 1) := by decide +kernel
theorem d_SR_control_0 : decode b_SR_control 0 = .ok (.iload_n 1, 1) := by decide +kernel
theorem d_SR_control_1 : decode b_SR_control 1 = .ok (.invokestatic 59, 3) := by decide +kernel
theorem d_SR_control_4 : decode b_SR_control 4 = .ok (.ifCond .eq 25, 3) := by decide +kernel
theorem d_SR_control_7 : decode b_SR_control 7 = .ok (.iload_n 2, 1) := by decide +kernel
theorem d_SR_control_8 : decode b_SR_control 8 = .ok (.invokestatic 59, 3) := by decide +kernel
theorem d_SR_control_11 : decode b_SR_control 11 = .ok (.ifCond .eq 18, 3) := by decide +kernel
theorem d_SR_control_14 : decode b_SR_control 14 = .ok (.iload_n 3, 1) := by decide +kernel
theorem d_SR_control_15 : decode b_SR_control 15 = .ok (.invokestatic 59, 3) := by decide +kernel
theorem d_SR_control_18 : decode b_SR_control 18 = .ok (.ifCond .eq 11, 3) := by decide +kernel
theorem d_SR_control_21 : decode b_SR_control 21 = .ok (.iload 4, 2) := by decide +kernel
theorem d_SR_control_23 : decode b_SR_control 23 = .ok (.invokestatic 59, 3) := by decide +kernel
theorem d_SR_control_26 : decode b_SR_control 26 = .ok (.ifCond .ne 13, 3) := by decide +kernel
theorem d_SR_control_29 : decode b_SR_control 29 = .ok (.new 63, 3) := by decide +kernel
theorem d_SR_control_32 : decode b_SR_control 32 = .ok (.dup, 1) := by decide +kernel
theorem d_SR_control_33 : decode b_SR_control 33 = .ok (.ldc 65, 2) := by decide +kernel
theorem d_SR_control_35 : decode b_SR_control 35 = .ok (.invokespecial 67, 3) := by decide +kernel
theorem d_SR_control_38 : decode b_SR_control 38 = .ok (.athrow, 1) := by decide +kernel
theorem d_SR_control_39 : decode b_SR_control 39 = .ok (.aload_n 0, 1) := by decide +kernel
theorem d_SR_control_40 : decode b_SR_control 40 = .ok (.iload_n 1, 1) := by decide +kernel
theorem d_SR_control_41 : decode b_SR_control 41 = .ok (.putfield 97, 3) := by decide +kernel
theorem d_SR_control_44 : decode b_SR_control 44 = .ok (.aload_n 0, 1) := by decide +kernel
theorem d_SR_control_45 : decode b_SR_control 45 = .ok (.iload_n 2, 1) := by decide +kernel
theorem d_SR_control_46 : decode b_SR_control 46 = .ok (.putfield 100, 3) := by decide +kernel
theorem d_SR_control_49 : decode b_SR_control 49 = .ok (.aload_n 0, 1) := by decide +kernel
theorem d_SR_control_50 : decode b_SR_control 50 = .ok (.iload_n 3, 1) := by decide +kernel
theorem d_SR_control_51 : decode b_SR_control 51 = .ok (.putfield 103, 3) := by decide +kernel
theorem d_SR_control_54 : decode b_SR_control 54 = .ok (.aload_n 0, 1) := by decide +kernel
theorem d_SR_control_55 : decode b_SR_control 55 = .ok (.iload 4, 2) := by decide +kernel
theorem d_SR_control_57 : decode b_SR_control 57 = .ok (.putfield 106, 3) := by decide +kernel
theorem d_SR_control_60 : decode b_SR_control 60 = .ok (.return_, 1) := by decide +kernel
theorem d_SR_curve_0 : decode b_SR_curve 0 = .ok (.iload_n 1, 1) := by decide +kernel
theorem d_SR_curve_1 : decode b_SR_curve 1 = .ok (.invokestatic 59, 3) := by decide +kernel
theorem d_SR_curve_4 : decode b_SR_curve 4 = .ok (.ifCond .eq 10, 3) := by decide +kernel
theorem d_SR_curve_7 : decode b_SR_curve 7 = .ok (.iload_n 2, 1) := by decide +kernel
theorem d_SR_curve_8 : decode b_SR_curve 8 = .ok (.invokestatic 59, 3) := by decide +kernel
theorem d_SR_curve_11 : decode b_SR_curve 11 = .ok (.ifCond .ne 13, 3) := by decide +kernel
theorem d_SR_curve_14 : decode b_SR_curve 14 = .ok (.new 63, 3) := by decide +kernel
theorem d_SR_curve_17 : decode b_SR_curve 17 = .ok (.dup, 1) := by decide +kernel
theorem d_SR_curve_18 : decode b_SR_curve 18 = .ok (.ldc 65, 2) := by decide +kernel
theorem d_SR_curve_20 : decode b_SR_curve 20 = .ok (.invokespecial 67, 3) := by decide +kernel
theorem d_SR_curve_23 : decode b_SR_curve 23 = .ok (.athrow, 1) := by decide +kernel
theorem d_SR_curve_24 : decode b_SR_curve 24 = .ok (.aload_n 0, 1) := by decide +kernel
theorem d_SR_curve_25 : decode b_SR_curve 25 = .ok (.getfield 10, 3) := by decide +kernel
theorem d_SR_curve_28 : decode b_SR_curve 28 = .ok (.bipush 16, 2) := by decide +kernel
theorem d_SR_curve_30 : decode b_SR_curve 30 = .ok (.invokevirtual 89, 3) := by decide +kernel
theorem d_SR_curve_33 : decode b_SR_curve 33 = .ok (.ifCond .ne 13, 3) := by decide +kernel
theorem d_SR_curve_36 : decode b_SR_curve 36 = .ok (.new 77, 3) := by decide +kernel
theorem d_SR_curve_39 : decode b_SR_curve 39 = .ok (.dup, 1) := by decide +kernel
theorem d_SR_curve_40 : decode b_SR_curve 40 = .ok (.ldc 92, 2) := by decide +kernel
theorem d_SR_curve_42 : decode b_SR_curve 42 = .ok (.invokespecial 81, 3) := by decide +kernel
theorem d_SR_curve_45 : decode b_SR_curve 45 = .ok (.athrow, 1) := by decide +kernel
theorem d_SR_curve_46 : decode b_SR_curve 46 = .ok (.aload_n 0, 1) := by decide +kernel
theorem d_SR_curve_47 : decode b_SR_curve 47 = .ok (.getfield 10, 3) := by decide +kernel
theorem d_SR_curve_50 : decode b_SR_curve 50 = .ok (.aload_n 0, 1) := by decide +kernel
theorem d_SR_curve_51 : decode b_SR_curve 51 = .ok (.getfield 97, 3) := by decide +kernel
theorem d_SR_curve_54 : decode b_SR_curve 54 = .ok (.aload_n 0, 1) := by decide +kernel
theorem d_SR_curve_55 : decode b_SR_curve 55 = .ok (.getfield 100, 3) := by decide +kernel
theorem d_SR_curve_58 : decode b_SR_curve 58 = .ok (.aload_n 0, 1) := by decide +kernel
theorem d_SR_curve_59 : decode b_SR_curve 59 = .ok (.getfield 103, 3) := by decide +kernel
theorem d_SR_curve_62 : decode b_SR_curve 62 = .ok (.aload_n 0, 1) := by decide +kernel
theorem d_SR_curve_63 : decode b_SR_curve 63 = .ok (.getfield 106, 3) := by decide +kernel
theorem d_SR_curve_66 : decode b_SR_curve 66 = .ok (.iload_n 1, 1) := by decide +kernel
theorem d_SR_curve_67 : decode b_SR_curve 67 = .ok (.iload_n 2, 1) := by decide +kernel
theorem d_SR_curve_68 : decode b_SR_curve 68 = .ok (.invokevirtual 109, 3) := by decide +kernel
theorem d_SR_curve_71 : decode b_SR_curve 71 = .ok (.aload_n 0, 1) := by decide +kernel
theorem d_SR_curve_72 : decode b_SR_curve 72 = .ok (.invokevirtual 86, 3) := by decide +kernel
theorem d_SR_curve_75 : decode b_SR_curve 75 = .ok (.aload_n 0, 1) := by decide +kernel
theorem d_SR_curve_76 : decode b_SR_curve 76 = .ok (.getfield 10, 3) := by decide +kernel
theorem d_SR_curve_79 : decode b_SR_curve 79 = .ok (.getfield 74, 3) := by decide +kernel
theorem d_SR_curve_82 : decode b_SR_curve 82 = .ok (.ireturn, 1) := by decide +kernel
theorem d_SR_close_0 : decode b_SR_close 0 = .ok (.aload_n 0, 1) := by decide +kernel
theorem d_SR_close_1 : decode b_SR_close 1 = .ok (.getfield 10, 3) := by decide +kernel
theorem d_SR_close_4 : decode b_SR_close 4 = .ok (.invokevirtual 113, 3) := by decide +kernel
theorem d_SR_close_7 : decode b_SR_close 7 = .ok (.ifCond .ne 13, 3) := by decide +kernel
theorem d_SR_close_10 : decode b_SR_close 10 = .ok (.new 77, 3) := by decide +kernel
theorem d_SR_close_13 : decode b_SR_close 13 = .ok (.dup, 1) := by decide +kernel
theorem d_SR_close_14 : decode b_SR_close 14 = .ok (.ldc 117, 2) := by decide +kernel
theorem d_SR_close_16 : decode b_SR_close 16 = .ok (.invokespecial 81, 3) := by decide +kernel
theorem d_SR_close_19 : decode b_SR_close 19 = .ok (.athrow, 1) := by decide +kernel
theorem d_SR_close_20 : decode b_SR_close 20 = .ok (.aload_n 0, 1) := by decide +kernel
theorem d_SR_close_21 : decode b_SR_close 21 = .ok (.getfield 10, 3) := by decide +kernel
theorem d_SR_close_24 : decode b_SR_close 24 = .ok (.invokevirtual 119, 3) := by decide +kernel
theorem d_SR_close_27 : decode b_SR_close 27 = .ok (.aload_n 0, 1) := by decide +kernel
theorem d_SR_close_28 : decode b_SR_close 28 = .ok (.invokevirtual 86, 3) := by decide +kernel
theorem d_SR_close_31 : decode b_SR_close 31 = .ok (.aload_n 0, 1) := by decide +kernel
theorem d_SR_close_32 : decode b_SR_close 32 = .ok (.getfield 10, 3) := by decide +kernel
theorem d_SR_close_35 : decode b_SR_close 35 = .ok (.getfield 122, 3) := by decide +kernel
theorem d_SR_close_38 : decode b_SR_close 38 = .ok (.ireturn, 1) := by decide +kernel
theorem d_SR_clear_0 : decode b_SR_clear 0 = .ok (.aload_n 0, 1) := by decide +kernel
theorem d_SR_clear_1 : decode b_SR_clear 1 = .ok (.getfield 10, 3) := by decide +kernel
theorem d_SR_clear_4 : decode b_SR_clear 4 = .ok (.getfield 70, 3) := by decide +kernel
theorem d_SR_clear_7 : decode b_SR_clear 7 = .ok (.istore_n 1, 1) := by decide +kernel
theorem d_SR_clear_8 : decode b_SR_clear 8 = .ok (.aload_n 0, 1) := by decide +kernel
theorem d_SR_clear_9 : decode b_SR_clear 9 = .ok (.getfield 10, 3) := by decide +kernel
theorem d_SR_clear_12 : decode b_SR_clear 12 = .ok (.invokevirtual 125, 3) := by decide +kernel
theorem d_SR_clear_15 : decode b_SR_clear 15 = .ok (.aload_n 0, 1) := by decide +kernel
theorem d_SR_clear_16 : decode b_SR_clear 16 = .ok (.invokevirtual 86, 3) := by decide +kernel
theorem d_SR_clear_19 : decode b_SR_clear 19 = .ok (.iload_n 1, 1) := by decide +kernel
theorem d_SR_clear_20 : decode b_SR_clear 20 = .ok (.ireturn, 1) := by decide +kernel
theorem d_SR_pen_0 : decode b_SR_pen 0 = .ok (.iload_n 1, 1) := by decide +kernel
theorem d_SR_pen_1 : decode b_SR_pen 1 = .ok (.iconst 1, 1) := by decide +kernel
theorem d_SR_pen_2 : decode b_SR_pen 2 = .ok (.if_icmp .lt 43, 3) := by decide +kernel
theorem d_SR_pen_5 : decode b_SR_pen 5 = .ok (.iload_n 1, 1) := by decide +kernel
theorem d_SR_pen_6 : decode b_SR_pen 6 = .ok (.sipush 4096, 3) := by decide +kernel
theorem d_SR_pen_9 : decode b_SR_pen 9 = .ok (.if_icmp .gt 36, 3) := by decide +kernel
theorem d_SR_pen_12 : decode b_SR_pen 12 = .ok (.iload_n 2, 1) := by decide +kernel
theorem d_SR_pen_13 : decode b_SR_pen 13 = .ok (.ifCond .lt 32, 3) := by decide +kernel
theorem d_SR_pen_16 : decode b_SR_pen 16 = .ok (.iload_n 2, 1) := by decide +kernel
theorem d_SR_pen_17 : decode b_SR_pen 17 = .ok (.iconst 2, 1) := by decide +kernel
theorem d_SR_pen_18 : decode b_SR_pen 18 = .ok (.if_icmp .gt 27, 3) := by decide +kernel
theorem d_SR_pen_21 : decode b_SR_pen 21 = .ok (.iload_n 3, 1) := by decide +kernel
theorem d_SR_pen_22 : decode b_SR_pen 22 = .ok (.ifCond .lt 23, 3) := by decide +kernel
theorem d_SR_pen_25 : decode b_SR_pen 25 = .ok (.iload_n 3, 1) := by decide +kernel
theorem d_SR_pen_26 : decode b_SR_pen 26 = .ok (.iconst 2, 1) := by decide +kernel
theorem d_SR_pen_27 : decode b_SR_pen 27 = .ok (.if_icmp .gt 18, 3) := by decide +kernel
theorem d_SR_pen_30 : decode b_SR_pen 30 = .ok (.iload 4, 2) := by decide +kernel
theorem d_SR_pen_32 : decode b_SR_pen 32 = .ok (.bipush 64, 2) := by decide +kernel
theorem d_SR_pen_34 : decode b_SR_pen 34 = .ok (.if_icmp .lt 11, 3) := by decide +kernel
theorem d_SR_pen_37 : decode b_SR_pen 37 = .ok (.iload 4, 2) := by decide +kernel
theorem d_SR_pen_39 : decode b_SR_pen 39 = .ok (.sipush 8192, 3) := by decide +kernel
theorem d_SR_pen_42 : decode b_SR_pen 42 = .ok (.if_icmp .le 13, 3) := by decide +kernel
theorem d_SR_pen_45 : decode b_SR_pen 45 = .ok (.new 63, 3) := by decide +kernel
theorem d_SR_pen_48 : decode b_SR_pen 48 = .ok (.dup, 1) := by decide +kernel
theorem d_SR_pen_49 : decode b_SR_pen 49 = .ok (.ldc 128, 2) := by decide +kernel
theorem d_SR_pen_51 : decode b_SR_pen 51 = .ok (.invokespecial 67, 3) := by decide +kernel
theorem d_SR_pen_54 : decode b_SR_pen 54 = .ok (.athrow, 1) := by decide +kernel
theorem d_SR_pen_55 : decode b_SR_pen 55 = .ok (.aload_n 0, 1) := by decide +kernel
theorem d_SR_pen_56 : decode b_SR_pen 56 = .ok (.getfield 19, 3) := by decide +kernel
theorem d_SR_pen_59 : decode b_SR_pen 59 = .ok (.iload_n 1, 1) := by decide +kernel
theorem d_SR_pen_60 : decode b_SR_pen 60 = .ok (.iload_n 2, 1) := by decide +kernel
theorem d_SR_pen_61 : decode b_SR_pen 61 = .ok (.iload_n 3, 1) := by decide +kernel
theorem d_SR_pen_62 : decode b_SR_pen 62 = .ok (.iload 4, 2) := by decide +kernel
theorem d_SR_pen_64 : decode b_SR_pen 64 = .ok (.invokevirtual 130, 3) := by decide +kernel
theorem d_SR_pen_67 : decode b_SR_pen 67 = .ok (.aload_n 0, 1) := by decide +kernel
theorem d_SR_pen_68 : decode b_SR_pen 68 = .ok (.invokevirtual 86, 3) := by decide +kernel
theorem d_SR_pen_71 : decode b_SR_pen 71 = .ok (.return_, 1) := by decide +kernel
theorem d_SR_dash_0 : decode b_SR_dash 0 = .ok (.iload_n 1, 1) := by decide +kernel
theorem d_SR_dash_1 : decode b_SR_dash 1 = .ok (.ifCond .lt 10, 3) := by decide +kernel
theorem d_SR_dash_4 : decode b_SR_dash 4 = .ok (.iload_n 1, 1) := by decide +kernel
theorem d_SR_dash_5 : decode b_SR_dash 5 = .ok (.sipush 8192, 3) := by decide +kernel
theorem d_SR_dash_8 : decode b_SR_dash 8 = .ok (.if_icmp .le 13, 3) := by decide +kernel
theorem d_SR_dash_11 : decode b_SR_dash 11 = .ok (.new 63, 3) := by decide +kernel
theorem d_SR_dash_14 : decode b_SR_dash 14 = .ok (.dup, 1) := by decide +kernel
theorem d_SR_dash_15 : decode b_SR_dash 15 = .ok (.ldc 134, 2) := by decide +kernel
theorem d_SR_dash_17 : decode b_SR_dash 17 = .ok (.invokespecial 67, 3) := by decide +kernel
theorem d_SR_dash_20 : decode b_SR_dash 20 = .ok (.athrow, 1) := by decide +kernel
theorem d_SR_dash_21 : decode b_SR_dash 21 = .ok (.aload_n 0, 1) := by decide +kernel
theorem d_SR_dash_22 : decode b_SR_dash 22 = .ok (.getfield 19, 3) := by decide +kernel
theorem d_SR_dash_25 : decode b_SR_dash 25 = .ok (.getfield 136, 3) := by decide +kernel
theorem d_SR_dash_28 : decode b_SR_dash 28 = .ok (.bipush 8, 2) := by decide +kernel
theorem d_SR_dash_30 : decode b_SR_dash 30 = .ok (.if_icmp .lt 13, 3) := by decide +kernel
theorem d_SR_dash_33 : decode b_SR_dash 33 = .ok (.new 77, 3) := by decide +kernel
theorem d_SR_dash_36 : decode b_SR_dash 36 = .ok (.dup, 1) := by decide +kernel
theorem d_SR_dash_37 : decode b_SR_dash 37 = .ok (.ldc 139, 2) := by decide +kernel
theorem d_SR_dash_39 : decode b_SR_dash 39 = .ok (.invokespecial 81, 3) := by decide +kernel
theorem d_SR_dash_42 : decode b_SR_dash 42 = .ok (.athrow, 1) := by decide +kernel
theorem d_SR_dash_43 : decode b_SR_dash 43 = .ok (.aload_n 0, 1) := by decide +kernel
theorem d_SR_dash_44 : decode b_SR_dash 44 = .ok (.getfield 19, 3) := by decide +kernel
theorem d_SR_dash_47 : decode b_SR_dash 47 = .ok (.iload_n 1, 1) := by decide +kernel
theorem d_SR_dash_48 : decode b_SR_dash 48 = .ok (.invokevirtual 141, 3) := by decide +kernel
theorem d_SR_dash_51 : decode b_SR_dash 51 = .ok (.aload_n 0, 1) := by decide +kernel
theorem d_SR_dash_52 : decode b_SR_dash 52 = .ok (.invokevirtual 86, 3) := by decide +kernel
theorem d_SR_dash_55 : decode b_SR_dash 55 = .ok (.aload_n 0, 1) := by decide +kernel
theorem d_SR_dash_56 : decode b_SR_dash 56 = .ok (.getfield 19, 3) := by decide +kernel
theorem d_SR_dash_59 : decode b_SR_dash 59 = .ok (.getfield 136, 3) := by decide +kernel
theorem d_SR_dash_62 : decode b_SR_dash 62 = .ok (.ireturn, 1) := by decide +kernel
theorem d_SR_plain_0 : decode b_SR_plain 0 = .ok (.iload_n 1, 1) := by decide +kernel
theorem d_SR_plain_1 : decode b_SR_plain 1 = .ok (.ifCond .lt 9, 3) := by decide +kernel
theorem d_SR_plain_4 : decode b_SR_plain 4 = .ok (.iload_n 1, 1) := by decide +kernel
theorem d_SR_plain_5 : decode b_SR_plain 5 = .ok (.ldc 145, 2) := by decide +kernel
theorem d_SR_plain_7 : decode b_SR_plain 7 = .ok (.if_icmp .le 13, 3) := by decide +kernel
theorem d_SR_plain_10 : decode b_SR_plain 10 = .ok (.new 63, 3) := by decide +kernel
theorem d_SR_plain_13 : decode b_SR_plain 13 = .ok (.dup, 1) := by decide +kernel
theorem d_SR_plain_14 : decode b_SR_plain 14 = .ok (.ldc 146, 2) := by decide +kernel
theorem d_SR_plain_16 : decode b_SR_plain 16 = .ok (.invokespecial 67, 3) := by decide +kernel
theorem d_SR_plain_19 : decode b_SR_plain 19 = .ok (.athrow, 1) := by decide +kernel
theorem d_SR_plain_20 : decode b_SR_plain 20 = .ok (.aload_n 0, 1) := by decide +kernel
theorem d_SR_plain_21 : decode b_SR_plain 21 = .ok (.getfield 19, 3) := by decide +kernel
theorem d_SR_plain_24 : decode b_SR_plain 24 = .ok (.getfield 136, 3) := by decide +kernel
theorem d_SR_plain_27 : decode b_SR_plain 27 = .ok (.istore_n 2, 1) := by decide +kernel
theorem d_SR_plain_28 : decode b_SR_plain 28 = .ok (.aload_n 0, 1) := by decide +kernel
theorem d_SR_plain_29 : decode b_SR_plain 29 = .ok (.getfield 19, 3) := by decide +kernel
theorem d_SR_plain_32 : decode b_SR_plain 32 = .ok (.iload_n 1, 1) := by decide +kernel
theorem d_SR_plain_33 : decode b_SR_plain 33 = .ok (.invokevirtual 148, 3) := by decide +kernel
theorem d_SR_plain_36 : decode b_SR_plain 36 = .ok (.aload_n 0, 1) := by decide +kernel
theorem d_SR_plain_37 : decode b_SR_plain 37 = .ok (.invokevirtual 86, 3) := by decide +kernel
theorem d_SR_plain_40 : decode b_SR_plain 40 = .ok (.iload_n 2, 1) := by decide +kernel
theorem d_SR_plain_41 : decode b_SR_plain 41 = .ok (.ireturn, 1) := by decide +kernel
theorem d_SR_count_0 : decode b_SR_count 0 = .ok (.iload_n 1, 1) := by decide +kernel
theorem d_SR_count_1 : decode b_SR_count 1 = .ok (.tableswitch 93 0 3 #[31, 39, 47, 77], 31) := by decide +kernel
theorem d_SR_count_32 : decode b_SR_count 32 = .ok (.aload_n 0, 1) := by decide +kernel
theorem d_SR_count_33 : decode b_SR_count 33 = .ok (.getfield 10, 3) := by decide +kernel
theorem d_SR_count_36 : decode b_SR_count 36 = .ok (.getfield 70, 3) := by decide +kernel
theorem d_SR_count_39 : decode b_SR_count 39 = .ok (.ireturn, 1) := by decide +kernel
theorem d_SR_count_40 : decode b_SR_count 40 = .ok (.aload_n 0, 1) := by decide +kernel
theorem d_SR_count_41 : decode b_SR_count 41 = .ok (.getfield 10, 3) := by decide +kernel
theorem d_SR_count_44 : decode b_SR_count 44 = .ok (.getfield 74, 3) := by decide +kernel
theorem d_SR_count_47 : decode b_SR_count 47 = .ok (.ireturn, 1) := by decide +kernel
theorem d_SR_count_48 : decode b_SR_count 48 = .ok (.aload_n 0, 1) := by decide +kernel
theorem d_SR_count_49 : decode b_SR_count 49 = .ok (.getfield 35, 3) := by decide +kernel
theorem d_SR_count_52 : decode b_SR_count 52 = .ok (.invokevirtual 151, 3) := by decide +kernel
theorem d_SR_count_55 : decode b_SR_count 55 = .ok (.aload_n 0, 1) := by decide +kernel
theorem d_SR_count_56 : decode b_SR_count 56 = .ok (.getfield 26, 3) := by decide +kernel
theorem d_SR_count_59 : decode b_SR_count 59 = .ok (.getfield 154, 3) := by decide +kernel
theorem d_SR_count_62 : decode b_SR_count 62 = .ok (.ifCond .eq 8, 3) := by decide +kernel
theorem d_SR_count_65 : decode b_SR_count 65 = .ok (.bipush (-2), 2) := by decide +kernel
theorem d_SR_count_67 : decode b_SR_count 67 = .ok (.goto 10, 3) := by decide +kernel
theorem d_SR_count_70 : decode b_SR_count 70 = .ok (.aload_n 0, 1) := by decide +kernel
theorem d_SR_count_71 : decode b_SR_count 71 = .ok (.getfield 26, 3) := by decide +kernel
theorem d_SR_count_74 : decode b_SR_count 74 = .ok (.getfield 158, 3) := by decide +kernel
theorem d_SR_count_77 : decode b_SR_count 77 = .ok (.ireturn, 1) := by decide +kernel
theorem d_SR_count_78 : decode b_SR_count 78 = .ok (.aload_n 0, 1) := by decide +kernel
theorem d_SR_count_79 : decode b_SR_count 79 = .ok (.getfield 35, 3) := by decide +kernel
theorem d_SR_count_82 : decode b_SR_count 82 = .ok (.invokevirtual 151, 3) := by decide +kernel
theorem d_SR_count_85 : decode b_SR_count 85 = .ok (.aload_n 0, 1) := by decide +kernel
theorem d_SR_count_86 : decode b_SR_count 86 = .ok (.invokevirtual 161, 3) := by decide +kernel
theorem d_SR_count_89 : decode b_SR_count 89 = .ok (.aload_n 0, 1) := by decide +kernel
theorem d_SR_count_90 : decode b_SR_count 90 = .ok (.invokevirtual 164, 3) := by decide +kernel
theorem d_SR_count_93 : decode b_SR_count 93 = .ok (.ireturn, 1) := by decide +kernel
theorem d_SR_count_94 : decode b_SR_count 94 = .ok (.iconst (-1), 1) := by decide +kernel
theorem d_SR_count_95 : decode b_SR_count 95 = .ok (.ireturn, 1) := by decide +kernel
theorem d_SR_has_0 : decode b_SR_has 0 = .ok (.iload_n 1, 1) := by decide +kernel
theorem d_SR_has_1 : decode b_SR_has 1 = .ok (.sipush (-16384), 3) := by decide +kernel
theorem d_SR_has_4 : decode b_SR_has 4 = .ok (.if_icmp .lt 24, 3) := by decide +kernel
theorem d_SR_has_7 : decode b_SR_has 7 = .ok (.iload_n 1, 1) := by decide +kernel
theorem d_SR_has_8 : decode b_SR_has 8 = .ok (.sipush 16384, 3) := by decide +kernel
theorem d_SR_has_11 : decode b_SR_has 11 = .ok (.if_icmp .ge 17, 3) := by decide +kernel
theorem d_SR_has_14 : decode b_SR_has 14 = .ok (.iload_n 2, 1) := by decide +kernel
theorem d_SR_has_15 : decode b_SR_has 15 = .ok (.sipush (-16384), 3) := by decide +kernel
theorem d_SR_has_18 : decode b_SR_has 18 = .ok (.if_icmp .lt 10, 3) := by decide +kernel
theorem d_SR_has_21 : decode b_SR_has 21 = .ok (.iload_n 2, 1) := by decide +kernel
theorem d_SR_has_22 : decode b_SR_has 22 = .ok (.sipush 16384, 3) := by decide +kernel
theorem d_SR_has_25 : decode b_SR_has 25 = .ok (.if_icmp .lt 13, 3) := by decide +kernel
theorem d_SR_has_28 : decode b_SR_has 28 = .ok (.new 63, 3) := by decide +kernel
theorem d_SR_has_31 : decode b_SR_has 31 = .ok (.dup, 1) := by decide +kernel
theorem d_SR_has_32 : decode b_SR_has 32 = .ok (.ldc 65, 2) := by decide +kernel
theorem d_SR_has_34 : decode b_SR_has 34 = .ok (.invokespecial 67, 3) := by decide +kernel
theorem d_SR_has_37 : decode b_SR_has 37 = .ok (.athrow, 1) := by decide +kernel
theorem d_SR_has_38 : decode b_SR_has 38 = .ok (.aload_n 0, 1) := by decide +kernel
theorem d_SR_has_39 : decode b_SR_has 39 = .ok (.getfield 35, 3) := by decide +kernel
theorem d_SR_has_42 : decode b_SR_has 42 = .ok (.invokevirtual 151, 3) := by decide +kernel
theorem d_SR_has_45 : decode b_SR_has 45 = .ok (.aload_n 0, 1) := by decide +kernel
theorem d_SR_has_46 : decode b_SR_has 46 = .ok (.getfield 42, 3) := by decide +kernel
theorem d_SR_has_49 : decode b_SR_has 49 = .ok (.bipush 16, 2) := by decide +kernel
theorem d_SR_has_51 : decode b_SR_has 51 = .ok (.iload_n 1, 1) := by decide +kernel
theorem d_SR_has_52 : decode b_SR_has 52 = .ok (.imul, 1) := by decide +kernel
theorem d_SR_has_53 : decode b_SR_has 53 = .ok (.iconst 1, 1) := by decide +kernel
theorem d_SR_has_54 : decode b_SR_has 54 = .ok (.iconst 1, 1) := by decide +kernel
theorem d_SR_has_55 : decode b_SR_has 55 = .ok (.invokevirtual 168, 3) := by decide +kernel
theorem d_SR_has_58 : decode b_SR_has 58 = .ok (.aload_n 0, 1) := by decide +kernel
theorem d_SR_has_59 : decode b_SR_has 59 = .ok (.getfield 42, 3) := by decide +kernel
theorem d_SR_has_62 : decode b_SR_has 62 = .ok (.bipush 16, 2) := by decide +kernel
theorem d_SR_has_64 : decode b_SR_has 64 = .ok (.iload_n 2, 1) := by decide +kernel
theorem d_SR_has_65 : decode b_SR_has 65 = .ok (.imul, 1) := by decide +kernel
theorem d_SR_has_66 : decode b_SR_has 66 = .ok (.iconst 1, 1) := by decide +kernel
theorem d_SR_has_67 : decode b_SR_has 67 = .ok (.iconst 1, 1) := by decide +kernel
theorem d_SR_has_68 : decode b_SR_has 68 = .ok (.invokevirtual 172, 3) := by decide +kernel
theorem d_SR_has_71 : decode b_SR_has 71 = .ok (.aload_n 0, 1) := by decide +kernel
theorem d_SR_has_72 : decode b_SR_has 72 = .ok (.getfield 51, 3) := by decide +kernel
theorem d_SR_has_75 : decode b_SR_has 75 = .ok (.invokevirtual 175, 3) := by decide +kernel
theorem d_SR_has_78 : decode b_SR_has 78 = .ok (.aload_n 0, 1) := by decide +kernel
theorem d_SR_has_79 : decode b_SR_has 79 = .ok (.getfield 42, 3) := by decide +kernel
theorem d_SR_has_82 : decode b_SR_has 82 = .ok (.iconst 0, 1) := by decide +kernel
theorem d_SR_has_83 : decode b_SR_has 83 = .ok (.invokevirtual 178, 3) := by decide +kernel
theorem d_SR_has_86 : decode b_SR_has 86 = .ok (.lconst 0, 1) := by decide +kernel
theorem d_SR_has_87 : decode b_SR_has 87 = .ok (.lcmp, 1) := by decide +kernel
theorem d_SR_has_88 : decode b_SR_has 88 = .ok (.ifCond .eq 7, 3) := by decide +kernel
theorem d_SR_has_91 : decode b_SR_has 91 = .ok (.iconst 1, 1) := by decide +kernel
theorem d_SR_has_92 : decode b_SR_has 92 = .ok (.goto 4, 3) := by decide +kernel
theorem d_SR_has_95 : decode b_SR_has 95 = .ok (.iconst 0, 1) := by decide +kernel
theorem d_SR_has_96 : decode b_SR_has 96 = .ok (.ireturn, 1) := by decide +kernel
theorem d_SR_row_0 : decode b_SR_row 0 = .ok (.iload_n 1, 1) := by decide +kernel
theorem d_SR_row_1 : decode b_SR_row 1 = .ok (.invokestatic 182, 3) := by decide +kernel
theorem d_SR_row_4 : decode b_SR_row 4 = .ok (.ifCond .ne 13, 3) := by decide +kernel
theorem d_SR_row_7 : decode b_SR_row 7 = .ok (.new 185, 3) := by decide +kernel
theorem d_SR_row_10 : decode b_SR_row 10 = .ok (.dup, 1) := by decide +kernel
theorem d_SR_row_11 : decode b_SR_row 11 = .ok (.ldc 187, 2) := by decide +kernel
theorem d_SR_row_13 : decode b_SR_row 13 = .ok (.invokespecial 189, 3) := by decide +kernel
theorem d_SR_row_16 : decode b_SR_row 16 = .ok (.athrow, 1) := by decide +kernel
theorem d_SR_row_17 : decode b_SR_row 17 = .ok (.aload_n 0, 1) := by decide +kernel
theorem d_SR_row_18 : decode b_SR_row 18 = .ok (.getfield 190, 3) := by decide +kernel
theorem d_SR_row_21 : decode b_SR_row 21 = .ok (.iload_n 1, 1) := by decide +kernel
theorem d_SR_row_22 : decode b_SR_row 22 = .ok (.lushr, 1) := by decide +kernel
theorem d_SR_row_23 : decode b_SR_row 23 = .ok (.lconst 1, 1) := by decide +kernel
theorem d_SR_row_24 : decode b_SR_row 24 = .ok (.land, 1) := by decide +kernel
theorem d_SR_row_25 : decode b_SR_row 25 = .ok (.lconst 0, 1) := by decide +kernel
theorem d_SR_row_26 : decode b_SR_row 26 = .ok (.lcmp, 1) := by decide +kernel
theorem d_SR_row_27 : decode b_SR_row 27 = .ok (.ifCond .ne 77, 3) := by decide +kernel
theorem d_SR_row_30 : decode b_SR_row 30 = .ok (.aload_n 0, 1) := by decide +kernel
theorem d_SR_row_31 : decode b_SR_row 31 = .ok (.getfield 35, 3) := by decide +kernel
theorem d_SR_row_34 : decode b_SR_row 34 = .ok (.invokevirtual 151, 3) := by decide +kernel
theorem d_SR_row_37 : decode b_SR_row 37 = .ok (.aload_n 0, 1) := by decide +kernel
theorem d_SR_row_38 : decode b_SR_row 38 = .ok (.getfield 42, 3) := by decide +kernel
theorem d_SR_row_41 : decode b_SR_row 41 = .ok (.sipush 512, 3) := by decide +kernel
theorem d_SR_row_44 : decode b_SR_row 44 = .ok (.sipush 1024, 3) := by decide +kernel
theorem d_SR_row_47 : decode b_SR_row 47 = .ok (.bipush 64, 2) := by decide +kernel
theorem d_SR_row_49 : decode b_SR_row 49 = .ok (.invokevirtual 168, 3) := by decide +kernel
theorem d_SR_row_52 : decode b_SR_row 52 = .ok (.aload_n 0, 1) := by decide +kernel
theorem d_SR_row_53 : decode b_SR_row 53 = .ok (.getfield 42, 3) := by decide +kernel
theorem d_SR_row_56 : decode b_SR_row 56 = .ok (.iload_n 1, 1) := by decide +kernel
theorem d_SR_row_57 : decode b_SR_row 57 = .ok (.invokestatic 194, 3) := by decide +kernel
theorem d_SR_row_60 : decode b_SR_row 60 = .ok (.sipush 512, 3) := by decide +kernel
theorem d_SR_row_63 : decode b_SR_row 63 = .ok (.iadd, 1) := by decide +kernel
theorem d_SR_row_64 : decode b_SR_row 64 = .ok (.sipush 1024, 3) := by decide +kernel
theorem d_SR_row_67 : decode b_SR_row 67 = .ok (.iconst 1, 1) := by decide +kernel
theorem d_SR_row_68 : decode b_SR_row 68 = .ok (.invokevirtual 172, 3) := by decide +kernel
theorem d_SR_row_71 : decode b_SR_row 71 = .ok (.aload_n 0, 1) := by decide +kernel
theorem d_SR_row_72 : decode b_SR_row 72 = .ok (.getfield 51, 3) := by decide +kernel
theorem d_SR_row_75 : decode b_SR_row 75 = .ok (.invokevirtual 175, 3) := by decide +kernel
theorem d_SR_row_78 : decode b_SR_row 78 = .ok (.aload_n 0, 1) := by decide +kernel
theorem d_SR_row_79 : decode b_SR_row 79 = .ok (.getfield 55, 3) := by decide +kernel
theorem d_SR_row_82 : decode b_SR_row 82 = .ok (.iload_n 1, 1) := by decide +kernel
theorem d_SR_row_83 : decode b_SR_row 83 = .ok (.aload_n 0, 1) := by decide +kernel
theorem d_SR_row_84 : decode b_SR_row 84 = .ok (.getfield 42, 3) := by decide +kernel
theorem d_SR_row_87 : decode b_SR_row 87 = .ok (.iconst 0, 1) := by decide +kernel
theorem d_SR_row_88 : decode b_SR_row 88 = .ok (.invokevirtual 178, 3) := by decide +kernel
theorem d_SR_row_91 : decode b_SR_row 91 = .ok (.lastore, 1) := by decide +kernel
theorem d_SR_row_92 : decode b_SR_row 92 = .ok (.aload_n 0, 1) := by decide +kernel
theorem d_SR_row_93 : decode b_SR_row 93 = .ok (.dup, 1) := by decide +kernel
theorem d_SR_row_94 : decode b_SR_row 94 = .ok (.getfield 190, 3) := by decide +kernel
theorem d_SR_row_97 : decode b_SR_row 97 = .ok (.lconst 1, 1) := by decide +kernel
theorem d_SR_row_98 : decode b_SR_row 98 = .ok (.iload_n 1, 1) := by decide +kernel
theorem d_SR_row_99 : decode b_SR_row 99 = .ok (.lshl, 1) := by decide +kernel
theorem d_SR_row_100 : decode b_SR_row 100 = .ok (.lor, 1) := by decide +kernel
theorem d_SR_row_101 : decode b_SR_row 101 = .ok (.putfield 190, 3) := by decide +kernel
theorem d_SR_row_104 : decode b_SR_row 104 = .ok (.aload_n 0, 1) := by decide +kernel
theorem d_SR_row_105 : decode b_SR_row 105 = .ok (.getfield 55, 3) := by decide +kernel
theorem d_SR_row_108 : decode b_SR_row 108 = .ok (.iload_n 1, 1) := by decide +kernel
theorem d_SR_row_109 : decode b_SR_row 109 = .ok (.laload, 1) := by decide +kernel
theorem d_SR_row_110 : decode b_SR_row 110 = .ok (.lreturn, 1) := by decide +kernel
theorem d_SR_share_0 : decode b_SR_share 0 = .ok (.iload_n 1, 1) := by decide +kernel
theorem d_SR_share_1 : decode b_SR_share 1 = .ok (.invokestatic 182, 3) := by decide +kernel
theorem d_SR_share_4 : decode b_SR_share 4 = .ok (.ifCond .eq 10, 3) := by decide +kernel
theorem d_SR_share_7 : decode b_SR_share 7 = .ok (.iload_n 2, 1) := by decide +kernel
theorem d_SR_share_8 : decode b_SR_share 8 = .ok (.invokestatic 182, 3) := by decide +kernel
theorem d_SR_share_11 : decode b_SR_share 11 = .ok (.ifCond .ne 13, 3) := by decide +kernel
theorem d_SR_share_14 : decode b_SR_share 14 = .ok (.new 185, 3) := by decide +kernel
theorem d_SR_share_17 : decode b_SR_share 17 = .ok (.dup, 1) := by decide +kernel
theorem d_SR_share_18 : decode b_SR_share 18 = .ok (.ldc 198, 2) := by decide +kernel
theorem d_SR_share_20 : decode b_SR_share 20 = .ok (.invokespecial 189, 3) := by decide +kernel
theorem d_SR_share_23 : decode b_SR_share 23 = .ok (.athrow, 1) := by decide +kernel
theorem d_SR_share_24 : decode b_SR_share 24 = .ok (.aload_n 0, 1) := by decide +kernel
theorem d_SR_share_25 : decode b_SR_share 25 = .ok (.getfield 35, 3) := by decide +kernel
theorem d_SR_share_28 : decode b_SR_share 28 = .ok (.invokevirtual 151, 3) := by decide +kernel
theorem d_SR_share_31 : decode b_SR_share 31 = .ok (.aload_n 0, 1) := by decide +kernel
theorem d_SR_share_32 : decode b_SR_share 32 = .ok (.getfield 42, 3) := by decide +kernel
theorem d_SR_share_35 : decode b_SR_share 35 = .ok (.sipush 1024, 3) := by decide +kernel
theorem d_SR_share_38 : decode b_SR_share 38 = .ok (.iload_n 1, 1) := by decide +kernel
theorem d_SR_share_39 : decode b_SR_share 39 = .ok (.imul, 1) := by decide +kernel
theorem d_SR_share_40 : decode b_SR_share 40 = .ok (.sipush 128, 3) := by decide +kernel
theorem d_SR_share_43 : decode b_SR_share 43 = .ok (.iadd, 1) := by decide +kernel
theorem d_SR_share_44 : decode b_SR_share 44 = .ok (.sipush 256, 3) := by decide +kernel
theorem d_SR_share_47 : decode b_SR_share 47 = .ok (.iconst 4, 1) := by decide +kernel
theorem d_SR_share_48 : decode b_SR_share 48 = .ok (.invokevirtual 168, 3) := by decide +kernel
theorem d_SR_share_51 : decode b_SR_share 51 = .ok (.aload_n 0, 1) := by decide +kernel
theorem d_SR_share_52 : decode b_SR_share 52 = .ok (.getfield 42, 3) := by decide +kernel
theorem d_SR_share_55 : decode b_SR_share 55 = .ok (.iload_n 2, 1) := by decide +kernel
theorem d_SR_share_56 : decode b_SR_share 56 = .ok (.invokestatic 194, 3) := by decide +kernel
theorem d_SR_share_59 : decode b_SR_share 59 = .ok (.sipush 128, 3) := by decide +kernel
theorem d_SR_share_62 : decode b_SR_share 62 = .ok (.iadd, 1) := by decide +kernel
theorem d_SR_share_63 : decode b_SR_share 63 = .ok (.sipush 256, 3) := by decide +kernel
theorem d_SR_share_66 : decode b_SR_share 66 = .ok (.iconst 4, 1) := by decide +kernel
theorem d_SR_share_67 : decode b_SR_share 67 = .ok (.invokevirtual 172, 3) := by decide +kernel
theorem d_SR_share_70 : decode b_SR_share 70 = .ok (.aload_n 0, 1) := by decide +kernel
theorem d_SR_share_71 : decode b_SR_share 71 = .ok (.getfield 51, 3) := by decide +kernel
theorem d_SR_share_74 : decode b_SR_share 74 = .ok (.invokevirtual 175, 3) := by decide +kernel
theorem d_SR_share_77 : decode b_SR_share 77 = .ok (.iconst 0, 1) := by decide +kernel
theorem d_SR_share_78 : decode b_SR_share 78 = .ok (.istore_n 3, 1) := by decide +kernel
theorem d_SR_share_79 : decode b_SR_share 79 = .ok (.iconst 0, 1) := by decide +kernel
theorem d_SR_share_80 : decode b_SR_share 80 = .ok (.istore 4, 2) := by decide +kernel
theorem d_SR_share_82 : decode b_SR_share 82 = .ok (.iload 4, 2) := by decide +kernel
theorem d_SR_share_84 : decode b_SR_share 84 = .ok (.iconst 4, 1) := by decide +kernel
theorem d_SR_share_85 : decode b_SR_share 85 = .ok (.if_icmp .ge 24, 3) := by decide +kernel
theorem d_SR_share_88 : decode b_SR_share 88 = .ok (.iload_n 3, 1) := by decide +kernel
theorem d_SR_share_89 : decode b_SR_share 89 = .ok (.aload_n 0, 1) := by decide +kernel
theorem d_SR_share_90 : decode b_SR_share 90 = .ok (.getfield 42, 3) := by decide +kernel
theorem d_SR_share_93 : decode b_SR_share 93 = .ok (.iload 4, 2) := by decide +kernel
theorem d_SR_share_95 : decode b_SR_share 95 = .ok (.invokevirtual 178, 3) := by decide +kernel
theorem d_SR_share_98 : decode b_SR_share 98 = .ok (.invokestatic 200, 3) := by decide +kernel
theorem d_SR_share_101 : decode b_SR_share 101 = .ok (.iadd, 1) := by decide +kernel
theorem d_SR_share_102 : decode b_SR_share 102 = .ok (.istore_n 3, 1) := by decide +kernel
theorem d_SR_share_103 : decode b_SR_share 103 = .ok (.iinc 4 1, 3) := by decide +kernel
theorem d_SR_share_106 : decode b_SR_share 106 = .ok (.goto (-24), 3) := by decide +kernel
theorem d_SR_share_109 : decode b_SR_share 109 = .ok (.iload_n 3, 1) := by decide +kernel
theorem d_SR_share_110 : decode b_SR_share 110 = .ok (.ireturn, 1) := by decide +kernel
theorem d_SR_isCoordinate_0 : decode b_SR_isCoordinate 0 = .ok (.iload_n 0, 1) := by decide +kernel
theorem d_SR_isCoordinate_1 : decode b_SR_isCoordinate 1 = .ok (.sipush (-8192), 3) := by decide +kernel
theorem d_SR_isCoordinate_4 : decode b_SR_isCoordinate 4 = .ok (.if_icmp .lt 14, 3) := by decide +kernel
theorem d_SR_isCoordinate_7 : decode b_SR_isCoordinate 7 = .ok (.iload_n 0, 1) := by decide +kernel
theorem d_SR_isCoordinate_8 : decode b_SR_isCoordinate 8 = .ok (.sipush 8191, 3) := by decide +kernel
theorem d_SR_isCoordinate_11 : decode b_SR_isCoordinate 11 = .ok (.if_icmp .gt 7, 3) := by decide +kernel
theorem d_SR_isCoordinate_14 : decode b_SR_isCoordinate 14 = .ok (.iconst 1, 1) := by decide +kernel
theorem d_SR_isCoordinate_15 : decode b_SR_isCoordinate 15 = .ok (.goto 4, 3) := by decide +kernel
theorem d_SR_isCoordinate_18 : decode b_SR_isCoordinate 18 = .ok (.iconst 0, 1) := by decide +kernel
theorem d_SR_isCoordinate_19 : decode b_SR_isCoordinate 19 = .ok (.ireturn, 1) := by decide +kernel
theorem d_SR_isInPicture_0 : decode b_SR_isInPicture 0 = .ok (.iload_n 0, 1) := by decide +kernel
theorem d_SR_isInPicture_1 : decode b_SR_isInPicture 1 = .ok (.ifCond .lt 13, 3) := by decide +kernel
theorem d_SR_isInPicture_4 : decode b_SR_isInPicture 4 = .ok (.iload_n 0, 1) := by decide +kernel
theorem d_SR_isInPicture_5 : decode b_SR_isInPicture 5 = .ok (.bipush 64, 2) := by decide +kernel
theorem d_SR_isInPicture_7 : decode b_SR_isInPicture 7 = .ok (.if_icmp .ge 7, 3) := by decide +kernel
theorem d_SR_isInPicture_10 : decode b_SR_isInPicture 10 = .ok (.iconst 1, 1) := by decide +kernel
theorem d_SR_isInPicture_11 : decode b_SR_isInPicture 11 = .ok (.goto 4, 3) := by decide +kernel
theorem d_SR_isInPicture_14 : decode b_SR_isInPicture 14 = .ok (.iconst 0, 1) := by decide +kernel
theorem d_SR_isInPicture_15 : decode b_SR_isInPicture 15 = .ok (.ireturn, 1) := by decide +kernel
theorem d_SR_bottom_0 : decode b_SR_bottom 0 = .ok (.sipush 1024, 3) := by decide +kernel
theorem d_SR_bottom_3 : decode b_SR_bottom 3 = .ok (.bipush 63, 2) := by decide +kernel
theorem d_SR_bottom_5 : decode b_SR_bottom 5 = .ok (.iload_n 0, 1) := by decide +kernel
theorem d_SR_bottom_6 : decode b_SR_bottom 6 = .ok (.isub, 1) := by decide +kernel
theorem d_SR_bottom_7 : decode b_SR_bottom 7 = .ok (.imul, 1) := by decide +kernel
theorem d_SR_bottom_8 : decode b_SR_bottom 8 = .ok (.ireturn, 1) := by decide +kernel
theorem d_SR_forget_0 : decode b_SR_forget 0 = .ok (.aload_n 0, 1) := by decide +kernel
theorem d_SR_forget_1 : decode b_SR_forget 1 = .ok (.getfield 35, 3) := by decide +kernel
theorem d_SR_forget_4 : decode b_SR_forget 4 = .ok (.invokevirtual 206, 3) := by decide +kernel
theorem d_SR_forget_7 : decode b_SR_forget 7 = .ok (.aload_n 0, 1) := by decide +kernel
theorem d_SR_forget_8 : decode b_SR_forget 8 = .ok (.lconst 0, 1) := by decide +kernel
theorem d_SR_forget_9 : decode b_SR_forget 9 = .ok (.putfield 190, 3) := by decide +kernel
theorem d_SR_forget_12 : decode b_SR_forget 12 = .ok (.return_, 1) := by decide +kernel
theorem d_SR_countSet_0 : decode b_SR_countSet 0 = .ok (.iconst 0, 1) := by decide +kernel
theorem d_SR_countSet_1 : decode b_SR_countSet 1 = .ok (.istore_n 1, 1) := by decide +kernel
theorem d_SR_countSet_2 : decode b_SR_countSet 2 = .ok (.iconst 0, 1) := by decide +kernel
theorem d_SR_countSet_3 : decode b_SR_countSet 3 = .ok (.istore_n 2, 1) := by decide +kernel
theorem d_SR_countSet_4 : decode b_SR_countSet 4 = .ok (.iload_n 2, 1) := by decide +kernel
theorem d_SR_countSet_5 : decode b_SR_countSet 5 = .ok (.bipush 64, 2) := by decide +kernel
theorem d_SR_countSet_7 : decode b_SR_countSet 7 = .ok (.if_icmp .ge 21, 3) := by decide +kernel
theorem d_SR_countSet_10 : decode b_SR_countSet 10 = .ok (.iload_n 1, 1) := by decide +kernel
theorem d_SR_countSet_11 : decode b_SR_countSet 11 = .ok (.aload_n 0, 1) := by decide +kernel
theorem d_SR_countSet_12 : decode b_SR_countSet 12 = .ok (.getfield 55, 3) := by decide +kernel
theorem d_SR_countSet_15 : decode b_SR_countSet 15 = .ok (.iload_n 2, 1) := by decide +kernel
theorem d_SR_countSet_16 : decode b_SR_countSet 16 = .ok (.laload, 1) := by decide +kernel
theorem d_SR_countSet_17 : decode b_SR_countSet 17 = .ok (.invokestatic 200, 3) := by decide +kernel
theorem d_SR_countSet_20 : decode b_SR_countSet 20 = .ok (.iadd, 1) := by decide +kernel
theorem d_SR_countSet_21 : decode b_SR_countSet 21 = .ok (.istore_n 1, 1) := by decide +kernel
theorem d_SR_countSet_22 : decode b_SR_countSet 22 = .ok (.iinc 2 1, 3) := by decide +kernel
theorem d_SR_countSet_25 : decode b_SR_countSet 25 = .ok (.goto (-21), 3) := by decide +kernel
theorem d_SR_countSet_28 : decode b_SR_countSet 28 = .ok (.iload_n 1, 1) := by decide +kernel
theorem d_SR_countSet_29 : decode b_SR_countSet 29 = .ok (.ireturn, 1) := by decide +kernel
theorem d_SR_paintPicture_0 : decode b_SR_paintPicture 0 = .ok (.aload_n 0, 1) := by decide +kernel
theorem d_SR_paintPicture_1 : decode b_SR_paintPicture 1 = .ok (.getfield 190, 3) := by decide +kernel
theorem d_SR_paintPicture_4 : decode b_SR_paintPicture 4 = .ok (.ldc2_w 207, 3) := by decide +kernel
theorem d_SR_paintPicture_7 : decode b_SR_paintPicture 7 = .ok (.lcmp, 1) := by decide +kernel
theorem d_SR_paintPicture_8 : decode b_SR_paintPicture 8 = .ok (.ifCond .ne 4, 3) := by decide +kernel
theorem d_SR_paintPicture_11 : decode b_SR_paintPicture 11 = .ok (.return_, 1) := by decide +kernel
theorem d_SR_paintPicture_12 : decode b_SR_paintPicture 12 = .ok (.aload_n 0, 1) := by decide +kernel
theorem d_SR_paintPicture_13 : decode b_SR_paintPicture 13 = .ok (.getfield 42, 3) := by decide +kernel
theorem d_SR_paintPicture_16 : decode b_SR_paintPicture 16 = .ok (.sipush 512, 3) := by decide +kernel
theorem d_SR_paintPicture_19 : decode b_SR_paintPicture 19 = .ok (.sipush 1024, 3) := by decide +kernel
theorem d_SR_paintPicture_22 : decode b_SR_paintPicture 22 = .ok (.bipush 64, 2) := by decide +kernel
theorem d_SR_paintPicture_24 : decode b_SR_paintPicture 24 = .ok (.invokevirtual 168, 3) := by decide +kernel
theorem d_SR_paintPicture_27 : decode b_SR_paintPicture 27 = .ok (.aload_n 0, 1) := by decide +kernel
theorem d_SR_paintPicture_28 : decode b_SR_paintPicture 28 = .ok (.getfield 42, 3) := by decide +kernel
theorem d_SR_paintPicture_31 : decode b_SR_paintPicture 31 = .ok (.sipush 512, 3) := by decide +kernel
theorem d_SR_paintPicture_34 : decode b_SR_paintPicture 34 = .ok (.sipush 1024, 3) := by decide +kernel
theorem d_SR_paintPicture_37 : decode b_SR_paintPicture 37 = .ok (.bipush 64, 2) := by decide +kernel
theorem d_SR_paintPicture_39 : decode b_SR_paintPicture 39 = .ok (.invokevirtual 172, 3) := by decide +kernel
theorem d_SR_paintPicture_42 : decode b_SR_paintPicture 42 = .ok (.aload_n 0, 1) := by decide +kernel
theorem d_SR_paintPicture_43 : decode b_SR_paintPicture 43 = .ok (.getfield 51, 3) := by decide +kernel
theorem d_SR_paintPicture_46 : decode b_SR_paintPicture 46 = .ok (.invokevirtual 175, 3) := by decide +kernel
theorem d_SR_paintPicture_49 : decode b_SR_paintPicture 49 = .ok (.iconst 0, 1) := by decide +kernel
theorem d_SR_paintPicture_50 : decode b_SR_paintPicture 50 = .ok (.istore_n 1, 1) := by decide +kernel
theorem d_SR_paintPicture_51 : decode b_SR_paintPicture 51 = .ok (.iload_n 1, 1) := by decide +kernel
theorem d_SR_paintPicture_52 : decode b_SR_paintPicture 52 = .ok (.bipush 64, 2) := by decide +kernel
theorem d_SR_paintPicture_54 : decode b_SR_paintPicture 54 = .ok (.if_icmp .ge 26, 3) := by decide +kernel
theorem d_SR_paintPicture_57 : decode b_SR_paintPicture 57 = .ok (.aload_n 0, 1) := by decide +kernel
theorem d_SR_paintPicture_58 : decode b_SR_paintPicture 58 = .ok (.getfield 55, 3) := by decide +kernel
theorem d_SR_paintPicture_61 : decode b_SR_paintPicture 61 = .ok (.iload_n 1, 1) := by decide +kernel
theorem d_SR_paintPicture_62 : decode b_SR_paintPicture 62 = .ok (.aload_n 0, 1) := by decide +kernel
theorem d_SR_paintPicture_63 : decode b_SR_paintPicture 63 = .ok (.getfield 42, 3) := by decide +kernel
theorem d_SR_paintPicture_66 : decode b_SR_paintPicture 66 = .ok (.bipush 63, 2) := by decide +kernel
theorem d_SR_paintPicture_68 : decode b_SR_paintPicture 68 = .ok (.iload_n 1, 1) := by decide +kernel
theorem d_SR_paintPicture_69 : decode b_SR_paintPicture 69 = .ok (.isub, 1) := by decide +kernel
theorem d_SR_paintPicture_70 : decode b_SR_paintPicture 70 = .ok (.invokevirtual 178, 3) := by decide +kernel
theorem d_SR_paintPicture_73 : decode b_SR_paintPicture 73 = .ok (.lastore, 1) := by decide +kernel
theorem d_SR_paintPicture_74 : decode b_SR_paintPicture 74 = .ok (.iinc 1 1, 3) := by decide +kernel
theorem d_SR_paintPicture_77 : decode b_SR_paintPicture 77 = .ok (.goto (-26), 3) := by decide +kernel
theorem d_SR_paintPicture_80 : decode b_SR_paintPicture 80 = .ok (.aload_n 0, 1) := by decide +kernel
theorem d_SR_paintPicture_81 : decode b_SR_paintPicture 81 = .ok (.ldc2_w 207, 3) := by decide +kernel
theorem d_SR_paintPicture_84 : decode b_SR_paintPicture 84 = .ok (.putfield 190, 3) := by decide +kernel
theorem d_SR_paintPicture_87 : decode b_SR_paintPicture 87 = .ok (.return_, 1) := by decide +kernel
theorem d_SR_root_0 : decode b_SR_root 0 = .ok (.lconst 0, 1) := by decide +kernel
theorem d_SR_root_1 : decode b_SR_root 1 = .ok (.lstore_n 2, 1) := by decide +kernel
theorem d_SR_root_2 : decode b_SR_root 2 = .ok (.ldc2_w 209, 3) := by decide +kernel
theorem d_SR_root_5 : decode b_SR_root 5 = .ok (.lstore 4, 2) := by decide +kernel
theorem d_SR_root_7 : decode b_SR_root 7 = .ok (.lload 4, 2) := by decide +kernel
theorem d_SR_root_9 : decode b_SR_root 9 = .ok (.lconst 0, 1) := by decide +kernel
theorem d_SR_root_10 : decode b_SR_root 10 = .ok (.lcmp, 1) := by decide +kernel
theorem d_SR_root_11 : decode b_SR_root 11 = .ok (.ifCond .le 31, 3) := by decide +kernel
theorem d_SR_root_14 : decode b_SR_root 14 = .ok (.lload_n 2, 1) := by decide +kernel
theorem d_SR_root_15 : decode b_SR_root 15 = .ok (.lload 4, 2) := by decide +kernel
theorem d_SR_root_17 : decode b_SR_root 17 = .ok (.ladd, 1) := by decide +kernel
theorem d_SR_root_18 : decode b_SR_root 18 = .ok (.lstore 6, 2) := by decide +kernel
theorem d_SR_root_20 : decode b_SR_root 20 = .ok (.lload 6, 2) := by decide +kernel
theorem d_SR_root_22 : decode b_SR_root 22 = .ok (.lload 6, 2) := by decide +kernel
theorem d_SR_root_24 : decode b_SR_root 24 = .ok (.lmul, 1) := by decide +kernel
theorem d_SR_root_25 : decode b_SR_root 25 = .ok (.lload_n 0, 1) := by decide +kernel
theorem d_SR_root_26 : decode b_SR_root 26 = .ok (.lcmp, 1) := by decide +kernel
theorem d_SR_root_27 : decode b_SR_root 27 = .ok (.ifCond .gt 6, 3) := by decide +kernel
theorem d_SR_root_30 : decode b_SR_root 30 = .ok (.lload 6, 2) := by decide +kernel
theorem d_SR_root_32 : decode b_SR_root 32 = .ok (.lstore_n 2, 1) := by decide +kernel
theorem d_SR_root_33 : decode b_SR_root 33 = .ok (.lload 4, 2) := by decide +kernel
theorem d_SR_root_35 : decode b_SR_root 35 = .ok (.iconst 1, 1) := by decide +kernel
theorem d_SR_root_36 : decode b_SR_root 36 = .ok (.lshr, 1) := by decide +kernel
theorem d_SR_root_37 : decode b_SR_root 37 = .ok (.lstore 4, 2) := by decide +kernel
theorem d_SR_root_39 : decode b_SR_root 39 = .ok (.goto (-32), 3) := by decide +kernel
theorem d_SR_root_42 : decode b_SR_root 42 = .ok (.lload_n 2, 1) := by decide +kernel
theorem d_SR_root_43 : decode b_SR_root 43 = .ok (.lreturn, 1) := by decide +kernel
theorem d_Grid_init_0 : decode b_Grid_init 0 = .ok (.aload_n 0, 1) := by decide +kernel
theorem d_Grid_init_1 : decode b_Grid_init 1 = .ok (.invokespecial 3, 3) := by decide +kernel
theorem d_Grid_init_4 : decode b_Grid_init 4 = .ok (.aload_n 0, 1) := by decide +kernel
theorem d_Grid_init_5 : decode b_Grid_init 5 = .ok (.bipush 64, 2) := by decide +kernel
theorem d_Grid_init_7 : decode b_Grid_init 7 = .ok (.newarray .long, 2) := by decide +kernel
theorem d_Grid_init_9 : decode b_Grid_init 9 = .ok (.putfield 9, 3) := by decide +kernel
theorem d_Grid_init_12 : decode b_Grid_init 12 = .ok (.aload_n 0, 1) := by decide +kernel
theorem d_Grid_init_13 : decode b_Grid_init 13 = .ok (.iconst 1, 1) := by decide +kernel
theorem d_Grid_init_14 : decode b_Grid_init 14 = .ok (.putfield 15, 3) := by decide +kernel
theorem d_Grid_init_17 : decode b_Grid_init 17 = .ok (.aload_n 0, 1) := by decide +kernel
theorem d_Grid_init_18 : decode b_Grid_init 18 = .ok (.iconst 1, 1) := by decide +kernel
theorem d_Grid_init_19 : decode b_Grid_init 19 = .ok (.putfield 19, 3) := by decide +kernel
theorem d_Grid_init_22 : decode b_Grid_init 22 = .ok (.aload_n 0, 1) := by decide +kernel
theorem d_Grid_init_23 : decode b_Grid_init 23 = .ok (.iconst 1, 1) := by decide +kernel
theorem d_Grid_init_24 : decode b_Grid_init 24 = .ok (.putfield 22, 3) := by decide +kernel
theorem d_Grid_init_27 : decode b_Grid_init 27 = .ok (.aload_n 0, 1) := by decide +kernel
theorem d_Grid_init_28 : decode b_Grid_init 28 = .ok (.iconst 1, 1) := by decide +kernel
theorem d_Grid_init_29 : decode b_Grid_init 29 = .ok (.putfield 25, 3) := by decide +kernel
theorem d_Grid_init_32 : decode b_Grid_init 32 = .ok (.aload_n 0, 1) := by decide +kernel
theorem d_Grid_init_33 : decode b_Grid_init 33 = .ok (.lconst 1, 1) := by decide +kernel
theorem d_Grid_init_34 : decode b_Grid_init 34 = .ok (.putfield 28, 3) := by decide +kernel
theorem d_Grid_init_37 : decode b_Grid_init 37 = .ok (.aload_n 0, 1) := by decide +kernel
theorem d_Grid_init_38 : decode b_Grid_init 38 = .ok (.iconst 4, 1) := by decide +kernel
theorem d_Grid_init_39 : decode b_Grid_init 39 = .ok (.newarray .long, 2) := by decide +kernel
theorem d_Grid_init_41 : decode b_Grid_init 41 = .ok (.putfield 32, 3) := by decide +kernel
theorem d_Grid_init_44 : decode b_Grid_init 44 = .ok (.aload_n 0, 1) := by decide +kernel
theorem d_Grid_init_45 : decode b_Grid_init 45 = .ok (.iconst 4, 1) := by decide +kernel
theorem d_Grid_init_46 : decode b_Grid_init 46 = .ok (.newarray .long, 2) := by decide +kernel
theorem d_Grid_init_48 : decode b_Grid_init 48 = .ok (.putfield 35, 3) := by decide +kernel
theorem d_Grid_init_51 : decode b_Grid_init 51 = .ok (.return_, 1) := by decide +kernel
theorem d_Grid_across_0 : decode b_Grid_across 0 = .ok (.aload_n 0, 1) := by decide +kernel
theorem d_Grid_across_1 : decode b_Grid_across 1 = .ok (.iload_n 1, 1) := by decide +kernel
theorem d_Grid_across_2 : decode b_Grid_across 2 = .ok (.putfield 38, 3) := by decide +kernel
theorem d_Grid_across_5 : decode b_Grid_across 5 = .ok (.aload_n 0, 1) := by decide +kernel
theorem d_Grid_across_6 : decode b_Grid_across 6 = .ok (.iconst 1, 1) := by decide +kernel
theorem d_Grid_across_7 : decode b_Grid_across 7 = .ok (.iload_n 2, 1) := by decide +kernel
theorem d_Grid_across_8 : decode b_Grid_across 8 = .ok (.invokestatic 41, 3) := by decide +kernel
theorem d_Grid_across_11 : decode b_Grid_across 11 = .ok (.putfield 15, 3) := by decide +kernel
theorem d_Grid_across_14 : decode b_Grid_across 14 = .ok (.aload_n 0, 1) := by decide +kernel
theorem d_Grid_across_15 : decode b_Grid_across 15 = .ok (.iconst 1, 1) := by decide +kernel
theorem d_Grid_across_16 : decode b_Grid_across 16 = .ok (.bipush 64, 2) := by decide +kernel
theorem d_Grid_across_18 : decode b_Grid_across 18 = .ok (.iload_n 3, 1) := by decide +kernel
theorem d_Grid_across_19 : decode b_Grid_across 19 = .ok (.invokestatic 47, 3) := by decide +kernel
theorem d_Grid_across_22 : decode b_Grid_across 22 = .ok (.invokestatic 41, 3) := by decide +kernel
theorem d_Grid_across_25 : decode b_Grid_across 25 = .ok (.putfield 19, 3) := by decide +kernel
theorem d_Grid_across_28 : decode b_Grid_across 28 = .ok (.aload_n 0, 1) := by decide +kernel
theorem d_Grid_across_29 : decode b_Grid_across 29 = .ok (.lconst 0, 1) := by decide +kernel
theorem d_Grid_across_30 : decode b_Grid_across 30 = .ok (.aload_n 0, 1) := by decide +kernel
theorem d_Grid_across_31 : decode b_Grid_across 31 = .ok (.getfield 19, 3) := by decide +kernel
theorem d_Grid_across_34 : decode b_Grid_across 34 = .ok (.iconst 1, 1) := by decide +kernel
theorem d_Grid_across_35 : decode b_Grid_across 35 = .ok (.isub, 1) := by decide +kernel
theorem d_Grid_across_36 : decode b_Grid_across 36 = .ok (.i2l, 1) := by decide +kernel
theorem d_Grid_across_37 : decode b_Grid_across 37 = .ok (.invokestatic 50, 3) := by decide +kernel
theorem d_Grid_across_40 : decode b_Grid_across 40 = .ok (.putfield 28, 3) := by decide +kernel
theorem d_Grid_across_43 : decode b_Grid_across 43 = .ok (.return_, 1) := by decide +kernel
theorem d_Grid_upwards_0 : decode b_Grid_upwards 0 = .ok (.aload_n 0, 1) := by decide +kernel
theorem d_Grid_upwards_1 : decode b_Grid_upwards 1 = .ok (.iload_n 1, 1) := by decide +kernel
theorem d_Grid_upwards_2 : decode b_Grid_upwards 2 = .ok (.putfield 54, 3) := by decide +kernel
theorem d_Grid_upwards_5 : decode b_Grid_upwards 5 = .ok (.aload_n 0, 1) := by decide +kernel
theorem d_Grid_upwards_6 : decode b_Grid_upwards 6 = .ok (.iconst 1, 1) := by decide +kernel
theorem d_Grid_upwards_7 : decode b_Grid_upwards 7 = .ok (.iload_n 2, 1) := by decide +kernel
theorem d_Grid_upwards_8 : decode b_Grid_upwards 8 = .ok (.invokestatic 41, 3) := by decide +kernel
theorem d_Grid_upwards_11 : decode b_Grid_upwards 11 = .ok (.putfield 22, 3) := by decide +kernel
theorem d_Grid_upwards_14 : decode b_Grid_upwards 14 = .ok (.aload_n 0, 1) := by decide +kernel
theorem d_Grid_upwards_15 : decode b_Grid_upwards 15 = .ok (.iconst 1, 1) := by decide +kernel
theorem d_Grid_upwards_16 : decode b_Grid_upwards 16 = .ok (.bipush 64, 2) := by decide +kernel
theorem d_Grid_upwards_18 : decode b_Grid_upwards 18 = .ok (.iload_n 3, 1) := by decide +kernel
theorem d_Grid_upwards_19 : decode b_Grid_upwards 19 = .ok (.invokestatic 47, 3) := by decide +kernel
theorem d_Grid_upwards_22 : decode b_Grid_upwards 22 = .ok (.invokestatic 41, 3) := by decide +kernel
theorem d_Grid_upwards_25 : decode b_Grid_upwards 25 = .ok (.putfield 25, 3) := by decide +kernel
theorem d_Grid_upwards_28 : decode b_Grid_upwards 28 = .ok (.aload_n 0, 1) := by decide +kernel
theorem d_Grid_upwards_29 : decode b_Grid_upwards 29 = .ok (.iconst 0, 1) := by decide +kernel
theorem d_Grid_upwards_30 : decode b_Grid_upwards 30 = .ok (.putfield 57, 3) := by decide +kernel
theorem d_Grid_upwards_33 : decode b_Grid_upwards 33 = .ok (.aload_n 0, 1) := by decide +kernel
theorem d_Grid_upwards_34 : decode b_Grid_upwards 34 = .ok (.getfield 9, 3) := by decide +kernel
theorem d_Grid_upwards_37 : decode b_Grid_upwards 37 = .ok (.lconst 0, 1) := by decide +kernel
theorem d_Grid_upwards_38 : decode b_Grid_upwards 38 = .ok (.invokestatic 60, 3) := by decide +kernel
theorem d_Grid_upwards_41 : decode b_Grid_upwards 41 = .ok (.return_, 1) := by decide +kernel
theorem d_Grid_bits_0 : decode b_Grid_bits 0 = .ok (.iload_n 1, 1) := by decide +kernel
theorem d_Grid_bits_1 : decode b_Grid_bits 1 = .ok (.ifCond .lt 20, 3) := by decide +kernel
theorem d_Grid_bits_4 : decode b_Grid_bits 4 = .ok (.iload_n 1, 1) := by decide +kernel
theorem d_Grid_bits_5 : decode b_Grid_bits 5 = .ok (.aload_n 0, 1) := by decide +kernel
theorem d_Grid_bits_6 : decode b_Grid_bits 6 = .ok (.getfield 25, 3) := by decide +kernel
theorem d_Grid_bits_9 : decode b_Grid_bits 9 = .ok (.if_icmp .ge 12, 3) := by decide +kernel
theorem d_Grid_bits_12 : decode b_Grid_bits 12 = .ok (.aload_n 0, 1) := by decide +kernel
theorem d_Grid_bits_13 : decode b_Grid_bits 13 = .ok (.getfield 9, 3) := by decide +kernel
theorem d_Grid_bits_16 : decode b_Grid_bits 16 = .ok (.iload_n 1, 1) := by decide +kernel
theorem d_Grid_bits_17 : decode b_Grid_bits 17 = .ok (.laload, 1) := by decide +kernel
theorem d_Grid_bits_18 : decode b_Grid_bits 18 = .ok (.goto 4, 3) := by decide +kernel
theorem d_Grid_bits_21 : decode b_Grid_bits 21 = .ok (.lconst 0, 1) := by decide +kernel
theorem d_Grid_bits_22 : decode b_Grid_bits 22 = .ok (.lreturn, 1) := by decide +kernel
theorem d_Grid_isFilled_0 : decode b_Grid_isFilled 0 = .ok (.aload_n 0, 1) := by decide +kernel
theorem d_Grid_isFilled_1 : decode b_Grid_isFilled 1 = .ok (.getfield 57, 3) := by decide +kernel
theorem d_Grid_isFilled_4 : decode b_Grid_isFilled 4 = .ok (.istore_n 1, 1) := by decide +kernel
theorem d_Grid_isFilled_5 : decode b_Grid_isFilled 5 = .ok (.iload_n 1, 1) := by decide +kernel
theorem d_Grid_isFilled_6 : decode b_Grid_isFilled 6 = .ok (.aload_n 0, 1) := by decide +kernel
theorem d_Grid_isFilled_7 : decode b_Grid_isFilled 7 = .ok (.getfield 25, 3) := by decide +kernel
theorem d_Grid_isFilled_10 : decode b_Grid_isFilled 10 = .ok (.if_icmp .ge 30, 3) := by decide +kernel
theorem d_Grid_isFilled_13 : decode b_Grid_isFilled 13 = .ok (.aload_n 0, 1) := by decide +kernel
theorem d_Grid_isFilled_14 : decode b_Grid_isFilled 14 = .ok (.getfield 9, 3) := by decide +kernel
theorem d_Grid_isFilled_17 : decode b_Grid_isFilled 17 = .ok (.iload_n 1, 1) := by decide +kernel
theorem d_Grid_isFilled_18 : decode b_Grid_isFilled 18 = .ok (.laload, 1) := by decide +kernel
theorem d_Grid_isFilled_19 : decode b_Grid_isFilled 19 = .ok (.aload_n 0, 1) := by decide +kernel
theorem d_Grid_isFilled_20 : decode b_Grid_isFilled 20 = .ok (.getfield 28, 3) := by decide +kernel
theorem d_Grid_isFilled_23 : decode b_Grid_isFilled 23 = .ok (.lcmp, 1) := by decide +kernel
theorem d_Grid_isFilled_24 : decode b_Grid_isFilled 24 = .ok (.ifCond .ne 16, 3) := by decide +kernel
theorem d_Grid_isFilled_27 : decode b_Grid_isFilled 27 = .ok (.aload_n 0, 1) := by decide +kernel
theorem d_Grid_isFilled_28 : decode b_Grid_isFilled 28 = .ok (.iload_n 1, 1) := by decide +kernel
theorem d_Grid_isFilled_29 : decode b_Grid_isFilled 29 = .ok (.iconst 1, 1) := by decide +kernel
theorem d_Grid_isFilled_30 : decode b_Grid_isFilled 30 = .ok (.iadd, 1) := by decide +kernel
theorem d_Grid_isFilled_31 : decode b_Grid_isFilled 31 = .ok (.putfield 57, 3) := by decide +kernel
theorem d_Grid_isFilled_34 : decode b_Grid_isFilled 34 = .ok (.iinc 1 1, 3) := by decide +kernel
theorem d_Grid_isFilled_37 : decode b_Grid_isFilled 37 = .ok (.goto (-32), 3) := by decide +kernel
theorem d_Grid_isFilled_40 : decode b_Grid_isFilled 40 = .ok (.aload_n 0, 1) := by decide +kernel
theorem d_Grid_isFilled_41 : decode b_Grid_isFilled 41 = .ok (.getfield 57, 3) := by decide +kernel
theorem d_Grid_isFilled_44 : decode b_Grid_isFilled 44 = .ok (.aload_n 0, 1) := by decide +kernel
theorem d_Grid_isFilled_45 : decode b_Grid_isFilled 45 = .ok (.getfield 25, 3) := by decide +kernel
theorem d_Grid_isFilled_48 : decode b_Grid_isFilled 48 = .ok (.if_icmp .lt 7, 3) := by decide +kernel
theorem d_Grid_isFilled_51 : decode b_Grid_isFilled 51 = .ok (.iconst 1, 1) := by decide +kernel
theorem d_Grid_isFilled_52 : decode b_Grid_isFilled 52 = .ok (.goto 4, 3) := by decide +kernel
theorem d_Grid_isFilled_55 : decode b_Grid_isFilled 55 = .ok (.iconst 0, 1) := by decide +kernel
theorem d_Grid_isFilled_56 : decode b_Grid_isFilled 56 = .ok (.ireturn, 1) := by decide +kernel
theorem d_Grid_meets_0 : decode b_Grid_meets 0 = .ok (.lload_n 3, 1) := by decide +kernel
theorem d_Grid_meets_1 : decode b_Grid_meets 1 = .ok (.aload_n 0, 1) := by decide +kernel
theorem d_Grid_meets_2 : decode b_Grid_meets 2 = .ok (.getfield 38, 3) := by decide +kernel
theorem d_Grid_meets_5 : decode b_Grid_meets 5 = .ok (.i2l, 1) := by decide +kernel
theorem d_Grid_meets_6 : decode b_Grid_meets 6 = .ok (.lcmp, 1) := by decide +kernel
theorem d_Grid_meets_7 : decode b_Grid_meets 7 = .ok (.ifCond .lt 63, 3) := by decide +kernel
theorem d_Grid_meets_10 : decode b_Grid_meets 10 = .ok (.lload_n 1, 1) := by decide +kernel
theorem d_Grid_meets_11 : decode b_Grid_meets 11 = .ok (.aload_n 0, 1) := by decide +kernel
theorem d_Grid_meets_12 : decode b_Grid_meets 12 = .ok (.getfield 38, 3) := by decide +kernel
theorem d_Grid_meets_15 : decode b_Grid_meets 15 = .ok (.aload_n 0, 1) := by decide +kernel
theorem d_Grid_meets_16 : decode b_Grid_meets 16 = .ok (.getfield 19, 3) := by decide +kernel
theorem d_Grid_meets_19 : decode b_Grid_meets 19 = .ok (.iconst 1, 1) := by decide +kernel
theorem d_Grid_meets_20 : decode b_Grid_meets 20 = .ok (.isub, 1) := by decide +kernel
theorem d_Grid_meets_21 : decode b_Grid_meets 21 = .ok (.aload_n 0, 1) := by decide +kernel
theorem d_Grid_meets_22 : decode b_Grid_meets 22 = .ok (.getfield 15, 3) := by decide +kernel
theorem d_Grid_meets_25 : decode b_Grid_meets 25 = .ok (.imul, 1) := by decide +kernel
theorem d_Grid_meets_26 : decode b_Grid_meets 26 = .ok (.iadd, 1) := by decide +kernel
theorem d_Grid_meets_27 : decode b_Grid_meets 27 = .ok (.i2l, 1) := by decide +kernel
theorem d_Grid_meets_28 : decode b_Grid_meets 28 = .ok (.lcmp, 1) := by decide +kernel
theorem d_Grid_meets_29 : decode b_Grid_meets 29 = .ok (.ifCond .gt 41, 3) := by decide +kernel
theorem d_Grid_meets_32 : decode b_Grid_meets 32 = .ok (.lload 7, 2) := by decide +kernel
theorem d_Grid_meets_34 : decode b_Grid_meets 34 = .ok (.aload_n 0, 1) := by decide +kernel
theorem d_Grid_meets_35 : decode b_Grid_meets 35 = .ok (.getfield 54, 3) := by decide +kernel
theorem d_Grid_meets_38 : decode b_Grid_meets 38 = .ok (.i2l, 1) := by decide +kernel
theorem d_Grid_meets_39 : decode b_Grid_meets 39 = .ok (.lcmp, 1) := by decide +kernel
theorem d_Grid_meets_40 : decode b_Grid_meets 40 = .ok (.ifCond .lt 30, 3) := by decide +kernel
theorem d_Grid_meets_43 : decode b_Grid_meets 43 = .ok (.lload 5, 2) := by decide +kernel
theorem d_Grid_meets_45 : decode b_Grid_meets 45 = .ok (.aload_n 0, 1) := by decide +kernel
theorem d_Grid_meets_46 : decode b_Grid_meets 46 = .ok (.getfield 54, 3) := by decide +kernel
theorem d_Grid_meets_49 : decode b_Grid_meets 49 = .ok (.aload_n 0, 1) := by decide +kernel
theorem d_Grid_meets_50 : decode b_Grid_meets 50 = .ok (.getfield 25, 3) := by decide +kernel
theorem d_Grid_meets_53 : decode b_Grid_meets 53 = .ok (.iconst 1, 1) := by decide +kernel
theorem d_Grid_meets_54 : decode b_Grid_meets 54 = .ok (.isub, 1) := by decide +kernel
theorem d_Grid_meets_55 : decode b_Grid_meets 55 = .ok (.aload_n 0, 1) := by decide +kernel
theorem d_Grid_meets_56 : decode b_Grid_meets 56 = .ok (.getfield 22, 3) := by decide +kernel
theorem d_Grid_meets_59 : decode b_Grid_meets 59 = .ok (.imul, 1) := by decide +kernel
theorem d_Grid_meets_60 : decode b_Grid_meets 60 = .ok (.iadd, 1) := by decide +kernel
theorem d_Grid_meets_61 : decode b_Grid_meets 61 = .ok (.i2l, 1) := by decide +kernel
theorem d_Grid_meets_62 : decode b_Grid_meets 62 = .ok (.lcmp, 1) := by decide +kernel
theorem d_Grid_meets_63 : decode b_Grid_meets 63 = .ok (.ifCond .gt 7, 3) := by decide +kernel
theorem d_Grid_meets_66 : decode b_Grid_meets 66 = .ok (.iconst 1, 1) := by decide +kernel
theorem d_Grid_meets_67 : decode b_Grid_meets 67 = .ok (.goto 4, 3) := by decide +kernel
theorem d_Grid_meets_70 : decode b_Grid_meets 70 = .ok (.iconst 0, 1) := by decide +kernel
theorem d_Grid_meets_71 : decode b_Grid_meets 71 = .ok (.ireturn, 1) := by decide +kernel
theorem d_Grid_from_0 : decode b_Grid_from 0 = .ok (.aload_n 0, 1) := by decide +kernel
theorem d_Grid_from_1 : decode b_Grid_from 1 = .ok (.iload_n 1, 1) := by decide +kernel
theorem d_Grid_from_2 : decode b_Grid_from 2 = .ok (.putfield 66, 3) := by decide +kernel
theorem d_Grid_from_5 : decode b_Grid_from 5 = .ok (.aload_n 0, 1) := by decide +kernel
theorem d_Grid_from_6 : decode b_Grid_from 6 = .ok (.iload_n 2, 1) := by decide +kernel
theorem d_Grid_from_7 : decode b_Grid_from 7 = .ok (.putfield 69, 3) := by decide +kernel
theorem d_Grid_from_10 : decode b_Grid_from 10 = .ok (.aload_n 0, 1) := by decide +kernel
theorem d_Grid_from_11 : decode b_Grid_from 11 = .ok (.iconst 0, 1) := by decide +kernel
theorem d_Grid_from_12 : decode b_Grid_from 12 = .ok (.putfield 72, 3) := by decide +kernel
theorem d_Grid_from_15 : decode b_Grid_from 15 = .ok (.return_, 1) := by decide +kernel
theorem d_Grid_corner_0 : decode b_Grid_corner 0 = .ok (.aload_n 0, 1) := by decide +kernel
theorem d_Grid_corner_1 : decode b_Grid_corner 1 = .ok (.getfield 72, 3) := by decide +kernel
theorem d_Grid_corner_4 : decode b_Grid_corner 4 = .ok (.iconst 4, 1) := by decide +kernel
theorem d_Grid_corner_5 : decode b_Grid_corner 5 = .ok (.if_icmp .ge 45, 3) := by decide +kernel
theorem d_Grid_corner_8 : decode b_Grid_corner 8 = .ok (.aload_n 0, 1) := by decide +kernel
theorem d_Grid_corner_9 : decode b_Grid_corner 9 = .ok (.getfield 32, 3) := by decide +kernel
theorem d_Grid_corner_12 : decode b_Grid_corner 12 = .ok (.aload_n 0, 1) := by decide +kernel
theorem d_Grid_corner_13 : decode b_Grid_corner 13 = .ok (.getfield 72, 3) := by decide +kernel
theorem d_Grid_corner_16 : decode b_Grid_corner 16 = .ok (.aload_n 0, 1) := by decide +kernel
theorem d_Grid_corner_17 : decode b_Grid_corner 17 = .ok (.getfield 66, 3) := by decide +kernel
theorem d_Grid_corner_20 : decode b_Grid_corner 20 = .ok (.i2l, 1) := by decide +kernel
theorem d_Grid_corner_21 : decode b_Grid_corner 21 = .ok (.lload_n 1, 1) := by decide +kernel
theorem d_Grid_corner_22 : decode b_Grid_corner 22 = .ok (.ladd, 1) := by decide +kernel
theorem d_Grid_corner_23 : decode b_Grid_corner 23 = .ok (.lastore, 1) := by decide +kernel
theorem d_Grid_corner_24 : decode b_Grid_corner 24 = .ok (.aload_n 0, 1) := by decide +kernel
theorem d_Grid_corner_25 : decode b_Grid_corner 25 = .ok (.getfield 35, 3) := by decide +kernel
theorem d_Grid_corner_28 : decode b_Grid_corner 28 = .ok (.aload_n 0, 1) := by decide +kernel
theorem d_Grid_corner_29 : decode b_Grid_corner 29 = .ok (.getfield 72, 3) := by decide +kernel
theorem d_Grid_corner_32 : decode b_Grid_corner 32 = .ok (.aload_n 0, 1) := by decide +kernel
theorem d_Grid_corner_33 : decode b_Grid_corner 33 = .ok (.getfield 69, 3) := by decide +kernel
theorem d_Grid_corner_36 : decode b_Grid_corner 36 = .ok (.i2l, 1) := by decide +kernel
theorem d_Grid_corner_37 : decode b_Grid_corner 37 = .ok (.lload_n 3, 1) := by decide +kernel
theorem d_Grid_corner_38 : decode b_Grid_corner 38 = .ok (.ladd, 1) := by decide +kernel
theorem d_Grid_corner_39 : decode b_Grid_corner 39 = .ok (.lastore, 1) := by decide +kernel
theorem d_Grid_corner_40 : decode b_Grid_corner 40 = .ok (.aload_n 0, 1) := by decide +kernel
theorem d_Grid_corner_41 : decode b_Grid_corner 41 = .ok (.dup, 1) := by decide +kernel
theorem d_Grid_corner_42 : decode b_Grid_corner 42 = .ok (.getfield 72, 3) := by decide +kernel
theorem d_Grid_corner_45 : decode b_Grid_corner 45 = .ok (.iconst 1, 1) := by decide +kernel
theorem d_Grid_corner_46 : decode b_Grid_corner 46 = .ok (.iadd, 1) := by decide +kernel
theorem d_Grid_corner_47 : decode b_Grid_corner 47 = .ok (.putfield 72, 3) := by decide +kernel
theorem d_Grid_corner_50 : decode b_Grid_corner 50 = .ok (.return_, 1) := by decide +kernel
theorem d_Grid_polygon_0 : decode b_Grid_polygon 0 = .ok (.aload_n 0, 1) := by decide +kernel
theorem d_Grid_polygon_1 : decode b_Grid_polygon 1 = .ok (.invokevirtual 75, 3) := by decide +kernel
theorem d_Grid_polygon_4 : decode b_Grid_polygon 4 = .ok (.lstore_n 1, 1) := by decide +kernel
theorem d_Grid_polygon_5 : decode b_Grid_polygon 5 = .ok (.aload_n 0, 1) := by decide +kernel
theorem d_Grid_polygon_6 : decode b_Grid_polygon 6 = .ok (.lload_n 1, 1) := by decide +kernel
theorem d_Grid_polygon_7 : decode b_Grid_polygon 7 = .ok (.lconst 0, 1) := by decide +kernel
theorem d_Grid_polygon_8 : decode b_Grid_polygon 8 = .ok (.lcmp, 1) := by decide +kernel
theorem d_Grid_polygon_9 : decode b_Grid_polygon 9 = .ok (.ifCond .ge 9, 3) := by decide +kernel
theorem d_Grid_polygon_12 : decode b_Grid_polygon 12 = .ok (.ldc2_w 79, 3) := by decide +kernel
theorem d_Grid_polygon_15 : decode b_Grid_polygon 15 = .ok (.goto 4, 3) := by decide +kernel
theorem d_Grid_polygon_18 : decode b_Grid_polygon 18 = .ok (.lconst 1, 1) := by decide +kernel
theorem d_Grid_polygon_19 : decode b_Grid_polygon 19 = .ok (.putfield 81, 3) := by decide +kernel
theorem d_Grid_polygon_22 : decode b_Grid_polygon 22 = .ok (.iconst 0, 1) := by decide +kernel
theorem d_Grid_polygon_23 : decode b_Grid_polygon 23 = .ok (.istore_n 3, 1) := by decide +kernel
theorem d_Grid_polygon_24 : decode b_Grid_polygon 24 = .ok (.aload_n 0, 1) := by decide +kernel
theorem d_Grid_polygon_25 : decode b_Grid_polygon 25 = .ok (.getfield 25, 3) := by decide +kernel
theorem d_Grid_polygon_28 : decode b_Grid_polygon 28 = .ok (.iconst 1, 1) := by decide +kernel
theorem d_Grid_polygon_29 : decode b_Grid_polygon 29 = .ok (.isub, 1) := by decide +kernel
theorem d_Grid_polygon_30 : decode b_Grid_polygon 30 = .ok (.istore 4, 2) := by decide +kernel
theorem d_Grid_polygon_32 : decode b_Grid_polygon 32 = .ok (.lload_n 1, 1) := by decide +kernel
theorem d_Grid_polygon_33 : decode b_Grid_polygon 33 = .ok (.lconst 0, 1) := by decide +kernel
theorem d_Grid_polygon_34 : decode b_Grid_polygon 34 = .ok (.lcmp, 1) := by decide +kernel
theorem d_Grid_polygon_35 : decode b_Grid_polygon 35 = .ok (.ifCond .eq 77, 3) := by decide +kernel
theorem d_Grid_polygon_38 : decode b_Grid_polygon 38 = .ok (.aload_n 0, 1) := by decide +kernel
theorem d_Grid_polygon_39 : decode b_Grid_polygon 39 = .ok (.aload_n 0, 1) := by decide +kernel
theorem d_Grid_polygon_40 : decode b_Grid_polygon 40 = .ok (.aload_n 0, 1) := by decide +kernel
theorem d_Grid_polygon_41 : decode b_Grid_polygon 41 = .ok (.getfield 35, 3) := by decide +kernel
theorem d_Grid_polygon_44 : decode b_Grid_polygon 44 = .ok (.invokevirtual 84, 3) := by decide +kernel
theorem d_Grid_polygon_47 : decode b_Grid_polygon 47 = .ok (.invokevirtual 88, 3) := by decide +kernel
theorem d_Grid_polygon_50 : decode b_Grid_polygon 50 = .ok (.istore_n 3, 1) := by decide +kernel
theorem d_Grid_polygon_51 : decode b_Grid_polygon 51 = .ok (.aload_n 0, 1) := by decide +kernel
theorem d_Grid_polygon_52 : decode b_Grid_polygon 52 = .ok (.aload_n 0, 1) := by decide +kernel
theorem d_Grid_polygon_53 : decode b_Grid_polygon 53 = .ok (.aload_n 0, 1) := by decide +kernel
theorem d_Grid_polygon_54 : decode b_Grid_polygon 54 = .ok (.getfield 35, 3) := by decide +kernel
theorem d_Grid_polygon_57 : decode b_Grid_polygon 57 = .ok (.invokevirtual 92, 3) := by decide +kernel
theorem d_Grid_polygon_60 : decode b_Grid_polygon 60 = .ok (.invokevirtual 95, 3) := by decide +kernel
theorem d_Grid_polygon_63 : decode b_Grid_polygon 63 = .ok (.istore 4, 2) := by decide +kernel
theorem d_Grid_polygon_65 : decode b_Grid_polygon 65 = .ok (.aload_n 0, 1) := by decide +kernel
theorem d_Grid_polygon_66 : decode b_Grid_polygon 66 = .ok (.aload_n 0, 1) := by decide +kernel
theorem d_Grid_polygon_67 : decode b_Grid_polygon 67 = .ok (.getfield 32, 3) := by decide +kernel
theorem d_Grid_polygon_70 : decode b_Grid_polygon 70 = .ok (.invokevirtual 92, 3) := by decide +kernel
theorem d_Grid_polygon_73 : decode b_Grid_polygon 73 = .ok (.aload_n 0, 1) := by decide +kernel
theorem d_Grid_polygon_74 : decode b_Grid_polygon 74 = .ok (.getfield 38, 3) := by decide +kernel
theorem d_Grid_polygon_77 : decode b_Grid_polygon 77 = .ok (.i2l, 1) := by decide +kernel
theorem d_Grid_polygon_78 : decode b_Grid_polygon 78 = .ok (.lcmp, 1) := by decide +kernel
theorem d_Grid_polygon_79 : decode b_Grid_polygon 79 = .ok (.ifCond .lt 32, 3) := by decide +kernel
theorem d_Grid_polygon_82 : decode b_Grid_polygon 82 = .ok (.aload_n 0, 1) := by decide +kernel
theorem d_Grid_polygon_83 : decode b_Grid_polygon 83 = .ok (.aload_n 0, 1) := by decide +kernel
theorem d_Grid_polygon_84 : decode b_Grid_polygon 84 = .ok (.getfield 32, 3) := by decide +kernel
theorem d_Grid_polygon_87 : decode b_Grid_polygon 87 = .ok (.invokevirtual 84, 3) := by decide +kernel
theorem d_Grid_polygon_90 : decode b_Grid_polygon 90 = .ok (.aload_n 0, 1) := by decide +kernel
theorem d_Grid_polygon_91 : decode b_Grid_polygon 91 = .ok (.getfield 38, 3) := by decide +kernel
theorem d_Grid_polygon_94 : decode b_Grid_polygon 94 = .ok (.aload_n 0, 1) := by decide +kernel
theorem d_Grid_polygon_95 : decode b_Grid_polygon 95 = .ok (.getfield 19, 3) := by decide +kernel
theorem d_Grid_polygon_98 : decode b_Grid_polygon 98 = .ok (.iconst 1, 1) := by decide +kernel
theorem d_Grid_polygon_99 : decode b_Grid_polygon 99 = .ok (.isub, 1) := by decide +kernel
theorem d_Grid_polygon_100 : decode b_Grid_polygon 100 = .ok (.aload_n 0, 1) := by decide +kernel
theorem d_Grid_polygon_101 : decode b_Grid_polygon 101 = .ok (.getfield 15, 3) := by decide +kernel
theorem d_Grid_polygon_104 : decode b_Grid_polygon 104 = .ok (.imul, 1) := by decide +kernel
theorem d_Grid_polygon_105 : decode b_Grid_polygon 105 = .ok (.iadd, 1) := by decide +kernel
theorem d_Grid_polygon_106 : decode b_Grid_polygon 106 = .ok (.i2l, 1) := by decide +kernel
theorem d_Grid_polygon_107 : decode b_Grid_polygon 107 = .ok (.lcmp, 1) := by decide +kernel
theorem d_Grid_polygon_108 : decode b_Grid_polygon 108 = .ok (.ifCond .le 4, 3) := by decide +kernel
theorem d_Grid_polygon_111 : decode b_Grid_polygon 111 = .ok (.return_, 1) := by decide +kernel
theorem d_Grid_polygon_112 : decode b_Grid_polygon 112 = .ok (.iload_n 3, 1) := by decide +kernel
theorem d_Grid_polygon_113 : decode b_Grid_polygon 113 = .ok (.istore 5, 2) := by decide +kernel
theorem d_Grid_polygon_115 : decode b_Grid_polygon 115 = .ok (.iload 5, 2) := by decide +kernel
theorem d_Grid_polygon_117 : decode b_Grid_polygon 117 = .ok (.iload 4, 2) := by decide +kernel
theorem d_Grid_polygon_119 : decode b_Grid_polygon 119 = .ok (.if_icmp .gt 51, 3) := by decide +kernel
theorem d_Grid_polygon_122 : decode b_Grid_polygon 122 = .ok (.aload_n 0, 1) := by decide +kernel
theorem d_Grid_polygon_123 : decode b_Grid_polygon 123 = .ok (.getfield 9, 3) := by decide +kernel
theorem d_Grid_polygon_126 : decode b_Grid_polygon 126 = .ok (.iload 5, 2) := by decide +kernel
theorem d_Grid_polygon_128 : decode b_Grid_polygon 128 = .ok (.laload, 1) := by decide +kernel
theorem d_Grid_polygon_129 : decode b_Grid_polygon 129 = .ok (.aload_n 0, 1) := by decide +kernel
theorem d_Grid_polygon_130 : decode b_Grid_polygon 130 = .ok (.getfield 28, 3) := by decide +kernel
theorem d_Grid_polygon_133 : decode b_Grid_polygon 133 = .ok (.lcmp, 1) := by decide +kernel
theorem d_Grid_polygon_134 : decode b_Grid_polygon 134 = .ok (.ifCond .eq 30, 3) := by decide +kernel
theorem d_Grid_polygon_137 : decode b_Grid_polygon 137 = .ok (.aload_n 0, 1) := by decide +kernel
theorem d_Grid_polygon_138 : decode b_Grid_polygon 138 = .ok (.getfield 9, 3) := by decide +kernel
theorem d_Grid_polygon_141 : decode b_Grid_polygon 141 = .ok (.iload 5, 2) := by decide +kernel
theorem d_Grid_polygon_143 : decode b_Grid_polygon 143 = .ok (.dup2, 1) := by decide +kernel
theorem d_Grid_polygon_144 : decode b_Grid_polygon 144 = .ok (.laload, 1) := by decide +kernel
theorem d_Grid_polygon_145 : decode b_Grid_polygon 145 = .ok (.aload_n 0, 1) := by decide +kernel
theorem d_Grid_polygon_146 : decode b_Grid_polygon 146 = .ok (.aload_n 0, 1) := by decide +kernel
theorem d_Grid_polygon_147 : decode b_Grid_polygon 147 = .ok (.getfield 54, 3) := by decide +kernel
theorem d_Grid_polygon_150 : decode b_Grid_polygon 150 = .ok (.iload 5, 2) := by decide +kernel
theorem d_Grid_polygon_152 : decode b_Grid_polygon 152 = .ok (.aload_n 0, 1) := by decide +kernel
theorem d_Grid_polygon_153 : decode b_Grid_polygon 153 = .ok (.getfield 22, 3) := by decide +kernel
theorem d_Grid_polygon_156 : decode b_Grid_polygon 156 = .ok (.imul, 1) := by decide +kernel
theorem d_Grid_polygon_157 : decode b_Grid_polygon 157 = .ok (.iadd, 1) := by decide +kernel
theorem d_Grid_polygon_158 : decode b_Grid_polygon 158 = .ok (.i2l, 1) := by decide +kernel
theorem d_Grid_polygon_159 : decode b_Grid_polygon 159 = .ok (.invokevirtual 98, 3) := by decide +kernel
theorem d_Grid_polygon_162 : decode b_Grid_polygon 162 = .ok (.lor, 1) := by decide +kernel
theorem d_Grid_polygon_163 : decode b_Grid_polygon 163 = .ok (.lastore, 1) := by decide +kernel
theorem d_Grid_polygon_164 : decode b_Grid_polygon 164 = .ok (.iinc 5 1, 3) := by decide +kernel
theorem d_Grid_polygon_167 : decode b_Grid_polygon 167 = .ok (.goto (-52), 3) := by decide +kernel
theorem d_Grid_polygon_170 : decode b_Grid_polygon 170 = .ok (.return_, 1) := by decide +kernel
theorem d_Grid_least_0 : decode b_Grid_least 0 = .ok (.aload_n 1, 1) := by decide +kernel
theorem d_Grid_least_1 : decode b_Grid_least 1 = .ok (.iconst 0, 1) := by decide +kernel
theorem d_Grid_least_2 : decode b_Grid_least 2 = .ok (.laload, 1) := by decide +kernel
theorem d_Grid_least_3 : decode b_Grid_least 3 = .ok (.lstore_n 2, 1) := by decide +kernel
theorem d_Grid_least_4 : decode b_Grid_least 4 = .ok (.iconst 1, 1) := by decide +kernel
theorem d_Grid_least_5 : decode b_Grid_least 5 = .ok (.istore 4, 2) := by decide +kernel
theorem d_Grid_least_7 : decode b_Grid_least 7 = .ok (.iload 4, 2) := by decide +kernel
theorem d_Grid_least_9 : decode b_Grid_least 9 = .ok (.aload_n 0, 1) := by decide +kernel
theorem d_Grid_least_10 : decode b_Grid_least 10 = .ok (.getfield 72, 3) := by decide +kernel
theorem d_Grid_least_13 : decode b_Grid_least 13 = .ok (.if_icmp .ge 18, 3) := by decide +kernel
theorem d_Grid_least_16 : decode b_Grid_least 16 = .ok (.lload_n 2, 1) := by decide +kernel
theorem d_Grid_least_17 : decode b_Grid_least 17 = .ok (.aload_n 1, 1) := by decide +kernel
theorem d_Grid_least_18 : decode b_Grid_least 18 = .ok (.iload 4, 2) := by decide +kernel
theorem d_Grid_least_20 : decode b_Grid_least 20 = .ok (.laload, 1) := by decide +kernel
theorem d_Grid_least_21 : decode b_Grid_least 21 = .ok (.invokestatic 102, 3) := by decide +kernel
theorem d_Grid_least_24 : decode b_Grid_least 24 = .ok (.lstore_n 2, 1) := by decide +kernel
theorem d_Grid_least_25 : decode b_Grid_least 25 = .ok (.iinc 4 1, 3) := by decide +kernel
theorem d_Grid_least_28 : decode b_Grid_least 28 = .ok (.goto (-21), 3) := by decide +kernel
theorem d_Grid_least_31 : decode b_Grid_least 31 = .ok (.lload_n 2, 1) := by decide +kernel
theorem d_Grid_least_32 : decode b_Grid_least 32 = .ok (.lreturn, 1) := by decide +kernel
theorem d_Grid_greatest_0 : decode b_Grid_greatest 0 = .ok (.aload_n 1, 1) := by decide +kernel
theorem d_Grid_greatest_1 : decode b_Grid_greatest 1 = .ok (.iconst 0, 1) := by decide +kernel
theorem d_Grid_greatest_2 : decode b_Grid_greatest 2 = .ok (.laload, 1) := by decide +kernel
theorem d_Grid_greatest_3 : decode b_Grid_greatest 3 = .ok (.lstore_n 2, 1) := by decide +kernel
theorem d_Grid_greatest_4 : decode b_Grid_greatest 4 = .ok (.iconst 1, 1) := by decide +kernel
theorem d_Grid_greatest_5 : decode b_Grid_greatest 5 = .ok (.istore 4, 2) := by decide +kernel
theorem d_Grid_greatest_7 : decode b_Grid_greatest 7 = .ok (.iload 4, 2) := by decide +kernel
theorem d_Grid_greatest_9 : decode b_Grid_greatest 9 = .ok (.aload_n 0, 1) := by decide +kernel
theorem d_Grid_greatest_10 : decode b_Grid_greatest 10 = .ok (.getfield 72, 3) := by decide +kernel
theorem d_Grid_greatest_13 : decode b_Grid_greatest 13 = .ok (.if_icmp .ge 18, 3) := by decide +kernel
theorem d_Grid_greatest_16 : decode b_Grid_greatest 16 = .ok (.lload_n 2, 1) := by decide +kernel
theorem d_Grid_greatest_17 : decode b_Grid_greatest 17 = .ok (.aload_n 1, 1) := by decide +kernel
theorem d_Grid_greatest_18 : decode b_Grid_greatest 18 = .ok (.iload 4, 2) := by decide +kernel
theorem d_Grid_greatest_20 : decode b_Grid_greatest 20 = .ok (.laload, 1) := by decide +kernel
theorem d_Grid_greatest_21 : decode b_Grid_greatest 21 = .ok (.invokestatic 104, 3) := by decide +kernel
theorem d_Grid_greatest_24 : decode b_Grid_greatest 24 = .ok (.lstore_n 2, 1) := by decide +kernel
theorem d_Grid_greatest_25 : decode b_Grid_greatest 25 = .ok (.iinc 4 1, 3) := by decide +kernel
theorem d_Grid_greatest_28 : decode b_Grid_greatest 28 = .ok (.goto (-21), 3) := by decide +kernel
theorem d_Grid_greatest_31 : decode b_Grid_greatest 31 = .ok (.lload_n 2, 1) := by decide +kernel
theorem d_Grid_greatest_32 : decode b_Grid_greatest 32 = .ok (.lreturn, 1) := by decide +kernel
theorem d_Grid_doubledArea_0 : decode b_Grid_doubledArea 0 = .ok (.lconst 0, 1) := by decide +kernel
theorem d_Grid_doubledArea_1 : decode b_Grid_doubledArea 1 = .ok (.lstore_n 1, 1) := by decide +kernel
theorem d_Grid_doubledArea_2 : decode b_Grid_doubledArea 2 = .ok (.iconst 0, 1) := by decide +kernel
theorem d_Grid_doubledArea_3 : decode b_Grid_doubledArea 3 = .ok (.istore_n 3, 1) := by decide +kernel
theorem d_Grid_doubledArea_4 : decode b_Grid_doubledArea 4 = .ok (.iload_n 3, 1) := by decide +kernel
theorem d_Grid_doubledArea_5 : decode b_Grid_doubledArea 5 = .ok (.aload_n 0, 1) := by decide +kernel
theorem d_Grid_doubledArea_6 : decode b_Grid_doubledArea 6 = .ok (.getfield 72, 3) := by decide +kernel
theorem d_Grid_doubledArea_9 : decode b_Grid_doubledArea 9 = .ok (.if_icmp .ge 60, 3) := by decide +kernel
theorem d_Grid_doubledArea_12 : decode b_Grid_doubledArea 12 = .ok (.iload_n 3, 1) := by decide +kernel
theorem d_Grid_doubledArea_13 : decode b_Grid_doubledArea 13 = .ok (.iconst 1, 1) := by decide +kernel
theorem d_Grid_doubledArea_14 : decode b_Grid_doubledArea 14 = .ok (.iadd, 1) := by decide +kernel
theorem d_Grid_doubledArea_15 : decode b_Grid_doubledArea 15 = .ok (.aload_n 0, 1) := by decide +kernel
theorem d_Grid_doubledArea_16 : decode b_Grid_doubledArea 16 = .ok (.getfield 72, 3) := by decide +kernel
theorem d_Grid_doubledArea_19 : decode b_Grid_doubledArea 19 = .ok (.if_icmp .ge 9, 3) := by decide +kernel
theorem d_Grid_doubledArea_22 : decode b_Grid_doubledArea 22 = .ok (.iload_n 3, 1) := by decide +kernel
theorem d_Grid_doubledArea_23 : decode b_Grid_doubledArea 23 = .ok (.iconst 1, 1) := by decide +kernel
theorem d_Grid_doubledArea_24 : decode b_Grid_doubledArea 24 = .ok (.iadd, 1) := by decide +kernel
theorem d_Grid_doubledArea_25 : decode b_Grid_doubledArea 25 = .ok (.goto 4, 3) := by decide +kernel
theorem d_Grid_doubledArea_28 : decode b_Grid_doubledArea 28 = .ok (.iconst 0, 1) := by decide +kernel
theorem d_Grid_doubledArea_29 : decode b_Grid_doubledArea 29 = .ok (.istore 4, 2) := by decide +kernel
theorem d_Grid_doubledArea_31 : decode b_Grid_doubledArea 31 = .ok (.lload_n 1, 1) := by decide +kernel
theorem d_Grid_doubledArea_32 : decode b_Grid_doubledArea 32 = .ok (.aload_n 0, 1) := by decide +kernel
theorem d_Grid_doubledArea_33 : decode b_Grid_doubledArea 33 = .ok (.getfield 32, 3) := by decide +kernel
theorem d_Grid_doubledArea_36 : decode b_Grid_doubledArea 36 = .ok (.iload_n 3, 1) := by decide +kernel
theorem d_Grid_doubledArea_37 : decode b_Grid_doubledArea 37 = .ok (.laload, 1) := by decide +kernel
theorem d_Grid_doubledArea_38 : decode b_Grid_doubledArea 38 = .ok (.aload_n 0, 1) := by decide +kernel
theorem d_Grid_doubledArea_39 : decode b_Grid_doubledArea 39 = .ok (.getfield 35, 3) := by decide +kernel
theorem d_Grid_doubledArea_42 : decode b_Grid_doubledArea 42 = .ok (.iload 4, 2) := by decide +kernel
theorem d_Grid_doubledArea_44 : decode b_Grid_doubledArea 44 = .ok (.laload, 1) := by decide +kernel
theorem d_Grid_doubledArea_45 : decode b_Grid_doubledArea 45 = .ok (.lmul, 1) := by decide +kernel
theorem d_Grid_doubledArea_46 : decode b_Grid_doubledArea 46 = .ok (.aload_n 0, 1) := by decide +kernel
theorem d_Grid_doubledArea_47 : decode b_Grid_doubledArea 47 = .ok (.getfield 35, 3) := by decide +kernel
theorem d_Grid_doubledArea_50 : decode b_Grid_doubledArea 50 = .ok (.iload_n 3, 1) := by decide +kernel
theorem d_Grid_doubledArea_51 : decode b_Grid_doubledArea 51 = .ok (.laload, 1) := by decide +kernel
theorem d_Grid_doubledArea_52 : decode b_Grid_doubledArea 52 = .ok (.aload_n 0, 1) := by decide +kernel
theorem d_Grid_doubledArea_53 : decode b_Grid_doubledArea 53 = .ok (.getfield 32, 3) := by decide +kernel
theorem d_Grid_doubledArea_56 : decode b_Grid_doubledArea 56 = .ok (.iload 4, 2) := by decide +kernel
theorem d_Grid_doubledArea_58 : decode b_Grid_doubledArea 58 = .ok (.laload, 1) := by decide +kernel
theorem d_Grid_doubledArea_59 : decode b_Grid_doubledArea 59 = .ok (.lmul, 1) := by decide +kernel
theorem d_Grid_doubledArea_60 : decode b_Grid_doubledArea 60 = .ok (.lsub, 1) := by decide +kernel
theorem d_Grid_doubledArea_61 : decode b_Grid_doubledArea 61 = .ok (.ladd, 1) := by decide +kernel
theorem d_Grid_doubledArea_62 : decode b_Grid_doubledArea 62 = .ok (.lstore_n 1, 1) := by decide +kernel
theorem d_Grid_doubledArea_63 : decode b_Grid_doubledArea 63 = .ok (.iinc 3 1, 3) := by decide +kernel
theorem d_Grid_doubledArea_66 : decode b_Grid_doubledArea 66 = .ok (.goto (-62), 3) := by decide +kernel
theorem d_Grid_doubledArea_69 : decode b_Grid_doubledArea 69 = .ok (.lload_n 1, 1) := by decide +kernel
theorem d_Grid_doubledArea_70 : decode b_Grid_doubledArea 70 = .ok (.lreturn, 1) := by decide +kernel
theorem d_Grid_polygonBits_0 : decode b_Grid_polygonBits 0 = .ok (.lconst 0, 1) := by decide +kernel
theorem d_Grid_polygonBits_1 : decode b_Grid_polygonBits 1 = .ok (.lstore_n 3, 1) := by decide +kernel
theorem d_Grid_polygonBits_2 : decode b_Grid_polygonBits 2 = .ok (.aload_n 0, 1) := by decide +kernel
theorem d_Grid_polygonBits_3 : decode b_Grid_polygonBits 3 = .ok (.getfield 19, 3) := by decide +kernel
theorem d_Grid_polygonBits_6 : decode b_Grid_polygonBits 6 = .ok (.iconst 1, 1) := by decide +kernel
theorem d_Grid_polygonBits_7 : decode b_Grid_polygonBits 7 = .ok (.isub, 1) := by decide +kernel
theorem d_Grid_polygonBits_8 : decode b_Grid_polygonBits 8 = .ok (.i2l, 1) := by decide +kernel
theorem d_Grid_polygonBits_9 : decode b_Grid_polygonBits 9 = .ok (.lstore 5, 2) := by decide +kernel
theorem d_Grid_polygonBits_11 : decode b_Grid_polygonBits 11 = .ok (.iconst 0, 1) := by decide +kernel
theorem d_Grid_polygonBits_12 : decode b_Grid_polygonBits 12 = .ok (.istore 7, 2) := by decide +kernel
theorem d_Grid_polygonBits_14 : decode b_Grid_polygonBits 14 = .ok (.iload 7, 2) := by decide +kernel
theorem d_Grid_polygonBits_16 : decode b_Grid_polygonBits 16 = .ok (.aload_n 0, 1) := by decide +kernel
theorem d_Grid_polygonBits_17 : decode b_Grid_polygonBits 17 = .ok (.getfield 72, 3) := by decide +kernel
theorem d_Grid_polygonBits_20 : decode b_Grid_polygonBits 20 = .ok (.if_icmp .ge 180, 3) := by decide +kernel
theorem d_Grid_polygonBits_23 : decode b_Grid_polygonBits 23 = .ok (.lload_n 3, 1) := by decide +kernel
theorem d_Grid_polygonBits_24 : decode b_Grid_polygonBits 24 = .ok (.lload 5, 2) := by decide +kernel
theorem d_Grid_polygonBits_26 : decode b_Grid_polygonBits 26 = .ok (.lcmp, 1) := by decide +kernel
theorem d_Grid_polygonBits_27 : decode b_Grid_polygonBits 27 = .ok (.ifCond .gt 173, 3) := by decide +kernel
theorem d_Grid_polygonBits_30 : decode b_Grid_polygonBits 30 = .ok (.iload 7, 2) := by decide +kernel
theorem d_Grid_polygonBits_32 : decode b_Grid_polygonBits 32 = .ok (.iconst 1, 1) := by decide +kernel
theorem d_Grid_polygonBits_33 : decode b_Grid_polygonBits 33 = .ok (.iadd, 1) := by decide +kernel
theorem d_Grid_polygonBits_34 : decode b_Grid_polygonBits 34 = .ok (.aload_n 0, 1) := by decide +kernel
theorem d_Grid_polygonBits_35 : decode b_Grid_polygonBits 35 = .ok (.getfield 72, 3) := by decide +kernel
theorem d_Grid_polygonBits_38 : decode b_Grid_polygonBits 38 = .ok (.if_icmp .ge 10, 3) := by decide +kernel
theorem d_Grid_polygonBits_41 : decode b_Grid_polygonBits 41 = .ok (.iload 7, 2) := by decide +kernel
theorem d_Grid_polygonBits_43 : decode b_Grid_polygonBits 43 = .ok (.iconst 1, 1) := by decide +kernel
theorem d_Grid_polygonBits_44 : decode b_Grid_polygonBits 44 = .ok (.iadd, 1) := by decide +kernel
theorem d_Grid_polygonBits_45 : decode b_Grid_polygonBits 45 = .ok (.goto 4, 3) := by decide +kernel
theorem d_Grid_polygonBits_48 : decode b_Grid_polygonBits 48 = .ok (.iconst 0, 1) := by decide +kernel
theorem d_Grid_polygonBits_49 : decode b_Grid_polygonBits 49 = .ok (.istore 8, 2) := by decide +kernel
theorem d_Grid_polygonBits_51 : decode b_Grid_polygonBits 51 = .ok (.aload_n 0, 1) := by decide +kernel
theorem d_Grid_polygonBits_52 : decode b_Grid_polygonBits 52 = .ok (.getfield 32, 3) := by decide +kernel
theorem d_Grid_polygonBits_55 : decode b_Grid_polygonBits 55 = .ok (.iload 8, 2) := by decide +kernel
theorem d_Grid_polygonBits_57 : decode b_Grid_polygonBits 57 = .ok (.laload, 1) := by decide +kernel
theorem d_Grid_polygonBits_58 : decode b_Grid_polygonBits 58 = .ok (.aload_n 0, 1) := by decide +kernel
theorem d_Grid_polygonBits_59 : decode b_Grid_polygonBits 59 = .ok (.getfield 32, 3) := by decide +kernel
theorem d_Grid_polygonBits_62 : decode b_Grid_polygonBits 62 = .ok (.iload 7, 2) := by decide +kernel
theorem d_Grid_polygonBits_64 : decode b_Grid_polygonBits 64 = .ok (.laload, 1) := by decide +kernel
theorem d_Grid_polygonBits_65 : decode b_Grid_polygonBits 65 = .ok (.lsub, 1) := by decide +kernel
theorem d_Grid_polygonBits_66 : decode b_Grid_polygonBits 66 = .ok (.lstore 9, 2) := by decide +kernel
theorem d_Grid_polygonBits_68 : decode b_Grid_polygonBits 68 = .ok (.aload_n 0, 1) := by decide +kernel
theorem d_Grid_polygonBits_69 : decode b_Grid_polygonBits 69 = .ok (.getfield 35, 3) := by decide +kernel
theorem d_Grid_polygonBits_72 : decode b_Grid_polygonBits 72 = .ok (.iload 8, 2) := by decide +kernel
theorem d_Grid_polygonBits_74 : decode b_Grid_polygonBits 74 = .ok (.laload, 1) := by decide +kernel
theorem d_Grid_polygonBits_75 : decode b_Grid_polygonBits 75 = .ok (.aload_n 0, 1) := by decide +kernel
theorem d_Grid_polygonBits_76 : decode b_Grid_polygonBits 76 = .ok (.getfield 35, 3) := by decide +kernel
theorem d_Grid_polygonBits_79 : decode b_Grid_polygonBits 79 = .ok (.iload 7, 2) := by decide +kernel
theorem d_Grid_polygonBits_81 : decode b_Grid_polygonBits 81 = .ok (.laload, 1) := by decide +kernel
theorem d_Grid_polygonBits_82 : decode b_Grid_polygonBits 82 = .ok (.lsub, 1) := by decide +kernel
theorem d_Grid_polygonBits_83 : decode b_Grid_polygonBits 83 = .ok (.lstore 11, 2) := by decide +kernel
theorem d_Grid_polygonBits_85 : decode b_Grid_polygonBits 85 = .ok (.aload_n 0, 1) := by decide +kernel
theorem d_Grid_polygonBits_86 : decode b_Grid_polygonBits 86 = .ok (.getfield 81, 3) := by decide +kernel
theorem d_Grid_polygonBits_89 : decode b_Grid_polygonBits 89 = .ok (.lload 9, 2) := by decide +kernel
theorem d_Grid_polygonBits_91 : decode b_Grid_polygonBits 91 = .ok (.lload_n 1, 1) := by decide +kernel
theorem d_Grid_polygonBits_92 : decode b_Grid_polygonBits 92 = .ok (.aload_n 0, 1) := by decide +kernel
theorem d_Grid_polygonBits_93 : decode b_Grid_polygonBits 93 = .ok (.getfield 35, 3) := by decide +kernel
theorem d_Grid_polygonBits_96 : decode b_Grid_polygonBits 96 = .ok (.iload 7, 2) := by decide +kernel
theorem d_Grid_polygonBits_98 : decode b_Grid_polygonBits 98 = .ok (.laload, 1) := by decide +kernel
theorem d_Grid_polygonBits_99 : decode b_Grid_polygonBits 99 = .ok (.lsub, 1) := by decide +kernel
theorem d_Grid_polygonBits_100 : decode b_Grid_polygonBits 100 = .ok (.lmul, 1) := by decide +kernel
theorem d_Grid_polygonBits_101 : decode b_Grid_polygonBits 101 = .ok (.lload 11, 2) := by decide +kernel
theorem d_Grid_polygonBits_103 : decode b_Grid_polygonBits 103 = .ok (.aload_n 0, 1) := by decide +kernel
theorem d_Grid_polygonBits_104 : decode b_Grid_polygonBits 104 = .ok (.getfield 38, 3) := by decide +kernel
theorem d_Grid_polygonBits_107 : decode b_Grid_polygonBits 107 = .ok (.i2l, 1) := by decide +kernel
theorem d_Grid_polygonBits_108 : decode b_Grid_polygonBits 108 = .ok (.aload_n 0, 1) := by decide +kernel
theorem d_Grid_polygonBits_109 : decode b_Grid_polygonBits 109 = .ok (.getfield 32, 3) := by decide +kernel
theorem d_Grid_polygonBits_112 : decode b_Grid_polygonBits 112 = .ok (.iload 7, 2) := by decide +kernel
theorem d_Grid_polygonBits_114 : decode b_Grid_polygonBits 114 = .ok (.laload, 1) := by decide +kernel
theorem d_Grid_polygonBits_115 : decode b_Grid_polygonBits 115 = .ok (.lsub, 1) := by decide +kernel
theorem d_Grid_polygonBits_116 : decode b_Grid_polygonBits 116 = .ok (.lmul, 1) := by decide +kernel
theorem d_Grid_polygonBits_117 : decode b_Grid_polygonBits 117 = .ok (.lsub, 1) := by decide +kernel
theorem d_Grid_polygonBits_118 : decode b_Grid_polygonBits 118 = .ok (.lmul, 1) := by decide +kernel
theorem d_Grid_polygonBits_119 : decode b_Grid_polygonBits 119 = .ok (.lstore 13, 2) := by decide +kernel
theorem d_Grid_polygonBits_121 : decode b_Grid_polygonBits 121 = .ok (.aload_n 0, 1) := by decide +kernel
theorem d_Grid_polygonBits_122 : decode b_Grid_polygonBits 122 = .ok (.getfield 81, 3) := by decide +kernel
theorem d_Grid_polygonBits_125 : decode b_Grid_polygonBits 125 = .ok (.lneg, 1) := by decide +kernel
theorem d_Grid_polygonBits_126 : decode b_Grid_polygonBits 126 = .ok (.lload 11, 2) := by decide +kernel
theorem d_Grid_polygonBits_128 : decode b_Grid_polygonBits 128 = .ok (.lmul, 1) := by decide +kernel
theorem d_Grid_polygonBits_129 : decode b_Grid_polygonBits 129 = .ok (.aload_n 0, 1) := by decide +kernel
theorem d_Grid_polygonBits_130 : decode b_Grid_polygonBits 130 = .ok (.getfield 15, 3) := by decide +kernel
theorem d_Grid_polygonBits_133 : decode b_Grid_polygonBits 133 = .ok (.i2l, 1) := by decide +kernel
theorem d_Grid_polygonBits_134 : decode b_Grid_polygonBits 134 = .ok (.lmul, 1) := by decide +kernel
theorem d_Grid_polygonBits_135 : decode b_Grid_polygonBits 135 = .ok (.lstore 15, 2) := by decide +kernel
theorem d_Grid_polygonBits_137 : decode b_Grid_polygonBits 137 = .ok (.lload 15, 2) := by decide +kernel
theorem d_Grid_polygonBits_139 : decode b_Grid_polygonBits 139 = .ok (.lconst 0, 1) := by decide +kernel
theorem d_Grid_polygonBits_140 : decode b_Grid_polygonBits 140 = .ok (.lcmp, 1) := by decide +kernel
theorem d_Grid_polygonBits_141 : decode b_Grid_polygonBits 141 = .ok (.ifCond .le 19, 3) := by decide +kernel
theorem d_Grid_polygonBits_144 : decode b_Grid_polygonBits 144 = .ok (.lload_n 3, 1) := by decide +kernel
theorem d_Grid_polygonBits_145 : decode b_Grid_polygonBits 145 = .ok (.lload 13, 2) := by decide +kernel
theorem d_Grid_polygonBits_147 : decode b_Grid_polygonBits 147 = .ok (.lload 15, 2) := by decide +kernel
theorem d_Grid_polygonBits_149 : decode b_Grid_polygonBits 149 = .ok (.invokestatic 106, 3) := by decide +kernel
theorem d_Grid_polygonBits_152 : decode b_Grid_polygonBits 152 = .ok (.lneg, 1) := by decide +kernel
theorem d_Grid_polygonBits_153 : decode b_Grid_polygonBits 153 = .ok (.invokestatic 104, 3) := by decide +kernel
theorem d_Grid_polygonBits_156 : decode b_Grid_polygonBits 156 = .ok (.lstore_n 3, 1) := by decide +kernel
theorem d_Grid_polygonBits_157 : decode b_Grid_polygonBits 157 = .ok (.goto 37, 3) := by decide +kernel
theorem d_Grid_polygonBits_160 : decode b_Grid_polygonBits 160 = .ok (.lload 15, 2) := by decide +kernel
theorem d_Grid_polygonBits_162 : decode b_Grid_polygonBits 162 = .ok (.lconst 0, 1) := by decide +kernel
theorem d_Grid_polygonBits_163 : decode b_Grid_polygonBits 163 = .ok (.lcmp, 1) := by decide +kernel
theorem d_Grid_polygonBits_164 : decode b_Grid_polygonBits 164 = .ok (.ifCond .ge 21, 3) := by decide +kernel
theorem d_Grid_polygonBits_167 : decode b_Grid_polygonBits 167 = .ok (.lload 5, 2) := by decide +kernel
theorem d_Grid_polygonBits_169 : decode b_Grid_polygonBits 169 = .ok (.lload 13, 2) := by decide +kernel
theorem d_Grid_polygonBits_171 : decode b_Grid_polygonBits 171 = .ok (.lload 15, 2) := by decide +kernel
theorem d_Grid_polygonBits_173 : decode b_Grid_polygonBits 173 = .ok (.lneg, 1) := by decide +kernel
theorem d_Grid_polygonBits_174 : decode b_Grid_polygonBits 174 = .ok (.invokestatic 106, 3) := by decide +kernel
theorem d_Grid_polygonBits_177 : decode b_Grid_polygonBits 177 = .ok (.invokestatic 102, 3) := by decide +kernel
theorem d_Grid_polygonBits_180 : decode b_Grid_polygonBits 180 = .ok (.lstore 5, 2) := by decide +kernel
theorem d_Grid_polygonBits_182 : decode b_Grid_polygonBits 182 = .ok (.goto 12, 3) := by decide +kernel
theorem d_Grid_polygonBits_185 : decode b_Grid_polygonBits 185 = .ok (.lload 13, 2) := by decide +kernel
theorem d_Grid_polygonBits_187 : decode b_Grid_polygonBits 187 = .ok (.lconst 0, 1) := by decide +kernel
theorem d_Grid_polygonBits_188 : decode b_Grid_polygonBits 188 = .ok (.lcmp, 1) := by decide +kernel
theorem d_Grid_polygonBits_189 : decode b_Grid_polygonBits 189 = .ok (.ifCond .ge 5, 3) := by decide +kernel
theorem d_Grid_polygonBits_192 : decode b_Grid_polygonBits 192 = .ok (.lconst 0, 1) := by decide +kernel
theorem d_Grid_polygonBits_193 : decode b_Grid_polygonBits 193 = .ok (.lreturn, 1) := by decide +kernel
theorem d_Grid_polygonBits_194 : decode b_Grid_polygonBits 194 = .ok (.iinc 7 1, 3) := by decide +kernel
theorem d_Grid_polygonBits_197 : decode b_Grid_polygonBits 197 = .ok (.goto (-183), 3) := by decide +kernel
theorem d_Grid_polygonBits_200 : decode b_Grid_polygonBits 200 = .ok (.lload_n 3, 1) := by decide +kernel
theorem d_Grid_polygonBits_201 : decode b_Grid_polygonBits 201 = .ok (.lload 5, 2) := by decide +kernel
theorem d_Grid_polygonBits_203 : decode b_Grid_polygonBits 203 = .ok (.invokestatic 50, 3) := by decide +kernel
theorem d_Grid_polygonBits_206 : decode b_Grid_polygonBits 206 = .ok (.lreturn, 1) := by decide +kernel
theorem d_Grid_disc_0 : decode b_Grid_disc 0 = .ok (.aload_n 0, 1) := by decide +kernel
theorem d_Grid_disc_1 : decode b_Grid_disc 1 = .ok (.iload_n 1, 1) := by decide +kernel
theorem d_Grid_disc_2 : decode b_Grid_disc 2 = .ok (.i2l, 1) := by decide +kernel
theorem d_Grid_disc_3 : decode b_Grid_disc 3 = .ok (.iload_n 3, 1) := by decide +kernel
theorem d_Grid_disc_4 : decode b_Grid_disc 4 = .ok (.i2l, 1) := by decide +kernel
theorem d_Grid_disc_5 : decode b_Grid_disc 5 = .ok (.lsub, 1) := by decide +kernel
theorem d_Grid_disc_6 : decode b_Grid_disc 6 = .ok (.iload_n 1, 1) := by decide +kernel
theorem d_Grid_disc_7 : decode b_Grid_disc 7 = .ok (.i2l, 1) := by decide +kernel
theorem d_Grid_disc_8 : decode b_Grid_disc 8 = .ok (.iload_n 3, 1) := by decide +kernel
theorem d_Grid_disc_9 : decode b_Grid_disc 9 = .ok (.i2l, 1) := by decide +kernel
theorem d_Grid_disc_10 : decode b_Grid_disc 10 = .ok (.ladd, 1) := by decide +kernel
theorem d_Grid_disc_11 : decode b_Grid_disc 11 = .ok (.iload_n 2, 1) := by decide +kernel
theorem d_Grid_disc_12 : decode b_Grid_disc 12 = .ok (.i2l, 1) := by decide +kernel
theorem d_Grid_disc_13 : decode b_Grid_disc 13 = .ok (.iload_n 3, 1) := by decide +kernel
theorem d_Grid_disc_14 : decode b_Grid_disc 14 = .ok (.i2l, 1) := by decide +kernel
theorem d_Grid_disc_15 : decode b_Grid_disc 15 = .ok (.lsub, 1) := by decide +kernel
theorem d_Grid_disc_16 : decode b_Grid_disc 16 = .ok (.iload_n 2, 1) := by decide +kernel
theorem d_Grid_disc_17 : decode b_Grid_disc 17 = .ok (.i2l, 1) := by decide +kernel
theorem d_Grid_disc_18 : decode b_Grid_disc 18 = .ok (.iload_n 3, 1) := by decide +kernel
theorem d_Grid_disc_19 : decode b_Grid_disc 19 = .ok (.i2l, 1) := by decide +kernel
theorem d_Grid_disc_20 : decode b_Grid_disc 20 = .ok (.ladd, 1) := by decide +kernel
theorem d_Grid_disc_21 : decode b_Grid_disc 21 = .ok (.invokevirtual 109, 3) := by decide +kernel
theorem d_Grid_disc_24 : decode b_Grid_disc 24 = .ok (.ifCond .ne 4, 3) := by decide +kernel
theorem d_Grid_disc_27 : decode b_Grid_disc 27 = .ok (.return_, 1) := by decide +kernel
theorem d_Grid_disc_28 : decode b_Grid_disc 28 = .ok (.aload_n 0, 1) := by decide +kernel
theorem d_Grid_disc_29 : decode b_Grid_disc 29 = .ok (.iload_n 2, 1) := by decide +kernel
theorem d_Grid_disc_30 : decode b_Grid_disc 30 = .ok (.i2l, 1) := by decide +kernel
theorem d_Grid_disc_31 : decode b_Grid_disc 31 = .ok (.iload_n 3, 1) := by decide +kernel
theorem d_Grid_disc_32 : decode b_Grid_disc 32 = .ok (.i2l, 1) := by decide +kernel
theorem d_Grid_disc_33 : decode b_Grid_disc 33 = .ok (.ladd, 1) := by decide +kernel
theorem d_Grid_disc_34 : decode b_Grid_disc 34 = .ok (.invokevirtual 95, 3) := by decide +kernel
theorem d_Grid_disc_37 : decode b_Grid_disc 37 = .ok (.istore 4, 2) := by decide +kernel
theorem d_Grid_disc_39 : decode b_Grid_disc 39 = .ok (.aload_n 0, 1) := by decide +kernel
theorem d_Grid_disc_40 : decode b_Grid_disc 40 = .ok (.iload_n 2, 1) := by decide +kernel
theorem d_Grid_disc_41 : decode b_Grid_disc 41 = .ok (.i2l, 1) := by decide +kernel
theorem d_Grid_disc_42 : decode b_Grid_disc 42 = .ok (.iload_n 3, 1) := by decide +kernel
theorem d_Grid_disc_43 : decode b_Grid_disc 43 = .ok (.i2l, 1) := by decide +kernel
theorem d_Grid_disc_44 : decode b_Grid_disc 44 = .ok (.lsub, 1) := by decide +kernel
theorem d_Grid_disc_45 : decode b_Grid_disc 45 = .ok (.invokevirtual 88, 3) := by decide +kernel
theorem d_Grid_disc_48 : decode b_Grid_disc 48 = .ok (.istore 5, 2) := by decide +kernel
theorem d_Grid_disc_50 : decode b_Grid_disc 50 = .ok (.iload 5, 2) := by decide +kernel
theorem d_Grid_disc_52 : decode b_Grid_disc 52 = .ok (.iload 4, 2) := by decide +kernel
theorem d_Grid_disc_54 : decode b_Grid_disc 54 = .ok (.if_icmp .gt 56, 3) := by decide +kernel
theorem d_Grid_disc_57 : decode b_Grid_disc 57 = .ok (.aload_n 0, 1) := by decide +kernel
theorem d_Grid_disc_58 : decode b_Grid_disc 58 = .ok (.getfield 9, 3) := by decide +kernel
theorem d_Grid_disc_61 : decode b_Grid_disc 61 = .ok (.iload 5, 2) := by decide +kernel
theorem d_Grid_disc_63 : decode b_Grid_disc 63 = .ok (.laload, 1) := by decide +kernel
theorem d_Grid_disc_64 : decode b_Grid_disc 64 = .ok (.aload_n 0, 1) := by decide +kernel
theorem d_Grid_disc_65 : decode b_Grid_disc 65 = .ok (.getfield 28, 3) := by decide +kernel
theorem d_Grid_disc_68 : decode b_Grid_disc 68 = .ok (.lcmp, 1) := by decide +kernel
theorem d_Grid_disc_69 : decode b_Grid_disc 69 = .ok (.ifCond .eq 35, 3) := by decide +kernel
theorem d_Grid_disc_72 : decode b_Grid_disc 72 = .ok (.aload_n 0, 1) := by decide +kernel
theorem d_Grid_disc_73 : decode b_Grid_disc 73 = .ok (.getfield 9, 3) := by decide +kernel
theorem d_Grid_disc_76 : decode b_Grid_disc 76 = .ok (.iload 5, 2) := by decide +kernel
theorem d_Grid_disc_78 : decode b_Grid_disc 78 = .ok (.dup2, 1) := by decide +kernel
theorem d_Grid_disc_79 : decode b_Grid_disc 79 = .ok (.laload, 1) := by decide +kernel
theorem d_Grid_disc_80 : decode b_Grid_disc 80 = .ok (.aload_n 0, 1) := by decide +kernel
theorem d_Grid_disc_81 : decode b_Grid_disc 81 = .ok (.iload_n 1, 1) := by decide +kernel
theorem d_Grid_disc_82 : decode b_Grid_disc 82 = .ok (.aload_n 0, 1) := by decide +kernel
theorem d_Grid_disc_83 : decode b_Grid_disc 83 = .ok (.getfield 54, 3) := by decide +kernel
theorem d_Grid_disc_86 : decode b_Grid_disc 86 = .ok (.iload 5, 2) := by decide +kernel
theorem d_Grid_disc_88 : decode b_Grid_disc 88 = .ok (.aload_n 0, 1) := by decide +kernel
theorem d_Grid_disc_89 : decode b_Grid_disc 89 = .ok (.getfield 22, 3) := by decide +kernel
theorem d_Grid_disc_92 : decode b_Grid_disc 92 = .ok (.imul, 1) := by decide +kernel
theorem d_Grid_disc_93 : decode b_Grid_disc 93 = .ok (.iadd, 1) := by decide +kernel
theorem d_Grid_disc_94 : decode b_Grid_disc 94 = .ok (.iload_n 2, 1) := by decide +kernel
theorem d_Grid_disc_95 : decode b_Grid_disc 95 = .ok (.isub, 1) := by decide +kernel
theorem d_Grid_disc_96 : decode b_Grid_disc 96 = .ok (.i2l, 1) := by decide +kernel
theorem d_Grid_disc_97 : decode b_Grid_disc 97 = .ok (.iload_n 3, 1) := by decide +kernel
theorem d_Grid_disc_98 : decode b_Grid_disc 98 = .ok (.i2l, 1) := by decide +kernel
theorem d_Grid_disc_99 : decode b_Grid_disc 99 = .ok (.invokevirtual 113, 3) := by decide +kernel
theorem d_Grid_disc_102 : decode b_Grid_disc 102 = .ok (.lor, 1) := by decide +kernel
theorem d_Grid_disc_103 : decode b_Grid_disc 103 = .ok (.lastore, 1) := by decide +kernel
theorem d_Grid_disc_104 : decode b_Grid_disc 104 = .ok (.iinc 5 1, 3) := by decide +kernel
theorem d_Grid_disc_107 : decode b_Grid_disc 107 = .ok (.goto (-57), 3) := by decide +kernel
theorem d_Grid_disc_110 : decode b_Grid_disc 110 = .ok (.return_, 1) := by decide +kernel
theorem d_Grid_discBits_0 : decode b_Grid_discBits 0 = .ok (.lload 4, 2) := by decide +kernel
theorem d_Grid_discBits_2 : decode b_Grid_discBits 2 = .ok (.lload 4, 2) := by decide +kernel
theorem d_Grid_discBits_4 : decode b_Grid_discBits 4 = .ok (.lmul, 1) := by decide +kernel
theorem d_Grid_discBits_5 : decode b_Grid_discBits 5 = .ok (.lload_n 2, 1) := by decide +kernel
theorem d_Grid_discBits_6 : decode b_Grid_discBits 6 = .ok (.lload_n 2, 1) := by decide +kernel
theorem d_Grid_discBits_7 : decode b_Grid_discBits 7 = .ok (.lmul, 1) := by decide +kernel
theorem d_Grid_discBits_8 : decode b_Grid_discBits 8 = .ok (.lsub, 1) := by decide +kernel
theorem d_Grid_discBits_9 : decode b_Grid_discBits 9 = .ok (.lstore 6, 2) := by decide +kernel
theorem d_Grid_discBits_11 : decode b_Grid_discBits 11 = .ok (.lload 6, 2) := by decide +kernel
theorem d_Grid_discBits_13 : decode b_Grid_discBits 13 = .ok (.lconst 0, 1) := by decide +kernel
theorem d_Grid_discBits_14 : decode b_Grid_discBits 14 = .ok (.lcmp, 1) := by decide +kernel
theorem d_Grid_discBits_15 : decode b_Grid_discBits 15 = .ok (.ifCond .lt 10, 3) := by decide +kernel
theorem d_Grid_discBits_18 : decode b_Grid_discBits 18 = .ok (.aload_n 0, 1) := by decide +kernel
theorem d_Grid_discBits_19 : decode b_Grid_discBits 19 = .ok (.getfield 15, 3) := by decide +kernel
theorem d_Grid_discBits_22 : decode b_Grid_discBits 22 = .ok (.ifCond .gt 5, 3) := by decide +kernel
theorem d_Grid_discBits_25 : decode b_Grid_discBits 25 = .ok (.lconst 0, 1) := by decide +kernel
theorem d_Grid_discBits_26 : decode b_Grid_discBits 26 = .ok (.lreturn, 1) := by decide +kernel
theorem d_Grid_discBits_27 : decode b_Grid_discBits 27 = .ok (.lload 6, 2) := by decide +kernel
theorem d_Grid_discBits_29 : decode b_Grid_discBits 29 = .ok (.invokestatic 117, 3) := by decide +kernel
theorem d_Grid_discBits_32 : decode b_Grid_discBits 32 = .ok (.lstore 8, 2) := by decide +kernel
theorem d_Grid_discBits_34 : decode b_Grid_discBits 34 = .ok (.aload_n 0, 1) := by decide +kernel
theorem d_Grid_discBits_35 : decode b_Grid_discBits 35 = .ok (.getfield 38, 3) := by decide +kernel
theorem d_Grid_discBits_38 : decode b_Grid_discBits 38 = .ok (.iload_n 1, 1) := by decide +kernel
theorem d_Grid_discBits_39 : decode b_Grid_discBits 39 = .ok (.isub, 1) := by decide +kernel
theorem d_Grid_discBits_40 : decode b_Grid_discBits 40 = .ok (.i2l, 1) := by decide +kernel
theorem d_Grid_discBits_41 : decode b_Grid_discBits 41 = .ok (.lload 8, 2) := by decide +kernel
theorem d_Grid_discBits_43 : decode b_Grid_discBits 43 = .ok (.ladd, 1) := by decide +kernel
theorem d_Grid_discBits_44 : decode b_Grid_discBits 44 = .ok (.aload_n 0, 1) := by decide +kernel
theorem d_Grid_discBits_45 : decode b_Grid_discBits 45 = .ok (.getfield 15, 3) := by decide +kernel
theorem d_Grid_discBits_48 : decode b_Grid_discBits 48 = .ok (.i2l, 1) := by decide +kernel
theorem d_Grid_discBits_49 : decode b_Grid_discBits 49 = .ok (.invokestatic 106, 3) := by decide +kernel
theorem d_Grid_discBits_52 : decode b_Grid_discBits 52 = .ok (.lneg, 1) := by decide +kernel
theorem d_Grid_discBits_53 : decode b_Grid_discBits 53 = .ok (.lstore 10, 2) := by decide +kernel
theorem d_Grid_discBits_55 : decode b_Grid_discBits 55 = .ok (.iload_n 1, 1) := by decide +kernel
theorem d_Grid_discBits_56 : decode b_Grid_discBits 56 = .ok (.i2l, 1) := by decide +kernel
theorem d_Grid_discBits_57 : decode b_Grid_discBits 57 = .ok (.lload 8, 2) := by decide +kernel
theorem d_Grid_discBits_59 : decode b_Grid_discBits 59 = .ok (.ladd, 1) := by decide +kernel
theorem d_Grid_discBits_60 : decode b_Grid_discBits 60 = .ok (.aload_n 0, 1) := by decide +kernel
theorem d_Grid_discBits_61 : decode b_Grid_discBits 61 = .ok (.getfield 38, 3) := by decide +kernel
theorem d_Grid_discBits_64 : decode b_Grid_discBits 64 = .ok (.i2l, 1) := by decide +kernel
theorem d_Grid_discBits_65 : decode b_Grid_discBits 65 = .ok (.lsub, 1) := by decide +kernel
theorem d_Grid_discBits_66 : decode b_Grid_discBits 66 = .ok (.aload_n 0, 1) := by decide +kernel
theorem d_Grid_discBits_67 : decode b_Grid_discBits 67 = .ok (.getfield 15, 3) := by decide +kernel
theorem d_Grid_discBits_70 : decode b_Grid_discBits 70 = .ok (.i2l, 1) := by decide +kernel
theorem d_Grid_discBits_71 : decode b_Grid_discBits 71 = .ok (.invokestatic 106, 3) := by decide +kernel
theorem d_Grid_discBits_74 : decode b_Grid_discBits 74 = .ok (.lstore 12, 2) := by decide +kernel
theorem d_Grid_discBits_76 : decode b_Grid_discBits 76 = .ok (.lconst 0, 1) := by decide +kernel
theorem d_Grid_discBits_77 : decode b_Grid_discBits 77 = .ok (.lload 10, 2) := by decide +kernel
theorem d_Grid_discBits_79 : decode b_Grid_discBits 79 = .ok (.invokestatic 104, 3) := by decide +kernel
theorem d_Grid_discBits_82 : decode b_Grid_discBits 82 = .ok (.aload_n 0, 1) := by decide +kernel
theorem d_Grid_discBits_83 : decode b_Grid_discBits 83 = .ok (.getfield 19, 3) := by decide +kernel
theorem d_Grid_discBits_86 : decode b_Grid_discBits 86 = .ok (.iconst 1, 1) := by decide +kernel
theorem d_Grid_discBits_87 : decode b_Grid_discBits 87 = .ok (.isub, 1) := by decide +kernel
theorem d_Grid_discBits_88 : decode b_Grid_discBits 88 = .ok (.i2l, 1) := by decide +kernel
theorem d_Grid_discBits_89 : decode b_Grid_discBits 89 = .ok (.lload 12, 2) := by decide +kernel
theorem d_Grid_discBits_91 : decode b_Grid_discBits 91 = .ok (.invokestatic 102, 3) := by decide +kernel
theorem d_Grid_discBits_94 : decode b_Grid_discBits 94 = .ok (.invokestatic 50, 3) := by decide +kernel
theorem d_Grid_discBits_97 : decode b_Grid_discBits 97 = .ok (.lreturn, 1) := by decide +kernel
theorem d_Grid_firstRow_0 : decode b_Grid_firstRow 0 = .ok (.aload_n 0, 1) := by decide +kernel
theorem d_Grid_firstRow_1 : decode b_Grid_firstRow 1 = .ok (.getfield 22, 3) := by decide +kernel
theorem d_Grid_firstRow_4 : decode b_Grid_firstRow 4 = .ok (.ifCond .gt 5, 3) := by decide +kernel
theorem d_Grid_firstRow_7 : decode b_Grid_firstRow 7 = .ok (.iconst 0, 1) := by decide +kernel
theorem d_Grid_firstRow_8 : decode b_Grid_firstRow 8 = .ok (.ireturn, 1) := by decide +kernel
theorem d_Grid_firstRow_9 : decode b_Grid_firstRow 9 = .ok (.lconst 0, 1) := by decide +kernel
theorem d_Grid_firstRow_10 : decode b_Grid_firstRow 10 = .ok (.aload_n 0, 1) := by decide +kernel
theorem d_Grid_firstRow_11 : decode b_Grid_firstRow 11 = .ok (.getfield 54, 3) := by decide +kernel
theorem d_Grid_firstRow_14 : decode b_Grid_firstRow 14 = .ok (.i2l, 1) := by decide +kernel
theorem d_Grid_firstRow_15 : decode b_Grid_firstRow 15 = .ok (.lload_n 1, 1) := by decide +kernel
theorem d_Grid_firstRow_16 : decode b_Grid_firstRow 16 = .ok (.lsub, 1) := by decide +kernel
theorem d_Grid_firstRow_17 : decode b_Grid_firstRow 17 = .ok (.aload_n 0, 1) := by decide +kernel
theorem d_Grid_firstRow_18 : decode b_Grid_firstRow 18 = .ok (.getfield 22, 3) := by decide +kernel
theorem d_Grid_firstRow_21 : decode b_Grid_firstRow 21 = .ok (.i2l, 1) := by decide +kernel
theorem d_Grid_firstRow_22 : decode b_Grid_firstRow 22 = .ok (.invokestatic 106, 3) := by decide +kernel
theorem d_Grid_firstRow_25 : decode b_Grid_firstRow 25 = .ok (.lneg, 1) := by decide +kernel
theorem d_Grid_firstRow_26 : decode b_Grid_firstRow 26 = .ok (.invokestatic 104, 3) := by decide +kernel
theorem d_Grid_firstRow_29 : decode b_Grid_firstRow 29 = .ok (.l2i, 1) := by decide +kernel
theorem d_Grid_firstRow_30 : decode b_Grid_firstRow 30 = .ok (.ireturn, 1) := by decide +kernel
theorem d_Grid_lastRow_0 : decode b_Grid_lastRow 0 = .ok (.aload_n 0, 1) := by decide +kernel
theorem d_Grid_lastRow_1 : decode b_Grid_lastRow 1 = .ok (.getfield 22, 3) := by decide +kernel
theorem d_Grid_lastRow_4 : decode b_Grid_lastRow 4 = .ok (.ifCond .gt 5, 3) := by decide +kernel
theorem d_Grid_lastRow_7 : decode b_Grid_lastRow 7 = .ok (.iconst (-1), 1) := by decide +kernel
theorem d_Grid_lastRow_8 : decode b_Grid_lastRow 8 = .ok (.ireturn, 1) := by decide +kernel
theorem d_Grid_lastRow_9 : decode b_Grid_lastRow 9 = .ok (.aload_n 0, 1) := by decide +kernel
theorem d_Grid_lastRow_10 : decode b_Grid_lastRow 10 = .ok (.getfield 25, 3) := by decide +kernel
theorem d_Grid_lastRow_13 : decode b_Grid_lastRow 13 = .ok (.iconst 1, 1) := by decide +kernel
theorem d_Grid_lastRow_14 : decode b_Grid_lastRow 14 = .ok (.isub, 1) := by decide +kernel
theorem d_Grid_lastRow_15 : decode b_Grid_lastRow 15 = .ok (.i2l, 1) := by decide +kernel
theorem d_Grid_lastRow_16 : decode b_Grid_lastRow 16 = .ok (.lload_n 1, 1) := by decide +kernel
theorem d_Grid_lastRow_17 : decode b_Grid_lastRow 17 = .ok (.aload_n 0, 1) := by decide +kernel
theorem d_Grid_lastRow_18 : decode b_Grid_lastRow 18 = .ok (.getfield 54, 3) := by decide +kernel
theorem d_Grid_lastRow_21 : decode b_Grid_lastRow 21 = .ok (.i2l, 1) := by decide +kernel
theorem d_Grid_lastRow_22 : decode b_Grid_lastRow 22 = .ok (.lsub, 1) := by decide +kernel
theorem d_Grid_lastRow_23 : decode b_Grid_lastRow 23 = .ok (.aload_n 0, 1) := by decide +kernel
theorem d_Grid_lastRow_24 : decode b_Grid_lastRow 24 = .ok (.getfield 22, 3) := by decide +kernel
theorem d_Grid_lastRow_27 : decode b_Grid_lastRow 27 = .ok (.i2l, 1) := by decide +kernel
theorem d_Grid_lastRow_28 : decode b_Grid_lastRow 28 = .ok (.invokestatic 106, 3) := by decide +kernel
theorem d_Grid_lastRow_31 : decode b_Grid_lastRow 31 = .ok (.invokestatic 102, 3) := by decide +kernel
theorem d_Grid_lastRow_34 : decode b_Grid_lastRow 34 = .ok (.l2i, 1) := by decide +kernel
theorem d_Grid_lastRow_35 : decode b_Grid_lastRow 35 = .ok (.ireturn, 1) := by decide +kernel
theorem d_Grid_bitsFromTo_0 : decode b_Grid_bitsFromTo 0 = .ok (.lload_n 0, 1) := by decide +kernel
theorem d_Grid_bitsFromTo_1 : decode b_Grid_bitsFromTo 1 = .ok (.lload_n 2, 1) := by decide +kernel
theorem d_Grid_bitsFromTo_2 : decode b_Grid_bitsFromTo 2 = .ok (.lcmp, 1) := by decide +kernel
theorem d_Grid_bitsFromTo_3 : decode b_Grid_bitsFromTo 3 = .ok (.ifCond .gt 23, 3) := by decide +kernel
theorem d_Grid_bitsFromTo_6 : decode b_Grid_bitsFromTo 6 = .ok (.ldc2_w 79, 3) := by decide +kernel
theorem d_Grid_bitsFromTo_9 : decode b_Grid_bitsFromTo 9 = .ok (.lload_n 0, 1) := by decide +kernel
theorem d_Grid_bitsFromTo_10 : decode b_Grid_bitsFromTo 10 = .ok (.l2i, 1) := by decide +kernel
theorem d_Grid_bitsFromTo_11 : decode b_Grid_bitsFromTo 11 = .ok (.lshl, 1) := by decide +kernel
theorem d_Grid_bitsFromTo_12 : decode b_Grid_bitsFromTo 12 = .ok (.ldc2_w 79, 3) := by decide +kernel
theorem d_Grid_bitsFromTo_15 : decode b_Grid_bitsFromTo 15 = .ok (.ldc2_w 120, 3) := by decide +kernel
theorem d_Grid_bitsFromTo_18 : decode b_Grid_bitsFromTo 18 = .ok (.lload_n 2, 1) := by decide +kernel
theorem d_Grid_bitsFromTo_19 : decode b_Grid_bitsFromTo 19 = .ok (.lsub, 1) := by decide +kernel
theorem d_Grid_bitsFromTo_20 : decode b_Grid_bitsFromTo 20 = .ok (.l2i, 1) := by decide +kernel
theorem d_Grid_bitsFromTo_21 : decode b_Grid_bitsFromTo 21 = .ok (.lushr, 1) := by decide +kernel
theorem d_Grid_bitsFromTo_22 : decode b_Grid_bitsFromTo 22 = .ok (.land, 1) := by decide +kernel
theorem d_Grid_bitsFromTo_23 : decode b_Grid_bitsFromTo 23 = .ok (.goto 4, 3) := by decide +kernel
theorem d_Grid_bitsFromTo_26 : decode b_Grid_bitsFromTo 26 = .ok (.lconst 0, 1) := by decide +kernel
theorem d_Grid_bitsFromTo_27 : decode b_Grid_bitsFromTo 27 = .ok (.lreturn, 1) := by decide +kernel
theorem d_Painter_init_0 : decode b_Painter_init 0 = .ok (.aload_n 0, 1) := by decide +kernel
theorem d_Painter_init_1 : decode b_Painter_init 1 = .ok (.invokespecial 3, 3) := by decide +kernel
theorem d_Painter_init_4 : decode b_Painter_init 4 = .ok (.aload_n 0, 1) := by decide +kernel
theorem d_Painter_init_5 : decode b_Painter_init 5 = .ok (.aload_n 1, 1) := by decide +kernel
theorem d_Painter_init_6 : decode b_Painter_init 6 = .ok (.putfield 9, 3) := by decide +kernel
theorem d_Painter_init_9 : decode b_Painter_init 9 = .ok (.aload_n 0, 1) := by decide +kernel
theorem d_Painter_init_10 : decode b_Painter_init 10 = .ok (.aload_n 2, 1) := by decide +kernel
theorem d_Painter_init_11 : decode b_Painter_init 11 = .ok (.putfield 15, 3) := by decide +kernel
theorem d_Painter_init_14 : decode b_Painter_init 14 = .ok (.aload_n 0, 1) := by decide +kernel
theorem d_Painter_init_15 : decode b_Painter_init 15 = .ok (.aload_n 3, 1) := by decide +kernel
theorem d_Painter_init_16 : decode b_Painter_init 16 = .ok (.putfield 19, 3) := by decide +kernel
theorem d_Painter_init_19 : decode b_Painter_init 19 = .ok (.return_, 1) := by decide +kernel
theorem d_Painter_paint_0 : decode b_Painter_paint 0 = .ok (.iconst 0, 1) := by decide +kernel
theorem d_Painter_paint_1 : decode b_Painter_paint 1 = .ok (.istore_n 1, 1) := by decide +kernel
theorem d_Painter_paint_2 : decode b_Painter_paint 2 = .ok (.iload_n 1, 1) := by decide +kernel
theorem d_Painter_paint_3 : decode b_Painter_paint 3 = .ok (.aload_n 0, 1) := by decide +kernel
theorem d_Painter_paint_4 : decode b_Painter_paint 4 = .ok (.getfield 15, 3) := by decide +kernel
theorem d_Painter_paint_7 : decode b_Painter_paint 7 = .ok (.getfield 23, 3) := by decide +kernel
theorem d_Painter_paint_10 : decode b_Painter_paint 10 = .ok (.if_icmp .ge 57, 3) := by decide +kernel
theorem d_Painter_paint_13 : decode b_Painter_paint 13 = .ok (.aload_n 0, 1) := by decide +kernel
theorem d_Painter_paint_14 : decode b_Painter_paint 14 = .ok (.getfield 19, 3) := by decide +kernel
theorem d_Painter_paint_17 : decode b_Painter_paint 17 = .ok (.invokevirtual 29, 3) := by decide +kernel
theorem d_Painter_paint_20 : decode b_Painter_paint 20 = .ok (.ifCond .ne 47, 3) := by decide +kernel
theorem d_Painter_paint_23 : decode b_Painter_paint 23 = .ok (.aload_n 0, 1) := by decide +kernel
theorem d_Painter_paint_24 : decode b_Painter_paint 24 = .ok (.iload_n 1, 1) := by decide +kernel
theorem d_Painter_paint_25 : decode b_Painter_paint 25 = .ok (.invokevirtual 35, 3) := by decide +kernel
theorem d_Painter_paint_28 : decode b_Painter_paint 28 = .ok (.ifCond .eq 18, 3) := by decide +kernel
theorem d_Painter_paint_31 : decode b_Painter_paint 31 = .ok (.aload_n 0, 1) := by decide +kernel
theorem d_Painter_paint_32 : decode b_Painter_paint 32 = .ok (.iload_n 1, 1) := by decide +kernel
theorem d_Painter_paint_33 : decode b_Painter_paint 33 = .ok (.invokevirtual 39, 3) := by decide +kernel
theorem d_Painter_paint_36 : decode b_Painter_paint 36 = .ok (.aload_n 0, 1) := by decide +kernel
theorem d_Painter_paint_37 : decode b_Painter_paint 37 = .ok (.iload_n 1, 1) := by decide +kernel
theorem d_Painter_paint_38 : decode b_Painter_paint 38 = .ok (.invokevirtual 43, 3) := by decide +kernel
theorem d_Painter_paint_41 : decode b_Painter_paint 41 = .ok (.aload_n 0, 1) := by decide +kernel
theorem d_Painter_paint_42 : decode b_Painter_paint 42 = .ok (.iload_n 1, 1) := by decide +kernel
theorem d_Painter_paint_43 : decode b_Painter_paint 43 = .ok (.invokevirtual 46, 3) := by decide +kernel
theorem d_Painter_paint_46 : decode b_Painter_paint 46 = .ok (.aload_n 0, 1) := by decide +kernel
theorem d_Painter_paint_47 : decode b_Painter_paint 47 = .ok (.getfield 9, 3) := by decide +kernel
theorem d_Painter_paint_50 : decode b_Painter_paint 50 = .ok (.getfield 49, 3) := by decide +kernel
theorem d_Painter_paint_53 : decode b_Painter_paint 53 = .ok (.ifCond .ne 8, 3) := by decide +kernel
theorem d_Painter_paint_56 : decode b_Painter_paint 56 = .ok (.aload_n 0, 1) := by decide +kernel
theorem d_Painter_paint_57 : decode b_Painter_paint 57 = .ok (.iload_n 1, 1) := by decide +kernel
theorem d_Painter_paint_58 : decode b_Painter_paint 58 = .ok (.invokevirtual 54, 3) := by decide +kernel
theorem d_Painter_paint_61 : decode b_Painter_paint 61 = .ok (.iinc 1 1, 3) := by decide +kernel
theorem d_Painter_paint_64 : decode b_Painter_paint 64 = .ok (.goto (-62), 3) := by decide +kernel
theorem d_Painter_paint_67 : decode b_Painter_paint 67 = .ok (.return_, 1) := by decide +kernel
theorem d_Painter_isNear_0 : decode b_Painter_isNear 0 = .ok (.iconst 2, 1) := by decide +kernel
theorem d_Painter_isNear_1 : decode b_Painter_isNear 1 = .ok (.aload_n 0, 1) := by decide +kernel
theorem d_Painter_isNear_2 : decode b_Painter_isNear 2 = .ok (.getfield 9, 3) := by decide +kernel
theorem d_Painter_isNear_5 : decode b_Painter_isNear 5 = .ok (.getfield 57, 3) := by decide +kernel
theorem d_Painter_isNear_8 : decode b_Painter_isNear 8 = .ok (.imul, 1) := by decide +kernel
theorem d_Painter_isNear_9 : decode b_Painter_isNear 9 = .ok (.istore_n 2, 1) := by decide +kernel
theorem d_Painter_isNear_10 : decode b_Painter_isNear 10 = .ok (.aload_n 0, 1) := by decide +kernel
theorem d_Painter_isNear_11 : decode b_Painter_isNear 11 = .ok (.getfield 19, 3) := by decide +kernel
theorem d_Painter_isNear_14 : decode b_Painter_isNear 14 = .ok (.aload_n 0, 1) := by decide +kernel
theorem d_Painter_isNear_15 : decode b_Painter_isNear 15 = .ok (.getfield 15, 3) := by decide +kernel
theorem d_Painter_isNear_18 : decode b_Painter_isNear 18 = .ok (.getfield 60, 3) := by decide +kernel
theorem d_Painter_isNear_21 : decode b_Painter_isNear 21 = .ok (.iload_n 1, 1) := by decide +kernel
theorem d_Painter_isNear_22 : decode b_Painter_isNear 22 = .ok (.iaload, 1) := by decide +kernel
theorem d_Painter_isNear_23 : decode b_Painter_isNear 23 = .ok (.aload_n 0, 1) := by decide +kernel
theorem d_Painter_isNear_24 : decode b_Painter_isNear 24 = .ok (.getfield 15, 3) := by decide +kernel
theorem d_Painter_isNear_27 : decode b_Painter_isNear 27 = .ok (.getfield 64, 3) := by decide +kernel
theorem d_Painter_isNear_30 : decode b_Painter_isNear 30 = .ok (.iload_n 1, 1) := by decide +kernel
theorem d_Painter_isNear_31 : decode b_Painter_isNear 31 = .ok (.iaload, 1) := by decide +kernel
theorem d_Painter_isNear_32 : decode b_Painter_isNear 32 = .ok (.invokestatic 67, 3) := by decide +kernel
theorem d_Painter_isNear_35 : decode b_Painter_isNear 35 = .ok (.iload_n 2, 1) := by decide +kernel
theorem d_Painter_isNear_36 : decode b_Painter_isNear 36 = .ok (.isub, 1) := by decide +kernel
theorem d_Painter_isNear_37 : decode b_Painter_isNear 37 = .ok (.i2l, 1) := by decide +kernel
theorem d_Painter_isNear_38 : decode b_Painter_isNear 38 = .ok (.aload_n 0, 1) := by decide +kernel
theorem d_Painter_isNear_39 : decode b_Painter_isNear 39 = .ok (.getfield 15, 3) := by decide +kernel
theorem d_Painter_isNear_42 : decode b_Painter_isNear 42 = .ok (.getfield 60, 3) := by decide +kernel
theorem d_Painter_isNear_45 : decode b_Painter_isNear 45 = .ok (.iload_n 1, 1) := by decide +kernel
theorem d_Painter_isNear_46 : decode b_Painter_isNear 46 = .ok (.iaload, 1) := by decide +kernel
theorem d_Painter_isNear_47 : decode b_Painter_isNear 47 = .ok (.aload_n 0, 1) := by decide +kernel
theorem d_Painter_isNear_48 : decode b_Painter_isNear 48 = .ok (.getfield 15, 3) := by decide +kernel
theorem d_Painter_isNear_51 : decode b_Painter_isNear 51 = .ok (.getfield 64, 3) := by decide +kernel
theorem d_Painter_isNear_54 : decode b_Painter_isNear 54 = .ok (.iload_n 1, 1) := by decide +kernel
theorem d_Painter_isNear_55 : decode b_Painter_isNear 55 = .ok (.iaload, 1) := by decide +kernel
theorem d_Painter_isNear_56 : decode b_Painter_isNear 56 = .ok (.invokestatic 73, 3) := by decide +kernel
theorem d_Painter_isNear_59 : decode b_Painter_isNear 59 = .ok (.iload_n 2, 1) := by decide +kernel
theorem d_Painter_isNear_60 : decode b_Painter_isNear 60 = .ok (.iadd, 1) := by decide +kernel
theorem d_Painter_isNear_61 : decode b_Painter_isNear 61 = .ok (.i2l, 1) := by decide +kernel
theorem d_Painter_isNear_62 : decode b_Painter_isNear 62 = .ok (.aload_n 0, 1) := by decide +kernel
theorem d_Painter_isNear_63 : decode b_Painter_isNear 63 = .ok (.getfield 15, 3) := by decide +kernel
theorem d_Painter_isNear_66 : decode b_Painter_isNear 66 = .ok (.getfield 76, 3) := by decide +kernel
theorem d_Painter_isNear_69 : decode b_Painter_isNear 69 = .ok (.iload_n 1, 1) := by decide +kernel
theorem d_Painter_isNear_70 : decode b_Painter_isNear 70 = .ok (.iaload, 1) := by decide +kernel
theorem d_Painter_isNear_71 : decode b_Painter_isNear 71 = .ok (.aload_n 0, 1) := by decide +kernel
theorem d_Painter_isNear_72 : decode b_Painter_isNear 72 = .ok (.getfield 15, 3) := by decide +kernel
theorem d_Painter_isNear_75 : decode b_Painter_isNear 75 = .ok (.getfield 79, 3) := by decide +kernel
theorem d_Painter_isNear_78 : decode b_Painter_isNear 78 = .ok (.iload_n 1, 1) := by decide +kernel
theorem d_Painter_isNear_79 : decode b_Painter_isNear 79 = .ok (.iaload, 1) := by decide +kernel
theorem d_Painter_isNear_80 : decode b_Painter_isNear 80 = .ok (.invokestatic 67, 3) := by decide +kernel
theorem d_Painter_isNear_83 : decode b_Painter_isNear 83 = .ok (.iload_n 2, 1) := by decide +kernel
theorem d_Painter_isNear_84 : decode b_Painter_isNear 84 = .ok (.isub, 1) := by decide +kernel
theorem d_Painter_isNear_85 : decode b_Painter_isNear 85 = .ok (.i2l, 1) := by decide +kernel
theorem d_Painter_isNear_86 : decode b_Painter_isNear 86 = .ok (.aload_n 0, 1) := by decide +kernel
theorem d_Painter_isNear_87 : decode b_Painter_isNear 87 = .ok (.getfield 15, 3) := by decide +kernel
theorem d_Painter_isNear_90 : decode b_Painter_isNear 90 = .ok (.getfield 76, 3) := by decide +kernel
theorem d_Painter_isNear_93 : decode b_Painter_isNear 93 = .ok (.iload_n 1, 1) := by decide +kernel
theorem d_Painter_isNear_94 : decode b_Painter_isNear 94 = .ok (.iaload, 1) := by decide +kernel
theorem d_Painter_isNear_95 : decode b_Painter_isNear 95 = .ok (.aload_n 0, 1) := by decide +kernel
theorem d_Painter_isNear_96 : decode b_Painter_isNear 96 = .ok (.getfield 15, 3) := by decide +kernel
theorem d_Painter_isNear_99 : decode b_Painter_isNear 99 = .ok (.getfield 79, 3) := by decide +kernel
theorem d_Painter_isNear_102 : decode b_Painter_isNear 102 = .ok (.iload_n 1, 1) := by decide +kernel
theorem d_Painter_isNear_103 : decode b_Painter_isNear 103 = .ok (.iaload, 1) := by decide +kernel
theorem d_Painter_isNear_104 : decode b_Painter_isNear 104 = .ok (.invokestatic 73, 3) := by decide +kernel
theorem d_Painter_isNear_107 : decode b_Painter_isNear 107 = .ok (.iload_n 2, 1) := by decide +kernel
theorem d_Painter_isNear_108 : decode b_Painter_isNear 108 = .ok (.iadd, 1) := by decide +kernel
theorem d_Painter_isNear_109 : decode b_Painter_isNear 109 = .ok (.i2l, 1) := by decide +kernel
theorem d_Painter_isNear_110 : decode b_Painter_isNear 110 = .ok (.invokevirtual 82, 3) := by decide +kernel
theorem d_Painter_isNear_113 : decode b_Painter_isNear 113 = .ok (.ireturn, 1) := by decide +kernel
theorem d_Painter_paintBody_0 : decode b_Painter_paintBody 0 = .ok (.aload_n 0, 1) := by decide +kernel
theorem d_Painter_paintBody_1 : decode b_Painter_paintBody 1 = .ok (.getfield 15, 3) := by decide +kernel
theorem d_Painter_paintBody_4 : decode b_Painter_paintBody 4 = .ok (.getfield 64, 3) := by decide +kernel
theorem d_Painter_paintBody_7 : decode b_Painter_paintBody 7 = .ok (.iload_n 1, 1) := by decide +kernel
theorem d_Painter_paintBody_8 : decode b_Painter_paintBody 8 = .ok (.iaload, 1) := by decide +kernel
theorem d_Painter_paintBody_9 : decode b_Painter_paintBody 9 = .ok (.aload_n 0, 1) := by decide +kernel
theorem d_Painter_paintBody_10 : decode b_Painter_paintBody 10 = .ok (.getfield 15, 3) := by decide +kernel
theorem d_Painter_paintBody_13 : decode b_Painter_paintBody 13 = .ok (.getfield 60, 3) := by decide +kernel
theorem d_Painter_paintBody_16 : decode b_Painter_paintBody 16 = .ok (.iload_n 1, 1) := by decide +kernel
theorem d_Painter_paintBody_17 : decode b_Painter_paintBody 17 = .ok (.iaload, 1) := by decide +kernel
theorem d_Painter_paintBody_18 : decode b_Painter_paintBody 18 = .ok (.isub, 1) := by decide +kernel
theorem d_Painter_paintBody_19 : decode b_Painter_paintBody 19 = .ok (.istore_n 2, 1) := by decide +kernel
theorem d_Painter_paintBody_20 : decode b_Painter_paintBody 20 = .ok (.aload_n 0, 1) := by decide +kernel
theorem d_Painter_paintBody_21 : decode b_Painter_paintBody 21 = .ok (.getfield 15, 3) := by decide +kernel
theorem d_Painter_paintBody_24 : decode b_Painter_paintBody 24 = .ok (.getfield 79, 3) := by decide +kernel
theorem d_Painter_paintBody_27 : decode b_Painter_paintBody 27 = .ok (.iload_n 1, 1) := by decide +kernel
theorem d_Painter_paintBody_28 : decode b_Painter_paintBody 28 = .ok (.iaload, 1) := by decide +kernel
theorem d_Painter_paintBody_29 : decode b_Painter_paintBody 29 = .ok (.aload_n 0, 1) := by decide +kernel
theorem d_Painter_paintBody_30 : decode b_Painter_paintBody 30 = .ok (.getfield 15, 3) := by decide +kernel
theorem d_Painter_paintBody_33 : decode b_Painter_paintBody 33 = .ok (.getfield 76, 3) := by decide +kernel
theorem d_Painter_paintBody_36 : decode b_Painter_paintBody 36 = .ok (.iload_n 1, 1) := by decide +kernel
theorem d_Painter_paintBody_37 : decode b_Painter_paintBody 37 = .ok (.iaload, 1) := by decide +kernel
theorem d_Painter_paintBody_38 : decode b_Painter_paintBody 38 = .ok (.isub, 1) := by decide +kernel
theorem d_Painter_paintBody_39 : decode b_Painter_paintBody 39 = .ok (.istore_n 3, 1) := by decide +kernel
theorem d_Painter_paintBody_40 : decode b_Painter_paintBody 40 = .ok (.aload_n 0, 1) := by decide +kernel
theorem d_Painter_paintBody_41 : decode b_Painter_paintBody 41 = .ok (.getfield 15, 3) := by decide +kernel
theorem d_Painter_paintBody_44 : decode b_Painter_paintBody 44 = .ok (.getfield 86, 3) := by decide +kernel
theorem d_Painter_paintBody_47 : decode b_Painter_paintBody 47 = .ok (.iload_n 1, 1) := by decide +kernel
theorem d_Painter_paintBody_48 : decode b_Painter_paintBody 48 = .ok (.iaload, 1) := by decide +kernel
theorem d_Painter_paintBody_49 : decode b_Painter_paintBody 49 = .ok (.istore 4, 2) := by decide +kernel
theorem d_Painter_paintBody_51 : decode b_Painter_paintBody 51 = .ok (.aload_n 0, 1) := by decide +kernel
theorem d_Painter_paintBody_52 : decode b_Painter_paintBody 52 = .ok (.getfield 15, 3) := by decide +kernel
theorem d_Painter_paintBody_55 : decode b_Painter_paintBody 55 = .ok (.getfield 89, 3) := by decide +kernel
theorem d_Painter_paintBody_58 : decode b_Painter_paintBody 58 = .ok (.iload_n 1, 1) := by decide +kernel
theorem d_Painter_paintBody_59 : decode b_Painter_paintBody 59 = .ok (.iaload, 1) := by decide +kernel
theorem d_Painter_paintBody_60 : decode b_Painter_paintBody 60 = .ok (.istore 5, 2) := by decide +kernel
theorem d_Painter_paintBody_62 : decode b_Painter_paintBody 62 = .ok (.iload_n 2, 1) := by decide +kernel
theorem d_Painter_paintBody_63 : decode b_Painter_paintBody 63 = .ok (.ifCond .ne 8, 3) := by decide +kernel
theorem d_Painter_paintBody_66 : decode b_Painter_paintBody 66 = .ok (.iload_n 3, 1) := by decide +kernel
theorem d_Painter_paintBody_67 : decode b_Painter_paintBody 67 = .ok (.ifCond .ne 4, 3) := by decide +kernel
theorem d_Painter_paintBody_70 : decode b_Painter_paintBody 70 = .ok (.return_, 1) := by decide +kernel
theorem d_Painter_paintBody_71 : decode b_Painter_paintBody 71 = .ok (.aload_n 0, 1) := by decide +kernel
theorem d_Painter_paintBody_72 : decode b_Painter_paintBody 72 = .ok (.getfield 19, 3) := by decide +kernel
theorem d_Painter_paintBody_75 : decode b_Painter_paintBody 75 = .ok (.aload_n 0, 1) := by decide +kernel
theorem d_Painter_paintBody_76 : decode b_Painter_paintBody 76 = .ok (.getfield 15, 3) := by decide +kernel
theorem d_Painter_paintBody_79 : decode b_Painter_paintBody 79 = .ok (.getfield 60, 3) := by decide +kernel
theorem d_Painter_paintBody_82 : decode b_Painter_paintBody 82 = .ok (.iload_n 1, 1) := by decide +kernel
theorem d_Painter_paintBody_83 : decode b_Painter_paintBody 83 = .ok (.iaload, 1) := by decide +kernel
theorem d_Painter_paintBody_84 : decode b_Painter_paintBody 84 = .ok (.aload_n 0, 1) := by decide +kernel
theorem d_Painter_paintBody_85 : decode b_Painter_paintBody 85 = .ok (.getfield 15, 3) := by decide +kernel
theorem d_Painter_paintBody_88 : decode b_Painter_paintBody 88 = .ok (.getfield 76, 3) := by decide +kernel
theorem d_Painter_paintBody_91 : decode b_Painter_paintBody 91 = .ok (.iload_n 1, 1) := by decide +kernel
theorem d_Painter_paintBody_92 : decode b_Painter_paintBody 92 = .ok (.iaload, 1) := by decide +kernel
theorem d_Painter_paintBody_93 : decode b_Painter_paintBody 93 = .ok (.invokevirtual 92, 3) := by decide +kernel
theorem d_Painter_paintBody_96 : decode b_Painter_paintBody 96 = .ok (.aload_n 0, 1) := by decide +kernel
theorem d_Painter_paintBody_97 : decode b_Painter_paintBody 97 = .ok (.getfield 19, 3) := by decide +kernel
theorem d_Painter_paintBody_100 : decode b_Painter_paintBody 100 = .ok (.iload 4, 2) := by decide +kernel
theorem d_Painter_paintBody_102 : decode b_Painter_paintBody 102 = .ok (.i2l, 1) := by decide +kernel
theorem d_Painter_paintBody_103 : decode b_Painter_paintBody 103 = .ok (.iload 5, 2) := by decide +kernel
theorem d_Painter_paintBody_105 : decode b_Painter_paintBody 105 = .ok (.i2l, 1) := by decide +kernel
theorem d_Painter_paintBody_106 : decode b_Painter_paintBody 106 = .ok (.invokevirtual 96, 3) := by decide +kernel
theorem d_Painter_paintBody_109 : decode b_Painter_paintBody 109 = .ok (.aload_n 0, 1) := by decide +kernel
theorem d_Painter_paintBody_110 : decode b_Painter_paintBody 110 = .ok (.getfield 19, 3) := by decide +kernel
theorem d_Painter_paintBody_113 : decode b_Painter_paintBody 113 = .ok (.iload_n 2, 1) := by decide +kernel
theorem d_Painter_paintBody_114 : decode b_Painter_paintBody 114 = .ok (.iload 4, 2) := by decide +kernel
theorem d_Painter_paintBody_116 : decode b_Painter_paintBody 116 = .ok (.iadd, 1) := by decide +kernel
theorem d_Painter_paintBody_117 : decode b_Painter_paintBody 117 = .ok (.i2l, 1) := by decide +kernel
theorem d_Painter_paintBody_118 : decode b_Painter_paintBody 118 = .ok (.iload_n 3, 1) := by decide +kernel
theorem d_Painter_paintBody_119 : decode b_Painter_paintBody 119 = .ok (.iload 5, 2) := by decide +kernel
theorem d_Painter_paintBody_121 : decode b_Painter_paintBody 121 = .ok (.iadd, 1) := by decide +kernel
theorem d_Painter_paintBody_122 : decode b_Painter_paintBody 122 = .ok (.i2l, 1) := by decide +kernel
theorem d_Painter_paintBody_123 : decode b_Painter_paintBody 123 = .ok (.invokevirtual 96, 3) := by decide +kernel
theorem d_Painter_paintBody_126 : decode b_Painter_paintBody 126 = .ok (.aload_n 0, 1) := by decide +kernel
theorem d_Painter_paintBody_127 : decode b_Painter_paintBody 127 = .ok (.getfield 19, 3) := by decide +kernel
theorem d_Painter_paintBody_130 : decode b_Painter_paintBody 130 = .ok (.iload_n 2, 1) := by decide +kernel
theorem d_Painter_paintBody_131 : decode b_Painter_paintBody 131 = .ok (.iload 4, 2) := by decide +kernel
theorem d_Painter_paintBody_133 : decode b_Painter_paintBody 133 = .ok (.isub, 1) := by decide +kernel
theorem d_Painter_paintBody_134 : decode b_Painter_paintBody 134 = .ok (.i2l, 1) := by decide +kernel
theorem d_Painter_paintBody_135 : decode b_Painter_paintBody 135 = .ok (.iload_n 3, 1) := by decide +kernel
theorem d_Painter_paintBody_136 : decode b_Painter_paintBody 136 = .ok (.iload 5, 2) := by decide +kernel
theorem d_Painter_paintBody_138 : decode b_Painter_paintBody 138 = .ok (.isub, 1) := by decide +kernel
theorem d_Painter_paintBody_139 : decode b_Painter_paintBody 139 = .ok (.i2l, 1) := by decide +kernel
theorem d_Painter_paintBody_140 : decode b_Painter_paintBody 140 = .ok (.invokevirtual 96, 3) := by decide +kernel
theorem d_Painter_paintBody_143 : decode b_Painter_paintBody 143 = .ok (.aload_n 0, 1) := by decide +kernel
theorem d_Painter_paintBody_144 : decode b_Painter_paintBody 144 = .ok (.getfield 19, 3) := by decide +kernel
theorem d_Painter_paintBody_147 : decode b_Painter_paintBody 147 = .ok (.iload 4, 2) := by decide +kernel
theorem d_Painter_paintBody_149 : decode b_Painter_paintBody 149 = .ok (.ineg, 1) := by decide +kernel
theorem d_Painter_paintBody_150 : decode b_Painter_paintBody 150 = .ok (.i2l, 1) := by decide +kernel
theorem d_Painter_paintBody_151 : decode b_Painter_paintBody 151 = .ok (.iload 5, 2) := by decide +kernel
theorem d_Painter_paintBody_153 : decode b_Painter_paintBody 153 = .ok (.ineg, 1) := by decide +kernel
theorem d_Painter_paintBody_154 : decode b_Painter_paintBody 154 = .ok (.i2l, 1) := by decide +kernel
theorem d_Painter_paintBody_155 : decode b_Painter_paintBody 155 = .ok (.invokevirtual 96, 3) := by decide +kernel
theorem d_Painter_paintBody_158 : decode b_Painter_paintBody 158 = .ok (.aload_n 0, 1) := by decide +kernel
theorem d_Painter_paintBody_159 : decode b_Painter_paintBody 159 = .ok (.getfield 19, 3) := by decide +kernel
theorem d_Painter_paintBody_162 : decode b_Painter_paintBody 162 = .ok (.invokevirtual 100, 3) := by decide +kernel
theorem d_Painter_paintBody_165 : decode b_Painter_paintBody 165 = .ok (.return_, 1) := by decide +kernel
theorem d_Painter_paintCaps_0 : decode b_Painter_paintCaps 0 = .ok (.aload_n 0, 1) := by decide +kernel
theorem d_Painter_paintCaps_1 : decode b_Painter_paintCaps 1 = .ok (.getfield 15, 3) := by decide +kernel
theorem d_Painter_paintCaps_4 : decode b_Painter_paintCaps 4 = .ok (.getfield 103, 3) := by decide +kernel
theorem d_Painter_paintCaps_7 : decode b_Painter_paintCaps 7 = .ok (.iload_n 1, 1) := by decide +kernel
theorem d_Painter_paintCaps_8 : decode b_Painter_paintCaps 8 = .ok (.iaload, 1) := by decide +kernel
theorem d_Painter_paintCaps_9 : decode b_Painter_paintCaps 9 = .ok (.ifCond .ge 27, 3) := by decide +kernel
theorem d_Painter_paintCaps_12 : decode b_Painter_paintCaps 12 = .ok (.aload_n 0, 1) := by decide +kernel
theorem d_Painter_paintCaps_13 : decode b_Painter_paintCaps 13 = .ok (.aload_n 0, 1) := by decide +kernel
theorem d_Painter_paintCaps_14 : decode b_Painter_paintCaps 14 = .ok (.getfield 15, 3) := by decide +kernel
theorem d_Painter_paintCaps_17 : decode b_Painter_paintCaps 17 = .ok (.getfield 60, 3) := by decide +kernel
theorem d_Painter_paintCaps_20 : decode b_Painter_paintCaps 20 = .ok (.iload_n 1, 1) := by decide +kernel
theorem d_Painter_paintCaps_21 : decode b_Painter_paintCaps 21 = .ok (.iaload, 1) := by decide +kernel
theorem d_Painter_paintCaps_22 : decode b_Painter_paintCaps 22 = .ok (.aload_n 0, 1) := by decide +kernel
theorem d_Painter_paintCaps_23 : decode b_Painter_paintCaps 23 = .ok (.getfield 15, 3) := by decide +kernel
theorem d_Painter_paintCaps_26 : decode b_Painter_paintCaps 26 = .ok (.getfield 76, 3) := by decide +kernel
theorem d_Painter_paintCaps_29 : decode b_Painter_paintCaps 29 = .ok (.iload_n 1, 1) := by decide +kernel
theorem d_Painter_paintCaps_30 : decode b_Painter_paintCaps 30 = .ok (.iaload, 1) := by decide +kernel
theorem d_Painter_paintCaps_31 : decode b_Painter_paintCaps 31 = .ok (.iload_n 1, 1) := by decide +kernel
theorem d_Painter_paintCaps_32 : decode b_Painter_paintCaps 32 = .ok (.iconst (-1), 1) := by decide +kernel
theorem d_Painter_paintCaps_33 : decode b_Painter_paintCaps 33 = .ok (.invokevirtual 106, 3) := by decide +kernel
theorem d_Painter_paintCaps_36 : decode b_Painter_paintCaps 36 = .ok (.aload_n 0, 1) := by decide +kernel
theorem d_Painter_paintCaps_37 : decode b_Painter_paintCaps 37 = .ok (.getfield 15, 3) := by decide +kernel
theorem d_Painter_paintCaps_40 : decode b_Painter_paintCaps 40 = .ok (.getfield 110, 3) := by decide +kernel
theorem d_Painter_paintCaps_43 : decode b_Painter_paintCaps 43 = .ok (.iload_n 1, 1) := by decide +kernel
theorem d_Painter_paintCaps_44 : decode b_Painter_paintCaps 44 = .ok (.iaload, 1) := by decide +kernel
theorem d_Painter_paintCaps_45 : decode b_Painter_paintCaps 45 = .ok (.iconst 1, 1) := by decide +kernel
theorem d_Painter_paintCaps_46 : decode b_Painter_paintCaps 46 = .ok (.if_icmp .ne 27, 3) := by decide +kernel
theorem d_Painter_paintCaps_49 : decode b_Painter_paintCaps 49 = .ok (.aload_n 0, 1) := by decide +kernel
theorem d_Painter_paintCaps_50 : decode b_Painter_paintCaps 50 = .ok (.aload_n 0, 1) := by decide +kernel
theorem d_Painter_paintCaps_51 : decode b_Painter_paintCaps 51 = .ok (.getfield 15, 3) := by decide +kernel
theorem d_Painter_paintCaps_54 : decode b_Painter_paintCaps 54 = .ok (.getfield 64, 3) := by decide +kernel
theorem d_Painter_paintCaps_57 : decode b_Painter_paintCaps 57 = .ok (.iload_n 1, 1) := by decide +kernel
theorem d_Painter_paintCaps_58 : decode b_Painter_paintCaps 58 = .ok (.iaload, 1) := by decide +kernel
theorem d_Painter_paintCaps_59 : decode b_Painter_paintCaps 59 = .ok (.aload_n 0, 1) := by decide +kernel
theorem d_Painter_paintCaps_60 : decode b_Painter_paintCaps 60 = .ok (.getfield 15, 3) := by decide +kernel
theorem d_Painter_paintCaps_63 : decode b_Painter_paintCaps 63 = .ok (.getfield 79, 3) := by decide +kernel
theorem d_Painter_paintCaps_66 : decode b_Painter_paintCaps 66 = .ok (.iload_n 1, 1) := by decide +kernel
theorem d_Painter_paintCaps_67 : decode b_Painter_paintCaps 67 = .ok (.iaload, 1) := by decide +kernel
theorem d_Painter_paintCaps_68 : decode b_Painter_paintCaps 68 = .ok (.iload_n 1, 1) := by decide +kernel
theorem d_Painter_paintCaps_69 : decode b_Painter_paintCaps 69 = .ok (.iconst 1, 1) := by decide +kernel
theorem d_Painter_paintCaps_70 : decode b_Painter_paintCaps 70 = .ok (.invokevirtual 106, 3) := by decide +kernel
theorem d_Painter_paintCaps_73 : decode b_Painter_paintCaps 73 = .ok (.return_, 1) := by decide +kernel
theorem d_Painter_paintCap_0 : decode b_Painter_paintCap 0 = .ok (.aload_n 0, 1) := by decide +kernel
theorem d_Painter_paintCap_1 : decode b_Painter_paintCap 1 = .ok (.getfield 9, 3) := by decide +kernel
theorem d_Painter_paintCap_4 : decode b_Painter_paintCap 4 = .ok (.getfield 113, 3) := by decide +kernel
theorem d_Painter_paintCap_7 : decode b_Painter_paintCap 7 = .ok (.iconst 1, 1) := by decide +kernel
theorem d_Painter_paintCap_8 : decode b_Painter_paintCap 8 = .ok (.if_icmp .ne 22, 3) := by decide +kernel
theorem d_Painter_paintCap_11 : decode b_Painter_paintCap 11 = .ok (.aload_n 0, 1) := by decide +kernel
theorem d_Painter_paintCap_12 : decode b_Painter_paintCap 12 = .ok (.getfield 19, 3) := by decide +kernel
theorem d_Painter_paintCap_15 : decode b_Painter_paintCap 15 = .ok (.iload_n 1, 1) := by decide +kernel
theorem d_Painter_paintCap_16 : decode b_Painter_paintCap 16 = .ok (.iload_n 2, 1) := by decide +kernel
theorem d_Painter_paintCap_17 : decode b_Painter_paintCap 17 = .ok (.aload_n 0, 1) := by decide +kernel
theorem d_Painter_paintCap_18 : decode b_Painter_paintCap 18 = .ok (.getfield 9, 3) := by decide +kernel
theorem d_Painter_paintCap_21 : decode b_Painter_paintCap 21 = .ok (.getfield 57, 3) := by decide +kernel
theorem d_Painter_paintCap_24 : decode b_Painter_paintCap 24 = .ok (.invokevirtual 116, 3) := by decide +kernel
theorem d_Painter_paintCap_27 : decode b_Painter_paintCap 27 = .ok (.goto 146, 3) := by decide +kernel
theorem d_Painter_paintCap_30 : decode b_Painter_paintCap 30 = .ok (.aload_n 0, 1) := by decide +kernel
theorem d_Painter_paintCap_31 : decode b_Painter_paintCap 31 = .ok (.getfield 9, 3) := by decide +kernel
theorem d_Painter_paintCap_34 : decode b_Painter_paintCap 34 = .ok (.getfield 113, 3) := by decide +kernel
theorem d_Painter_paintCap_37 : decode b_Painter_paintCap 37 = .ok (.iconst 2, 1) := by decide +kernel
theorem d_Painter_paintCap_38 : decode b_Painter_paintCap 38 = .ok (.if_icmp .ne 135, 3) := by decide +kernel
theorem d_Painter_paintCap_41 : decode b_Painter_paintCap 41 = .ok (.aload_n 0, 1) := by decide +kernel
theorem d_Painter_paintCap_42 : decode b_Painter_paintCap 42 = .ok (.getfield 15, 3) := by decide +kernel
theorem d_Painter_paintCap_45 : decode b_Painter_paintCap 45 = .ok (.getfield 110, 3) := by decide +kernel
theorem d_Painter_paintCap_48 : decode b_Painter_paintCap 48 = .ok (.iload_n 3, 1) := by decide +kernel
theorem d_Painter_paintCap_49 : decode b_Painter_paintCap 49 = .ok (.iaload, 1) := by decide +kernel
theorem d_Painter_paintCap_50 : decode b_Painter_paintCap 50 = .ok (.iconst 2, 1) := by decide +kernel
theorem d_Painter_paintCap_51 : decode b_Painter_paintCap 51 = .ok (.if_icmp .eq 122, 3) := by decide +kernel
theorem d_Painter_paintCap_54 : decode b_Painter_paintCap 54 = .ok (.aload_n 0, 1) := by decide +kernel
theorem d_Painter_paintCap_55 : decode b_Painter_paintCap 55 = .ok (.getfield 15, 3) := by decide +kernel
theorem d_Painter_paintCap_58 : decode b_Painter_paintCap 58 = .ok (.getfield 86, 3) := by decide +kernel
theorem d_Painter_paintCap_61 : decode b_Painter_paintCap 61 = .ok (.iload_n 3, 1) := by decide +kernel
theorem d_Painter_paintCap_62 : decode b_Painter_paintCap 62 = .ok (.iaload, 1) := by decide +kernel
theorem d_Painter_paintCap_63 : decode b_Painter_paintCap 63 = .ok (.istore 5, 2) := by decide +kernel
theorem d_Painter_paintCap_65 : decode b_Painter_paintCap 65 = .ok (.aload_n 0, 1) := by decide +kernel
theorem d_Painter_paintCap_66 : decode b_Painter_paintCap 66 = .ok (.getfield 15, 3) := by decide +kernel
theorem d_Painter_paintCap_69 : decode b_Painter_paintCap 69 = .ok (.getfield 89, 3) := by decide +kernel
theorem d_Painter_paintCap_72 : decode b_Painter_paintCap 72 = .ok (.iload_n 3, 1) := by decide +kernel
theorem d_Painter_paintCap_73 : decode b_Painter_paintCap 73 = .ok (.iaload, 1) := by decide +kernel
theorem d_Painter_paintCap_74 : decode b_Painter_paintCap 74 = .ok (.istore 6, 2) := by decide +kernel
theorem d_Painter_paintCap_76 : decode b_Painter_paintCap 76 = .ok (.iload 6, 2) := by decide +kernel
theorem d_Painter_paintCap_78 : decode b_Painter_paintCap 78 = .ok (.ineg, 1) := by decide +kernel
theorem d_Painter_paintCap_79 : decode b_Painter_paintCap 79 = .ok (.iload 4, 2) := by decide +kernel
theorem d_Painter_paintCap_81 : decode b_Painter_paintCap 81 = .ok (.imul, 1) := by decide +kernel
theorem d_Painter_paintCap_82 : decode b_Painter_paintCap 82 = .ok (.istore 7, 2) := by decide +kernel
theorem d_Painter_paintCap_84 : decode b_Painter_paintCap 84 = .ok (.iload 5, 2) := by decide +kernel
theorem d_Painter_paintCap_86 : decode b_Painter_paintCap 86 = .ok (.iload 4, 2) := by decide +kernel
theorem d_Painter_paintCap_88 : decode b_Painter_paintCap 88 = .ok (.imul, 1) := by decide +kernel
theorem d_Painter_paintCap_89 : decode b_Painter_paintCap 89 = .ok (.istore 8, 2) := by decide +kernel
theorem d_Painter_paintCap_91 : decode b_Painter_paintCap 91 = .ok (.aload_n 0, 1) := by decide +kernel
theorem d_Painter_paintCap_92 : decode b_Painter_paintCap 92 = .ok (.getfield 19, 3) := by decide +kernel
theorem d_Painter_paintCap_95 : decode b_Painter_paintCap 95 = .ok (.iload_n 1, 1) := by decide +kernel
theorem d_Painter_paintCap_96 : decode b_Painter_paintCap 96 = .ok (.iload_n 2, 1) := by decide +kernel
theorem d_Painter_paintCap_97 : decode b_Painter_paintCap 97 = .ok (.invokevirtual 92, 3) := by decide +kernel
theorem d_Painter_paintCap_100 : decode b_Painter_paintCap 100 = .ok (.aload_n 0, 1) := by decide +kernel
theorem d_Painter_paintCap_101 : decode b_Painter_paintCap 101 = .ok (.getfield 19, 3) := by decide +kernel
theorem d_Painter_paintCap_104 : decode b_Painter_paintCap 104 = .ok (.iload 5, 2) := by decide +kernel
theorem d_Painter_paintCap_106 : decode b_Painter_paintCap 106 = .ok (.i2l, 1) := by decide +kernel
theorem d_Painter_paintCap_107 : decode b_Painter_paintCap 107 = .ok (.iload 6, 2) := by decide +kernel
theorem d_Painter_paintCap_109 : decode b_Painter_paintCap 109 = .ok (.i2l, 1) := by decide +kernel
theorem d_Painter_paintCap_110 : decode b_Painter_paintCap 110 = .ok (.invokevirtual 96, 3) := by decide +kernel
theorem d_Painter_paintCap_113 : decode b_Painter_paintCap 113 = .ok (.aload_n 0, 1) := by decide +kernel
theorem d_Painter_paintCap_114 : decode b_Painter_paintCap 114 = .ok (.getfield 19, 3) := by decide +kernel
theorem d_Painter_paintCap_117 : decode b_Painter_paintCap 117 = .ok (.iload 5, 2) := by decide +kernel
theorem d_Painter_paintCap_119 : decode b_Painter_paintCap 119 = .ok (.iload 7, 2) := by decide +kernel
theorem d_Painter_paintCap_121 : decode b_Painter_paintCap 121 = .ok (.iadd, 1) := by decide +kernel
theorem d_Painter_paintCap_122 : decode b_Painter_paintCap 122 = .ok (.i2l, 1) := by decide +kernel
theorem d_Painter_paintCap_123 : decode b_Painter_paintCap 123 = .ok (.iload 6, 2) := by decide +kernel
theorem d_Painter_paintCap_125 : decode b_Painter_paintCap 125 = .ok (.iload 8, 2) := by decide +kernel
theorem d_Painter_paintCap_127 : decode b_Painter_paintCap 127 = .ok (.iadd, 1) := by decide +kernel
theorem d_Painter_paintCap_128 : decode b_Painter_paintCap 128 = .ok (.i2l, 1) := by decide +kernel
theorem d_Painter_paintCap_129 : decode b_Painter_paintCap 129 = .ok (.invokevirtual 96, 3) := by decide +kernel
theorem d_Painter_paintCap_132 : decode b_Painter_paintCap 132 = .ok (.aload_n 0, 1) := by decide +kernel
theorem d_Painter_paintCap_133 : decode b_Painter_paintCap 133 = .ok (.getfield 19, 3) := by decide +kernel
theorem d_Painter_paintCap_136 : decode b_Painter_paintCap 136 = .ok (.iload 7, 2) := by decide +kernel
theorem d_Painter_paintCap_138 : decode b_Painter_paintCap 138 = .ok (.iload 5, 2) := by decide +kernel
theorem d_Painter_paintCap_140 : decode b_Painter_paintCap 140 = .ok (.isub, 1) := by decide +kernel
theorem d_Painter_paintCap_141 : decode b_Painter_paintCap 141 = .ok (.i2l, 1) := by decide +kernel
theorem d_Painter_paintCap_142 : decode b_Painter_paintCap 142 = .ok (.iload 8, 2) := by decide +kernel
theorem d_Painter_paintCap_144 : decode b_Painter_paintCap 144 = .ok (.iload 6, 2) := by decide +kernel
theorem d_Painter_paintCap_146 : decode b_Painter_paintCap 146 = .ok (.isub, 1) := by decide +kernel
theorem d_Painter_paintCap_147 : decode b_Painter_paintCap 147 = .ok (.i2l, 1) := by decide +kernel
theorem d_Painter_paintCap_148 : decode b_Painter_paintCap 148 = .ok (.invokevirtual 96, 3) := by decide +kernel
theorem d_Painter_paintCap_151 : decode b_Painter_paintCap 151 = .ok (.aload_n 0, 1) := by decide +kernel
theorem d_Painter_paintCap_152 : decode b_Painter_paintCap 152 = .ok (.getfield 19, 3) := by decide +kernel
theorem d_Painter_paintCap_155 : decode b_Painter_paintCap 155 = .ok (.iload 5, 2) := by decide +kernel
theorem d_Painter_paintCap_157 : decode b_Painter_paintCap 157 = .ok (.ineg, 1) := by decide +kernel
theorem d_Painter_paintCap_158 : decode b_Painter_paintCap 158 = .ok (.i2l, 1) := by decide +kernel
theorem d_Painter_paintCap_159 : decode b_Painter_paintCap 159 = .ok (.iload 6, 2) := by decide +kernel
theorem d_Painter_paintCap_161 : decode b_Painter_paintCap 161 = .ok (.ineg, 1) := by decide +kernel
theorem d_Painter_paintCap_162 : decode b_Painter_paintCap 162 = .ok (.i2l, 1) := by decide +kernel
theorem d_Painter_paintCap_163 : decode b_Painter_paintCap 163 = .ok (.invokevirtual 96, 3) := by decide +kernel
theorem d_Painter_paintCap_166 : decode b_Painter_paintCap 166 = .ok (.aload_n 0, 1) := by decide +kernel
theorem d_Painter_paintCap_167 : decode b_Painter_paintCap 167 = .ok (.getfield 19, 3) := by decide +kernel
theorem d_Painter_paintCap_170 : decode b_Painter_paintCap 170 = .ok (.invokevirtual 100, 3) := by decide +kernel
theorem d_Painter_paintCap_173 : decode b_Painter_paintCap 173 = .ok (.return_, 1) := by decide +kernel
theorem d_Painter_paintJoin_0 : decode b_Painter_paintJoin 0 = .ok (.aload_n 0, 1) := by decide +kernel
theorem d_Painter_paintJoin_1 : decode b_Painter_paintJoin 1 = .ok (.getfield 15, 3) := by decide +kernel
theorem d_Painter_paintJoin_4 : decode b_Painter_paintJoin 4 = .ok (.getfield 103, 3) := by decide +kernel
theorem d_Painter_paintJoin_7 : decode b_Painter_paintJoin 7 = .ok (.iload_n 1, 1) := by decide +kernel
theorem d_Painter_paintJoin_8 : decode b_Painter_paintJoin 8 = .ok (.iaload, 1) := by decide +kernel
theorem d_Painter_paintJoin_9 : decode b_Painter_paintJoin 9 = .ok (.istore_n 2, 1) := by decide +kernel
theorem d_Painter_paintJoin_10 : decode b_Painter_paintJoin 10 = .ok (.iload_n 2, 1) := by decide +kernel
theorem d_Painter_paintJoin_11 : decode b_Painter_paintJoin 11 = .ok (.ifCond .ge 4, 3) := by decide +kernel
theorem d_Painter_paintJoin_14 : decode b_Painter_paintJoin 14 = .ok (.return_, 1) := by decide +kernel
theorem d_Painter_paintJoin_15 : decode b_Painter_paintJoin 15 = .ok (.aload_n 0, 1) := by decide +kernel
theorem d_Painter_paintJoin_16 : decode b_Painter_paintJoin 16 = .ok (.getfield 9, 3) := by decide +kernel
theorem d_Painter_paintJoin_19 : decode b_Painter_paintJoin 19 = .ok (.getfield 49, 3) := by decide +kernel
theorem d_Painter_paintJoin_22 : decode b_Painter_paintJoin 22 = .ok (.iconst 1, 1) := by decide +kernel
theorem d_Painter_paintJoin_23 : decode b_Painter_paintJoin 23 = .ok (.if_icmp .ne 36, 3) := by decide +kernel
theorem d_Painter_paintJoin_26 : decode b_Painter_paintJoin 26 = .ok (.aload_n 0, 1) := by decide +kernel
theorem d_Painter_paintJoin_27 : decode b_Painter_paintJoin 27 = .ok (.getfield 19, 3) := by decide +kernel
theorem d_Painter_paintJoin_30 : decode b_Painter_paintJoin 30 = .ok (.aload_n 0, 1) := by decide +kernel
theorem d_Painter_paintJoin_31 : decode b_Painter_paintJoin 31 = .ok (.getfield 15, 3) := by decide +kernel
theorem d_Painter_paintJoin_34 : decode b_Painter_paintJoin 34 = .ok (.getfield 60, 3) := by decide +kernel
theorem d_Painter_paintJoin_37 : decode b_Painter_paintJoin 37 = .ok (.iload_n 1, 1) := by decide +kernel
theorem d_Painter_paintJoin_38 : decode b_Painter_paintJoin 38 = .ok (.iaload, 1) := by decide +kernel
theorem d_Painter_paintJoin_39 : decode b_Painter_paintJoin 39 = .ok (.aload_n 0, 1) := by decide +kernel
theorem d_Painter_paintJoin_40 : decode b_Painter_paintJoin 40 = .ok (.getfield 15, 3) := by decide +kernel
theorem d_Painter_paintJoin_43 : decode b_Painter_paintJoin 43 = .ok (.getfield 76, 3) := by decide +kernel
theorem d_Painter_paintJoin_46 : decode b_Painter_paintJoin 46 = .ok (.iload_n 1, 1) := by decide +kernel
theorem d_Painter_paintJoin_47 : decode b_Painter_paintJoin 47 = .ok (.iaload, 1) := by decide +kernel
theorem d_Painter_paintJoin_48 : decode b_Painter_paintJoin 48 = .ok (.aload_n 0, 1) := by decide +kernel
theorem d_Painter_paintJoin_49 : decode b_Painter_paintJoin 49 = .ok (.getfield 9, 3) := by decide +kernel
theorem d_Painter_paintJoin_52 : decode b_Painter_paintJoin 52 = .ok (.getfield 57, 3) := by decide +kernel
theorem d_Painter_paintJoin_55 : decode b_Painter_paintJoin 55 = .ok (.invokevirtual 116, 3) := by decide +kernel
theorem d_Painter_paintJoin_58 : decode b_Painter_paintJoin 58 = .ok (.return_, 1) := by decide +kernel
theorem d_Painter_paintJoin_59 : decode b_Painter_paintJoin 59 = .ok (.aload_n 0, 1) := by decide +kernel
theorem d_Painter_paintJoin_60 : decode b_Painter_paintJoin 60 = .ok (.iload_n 2, 1) := by decide +kernel
theorem d_Painter_paintJoin_61 : decode b_Painter_paintJoin 61 = .ok (.iload_n 1, 1) := by decide +kernel
theorem d_Painter_paintJoin_62 : decode b_Painter_paintJoin 62 = .ok (.invokevirtual 120, 3) := by decide +kernel
theorem d_Painter_paintJoin_65 : decode b_Painter_paintJoin 65 = .ok (.istore_n 3, 1) := by decide +kernel
theorem d_Painter_paintJoin_66 : decode b_Painter_paintJoin 66 = .ok (.iload_n 3, 1) := by decide +kernel
theorem d_Painter_paintJoin_67 : decode b_Painter_paintJoin 67 = .ok (.ifCond .eq 106, 3) := by decide +kernel
theorem d_Painter_paintJoin_70 : decode b_Painter_paintJoin 70 = .ok (.aload_n 0, 1) := by decide +kernel
theorem d_Painter_paintJoin_71 : decode b_Painter_paintJoin 71 = .ok (.getfield 19, 3) := by decide +kernel
theorem d_Painter_paintJoin_74 : decode b_Painter_paintJoin 74 = .ok (.aload_n 0, 1) := by decide +kernel
theorem d_Painter_paintJoin_75 : decode b_Painter_paintJoin 75 = .ok (.getfield 15, 3) := by decide +kernel
theorem d_Painter_paintJoin_78 : decode b_Painter_paintJoin 78 = .ok (.getfield 60, 3) := by decide +kernel
theorem d_Painter_paintJoin_81 : decode b_Painter_paintJoin 81 = .ok (.iload_n 1, 1) := by decide +kernel
theorem d_Painter_paintJoin_82 : decode b_Painter_paintJoin 82 = .ok (.iaload, 1) := by decide +kernel
theorem d_Painter_paintJoin_83 : decode b_Painter_paintJoin 83 = .ok (.aload_n 0, 1) := by decide +kernel
theorem d_Painter_paintJoin_84 : decode b_Painter_paintJoin 84 = .ok (.getfield 15, 3) := by decide +kernel
theorem d_Painter_paintJoin_87 : decode b_Painter_paintJoin 87 = .ok (.getfield 76, 3) := by decide +kernel
theorem d_Painter_paintJoin_90 : decode b_Painter_paintJoin 90 = .ok (.iload_n 1, 1) := by decide +kernel
theorem d_Painter_paintJoin_91 : decode b_Painter_paintJoin 91 = .ok (.iaload, 1) := by decide +kernel
theorem d_Painter_paintJoin_92 : decode b_Painter_paintJoin 92 = .ok (.invokevirtual 92, 3) := by decide +kernel
theorem d_Painter_paintJoin_95 : decode b_Painter_paintJoin 95 = .ok (.aload_n 0, 1) := by decide +kernel
theorem d_Painter_paintJoin_96 : decode b_Painter_paintJoin 96 = .ok (.getfield 19, 3) := by decide +kernel
theorem d_Painter_paintJoin_99 : decode b_Painter_paintJoin 99 = .ok (.lconst 0, 1) := by decide +kernel
theorem d_Painter_paintJoin_100 : decode b_Painter_paintJoin 100 = .ok (.lconst 0, 1) := by decide +kernel
theorem d_Painter_paintJoin_101 : decode b_Painter_paintJoin 101 = .ok (.invokevirtual 96, 3) := by decide +kernel
theorem d_Painter_paintJoin_104 : decode b_Painter_paintJoin 104 = .ok (.aload_n 0, 1) := by decide +kernel
theorem d_Painter_paintJoin_105 : decode b_Painter_paintJoin 105 = .ok (.getfield 19, 3) := by decide +kernel
theorem d_Painter_paintJoin_108 : decode b_Painter_paintJoin 108 = .ok (.iload_n 3, 1) := by decide +kernel
theorem d_Painter_paintJoin_109 : decode b_Painter_paintJoin 109 = .ok (.aload_n 0, 1) := by decide +kernel
theorem d_Painter_paintJoin_110 : decode b_Painter_paintJoin 110 = .ok (.getfield 15, 3) := by decide +kernel
theorem d_Painter_paintJoin_113 : decode b_Painter_paintJoin 113 = .ok (.getfield 86, 3) := by decide +kernel
theorem d_Painter_paintJoin_116 : decode b_Painter_paintJoin 116 = .ok (.iload_n 2, 1) := by decide +kernel
theorem d_Painter_paintJoin_117 : decode b_Painter_paintJoin 117 = .ok (.iaload, 1) := by decide +kernel
theorem d_Painter_paintJoin_118 : decode b_Painter_paintJoin 118 = .ok (.imul, 1) := by decide +kernel
theorem d_Painter_paintJoin_119 : decode b_Painter_paintJoin 119 = .ok (.i2l, 1) := by decide +kernel
theorem d_Painter_paintJoin_120 : decode b_Painter_paintJoin 120 = .ok (.iload_n 3, 1) := by decide +kernel
theorem d_Painter_paintJoin_121 : decode b_Painter_paintJoin 121 = .ok (.aload_n 0, 1) := by decide +kernel
theorem d_Painter_paintJoin_122 : decode b_Painter_paintJoin 122 = .ok (.getfield 15, 3) := by decide +kernel
theorem d_Painter_paintJoin_125 : decode b_Painter_paintJoin 125 = .ok (.getfield 89, 3) := by decide +kernel
theorem d_Painter_paintJoin_128 : decode b_Painter_paintJoin 128 = .ok (.iload_n 2, 1) := by decide +kernel
theorem d_Painter_paintJoin_129 : decode b_Painter_paintJoin 129 = .ok (.iaload, 1) := by decide +kernel
theorem d_Painter_paintJoin_130 : decode b_Painter_paintJoin 130 = .ok (.imul, 1) := by decide +kernel
theorem d_Painter_paintJoin_131 : decode b_Painter_paintJoin 131 = .ok (.i2l, 1) := by decide +kernel
theorem d_Painter_paintJoin_132 : decode b_Painter_paintJoin 132 = .ok (.invokevirtual 96, 3) := by decide +kernel
theorem d_Painter_paintJoin_135 : decode b_Painter_paintJoin 135 = .ok (.aload_n 0, 1) := by decide +kernel
theorem d_Painter_paintJoin_136 : decode b_Painter_paintJoin 136 = .ok (.getfield 19, 3) := by decide +kernel
theorem d_Painter_paintJoin_139 : decode b_Painter_paintJoin 139 = .ok (.iload_n 3, 1) := by decide +kernel
theorem d_Painter_paintJoin_140 : decode b_Painter_paintJoin 140 = .ok (.aload_n 0, 1) := by decide +kernel
theorem d_Painter_paintJoin_141 : decode b_Painter_paintJoin 141 = .ok (.getfield 15, 3) := by decide +kernel
theorem d_Painter_paintJoin_144 : decode b_Painter_paintJoin 144 = .ok (.getfield 86, 3) := by decide +kernel
theorem d_Painter_paintJoin_147 : decode b_Painter_paintJoin 147 = .ok (.iload_n 1, 1) := by decide +kernel
theorem d_Painter_paintJoin_148 : decode b_Painter_paintJoin 148 = .ok (.iaload, 1) := by decide +kernel
theorem d_Painter_paintJoin_149 : decode b_Painter_paintJoin 149 = .ok (.imul, 1) := by decide +kernel
theorem d_Painter_paintJoin_150 : decode b_Painter_paintJoin 150 = .ok (.i2l, 1) := by decide +kernel
theorem d_Painter_paintJoin_151 : decode b_Painter_paintJoin 151 = .ok (.iload_n 3, 1) := by decide +kernel
theorem d_Painter_paintJoin_152 : decode b_Painter_paintJoin 152 = .ok (.aload_n 0, 1) := by decide +kernel
theorem d_Painter_paintJoin_153 : decode b_Painter_paintJoin 153 = .ok (.getfield 15, 3) := by decide +kernel
theorem d_Painter_paintJoin_156 : decode b_Painter_paintJoin 156 = .ok (.getfield 89, 3) := by decide +kernel
theorem d_Painter_paintJoin_159 : decode b_Painter_paintJoin 159 = .ok (.iload_n 1, 1) := by decide +kernel
theorem d_Painter_paintJoin_160 : decode b_Painter_paintJoin 160 = .ok (.iaload, 1) := by decide +kernel
theorem d_Painter_paintJoin_161 : decode b_Painter_paintJoin 161 = .ok (.imul, 1) := by decide +kernel
theorem d_Painter_paintJoin_162 : decode b_Painter_paintJoin 162 = .ok (.i2l, 1) := by decide +kernel
theorem d_Painter_paintJoin_163 : decode b_Painter_paintJoin 163 = .ok (.invokevirtual 96, 3) := by decide +kernel
theorem d_Painter_paintJoin_166 : decode b_Painter_paintJoin 166 = .ok (.aload_n 0, 1) := by decide +kernel
theorem d_Painter_paintJoin_167 : decode b_Painter_paintJoin 167 = .ok (.getfield 19, 3) := by decide +kernel
theorem d_Painter_paintJoin_170 : decode b_Painter_paintJoin 170 = .ok (.invokevirtual 100, 3) := by decide +kernel
theorem d_Painter_paintJoin_173 : decode b_Painter_paintJoin 173 = .ok (.return_, 1) := by decide +kernel
theorem d_Painter_turnSign_0 : decode b_Painter_turnSign 0 = .ok (.aload_n 0, 1) := by decide +kernel
theorem d_Painter_turnSign_1 : decode b_Painter_turnSign 1 = .ok (.getfield 15, 3) := by decide +kernel
theorem d_Painter_turnSign_4 : decode b_Painter_turnSign 4 = .ok (.getfield 86, 3) := by decide +kernel
theorem d_Painter_turnSign_7 : decode b_Painter_turnSign 7 = .ok (.iload_n 1, 1) := by decide +kernel
theorem d_Painter_turnSign_8 : decode b_Painter_turnSign 8 = .ok (.iaload, 1) := by decide +kernel
theorem d_Painter_turnSign_9 : decode b_Painter_turnSign 9 = .ok (.i2l, 1) := by decide +kernel
theorem d_Painter_turnSign_10 : decode b_Painter_turnSign 10 = .ok (.aload_n 0, 1) := by decide +kernel
theorem d_Painter_turnSign_11 : decode b_Painter_turnSign 11 = .ok (.getfield 15, 3) := by decide +kernel
theorem d_Painter_turnSign_14 : decode b_Painter_turnSign 14 = .ok (.getfield 89, 3) := by decide +kernel
theorem d_Painter_turnSign_17 : decode b_Painter_turnSign 17 = .ok (.iload_n 2, 1) := by decide +kernel
theorem d_Painter_turnSign_18 : decode b_Painter_turnSign 18 = .ok (.iaload, 1) := by decide +kernel
theorem d_Painter_turnSign_19 : decode b_Painter_turnSign 19 = .ok (.i2l, 1) := by decide +kernel
theorem d_Painter_turnSign_20 : decode b_Painter_turnSign 20 = .ok (.lmul, 1) := by decide +kernel
theorem d_Painter_turnSign_21 : decode b_Painter_turnSign 21 = .ok (.aload_n 0, 1) := by decide +kernel
theorem d_Painter_turnSign_22 : decode b_Painter_turnSign 22 = .ok (.getfield 15, 3) := by decide +kernel
theorem d_Painter_turnSign_25 : decode b_Painter_turnSign 25 = .ok (.getfield 89, 3) := by decide +kernel
theorem d_Painter_turnSign_28 : decode b_Painter_turnSign 28 = .ok (.iload_n 1, 1) := by decide +kernel
theorem d_Painter_turnSign_29 : decode b_Painter_turnSign 29 = .ok (.iaload, 1) := by decide +kernel
theorem d_Painter_turnSign_30 : decode b_Painter_turnSign 30 = .ok (.i2l, 1) := by decide +kernel
theorem d_Painter_turnSign_31 : decode b_Painter_turnSign 31 = .ok (.aload_n 0, 1) := by decide +kernel
theorem d_Painter_turnSign_32 : decode b_Painter_turnSign 32 = .ok (.getfield 15, 3) := by decide +kernel
theorem d_Painter_turnSign_35 : decode b_Painter_turnSign 35 = .ok (.getfield 86, 3) := by decide +kernel
theorem d_Painter_turnSign_38 : decode b_Painter_turnSign 38 = .ok (.iload_n 2, 1) := by decide +kernel
theorem d_Painter_turnSign_39 : decode b_Painter_turnSign 39 = .ok (.iaload, 1) := by decide +kernel
theorem d_Painter_turnSign_40 : decode b_Painter_turnSign 40 = .ok (.i2l, 1) := by decide +kernel
theorem d_Painter_turnSign_41 : decode b_Painter_turnSign 41 = .ok (.lmul, 1) := by decide +kernel
theorem d_Painter_turnSign_42 : decode b_Painter_turnSign 42 = .ok (.lsub, 1) := by decide +kernel
theorem d_Painter_turnSign_43 : decode b_Painter_turnSign 43 = .ok (.lstore_n 3, 1) := by decide +kernel
theorem d_Painter_turnSign_44 : decode b_Painter_turnSign 44 = .ok (.lload_n 3, 1) := by decide +kernel
theorem d_Painter_turnSign_45 : decode b_Painter_turnSign 45 = .ok (.invokestatic 123, 3) := by decide +kernel
theorem d_Painter_turnSign_48 : decode b_Painter_turnSign 48 = .ok (.ireturn, 1) := by decide +kernel
theorem d_Painter_paintMiter_0 : decode b_Painter_paintMiter 0 = .ok (.aload_n 0, 1) := by decide +kernel
theorem d_Painter_paintMiter_1 : decode b_Painter_paintMiter 1 = .ok (.getfield 15, 3) := by decide +kernel
theorem d_Painter_paintMiter_4 : decode b_Painter_paintMiter 4 = .ok (.getfield 103, 3) := by decide +kernel
theorem d_Painter_paintMiter_7 : decode b_Painter_paintMiter 7 = .ok (.iload_n 1, 1) := by decide +kernel
theorem d_Painter_paintMiter_8 : decode b_Painter_paintMiter 8 = .ok (.iaload, 1) := by decide +kernel
theorem d_Painter_paintMiter_9 : decode b_Painter_paintMiter 9 = .ok (.istore_n 2, 1) := by decide +kernel
theorem d_Painter_paintMiter_10 : decode b_Painter_paintMiter 10 = .ok (.iload_n 2, 1) := by decide +kernel
theorem d_Painter_paintMiter_11 : decode b_Painter_paintMiter 11 = .ok (.ifCond .ge 4, 3) := by decide +kernel
theorem d_Painter_paintMiter_14 : decode b_Painter_paintMiter 14 = .ok (.return_, 1) := by decide +kernel
theorem d_Painter_paintMiter_15 : decode b_Painter_paintMiter 15 = .ok (.aload_n 0, 1) := by decide +kernel
theorem d_Painter_paintMiter_16 : decode b_Painter_paintMiter 16 = .ok (.iload_n 2, 1) := by decide +kernel
theorem d_Painter_paintMiter_17 : decode b_Painter_paintMiter 17 = .ok (.iload_n 1, 1) := by decide +kernel
theorem d_Painter_paintMiter_18 : decode b_Painter_paintMiter 18 = .ok (.invokevirtual 120, 3) := by decide +kernel
theorem d_Painter_paintMiter_21 : decode b_Painter_paintMiter 21 = .ok (.istore_n 3, 1) := by decide +kernel
theorem d_Painter_paintMiter_22 : decode b_Painter_paintMiter 22 = .ok (.iload_n 3, 1) := by decide +kernel
theorem d_Painter_paintMiter_23 : decode b_Painter_paintMiter 23 = .ok (.aload_n 0, 1) := by decide +kernel
theorem d_Painter_paintMiter_24 : decode b_Painter_paintMiter 24 = .ok (.getfield 15, 3) := by decide +kernel
theorem d_Painter_paintMiter_27 : decode b_Painter_paintMiter 27 = .ok (.getfield 86, 3) := by decide +kernel
theorem d_Painter_paintMiter_30 : decode b_Painter_paintMiter 30 = .ok (.iload_n 2, 1) := by decide +kernel
theorem d_Painter_paintMiter_31 : decode b_Painter_paintMiter 31 = .ok (.iaload, 1) := by decide +kernel
theorem d_Painter_paintMiter_32 : decode b_Painter_paintMiter 32 = .ok (.imul, 1) := by decide +kernel
theorem d_Painter_paintMiter_33 : decode b_Painter_paintMiter 33 = .ok (.istore 4, 2) := by decide +kernel
theorem d_Painter_paintMiter_35 : decode b_Painter_paintMiter 35 = .ok (.iload_n 3, 1) := by decide +kernel
theorem d_Painter_paintMiter_36 : decode b_Painter_paintMiter 36 = .ok (.aload_n 0, 1) := by decide +kernel
theorem d_Painter_paintMiter_37 : decode b_Painter_paintMiter 37 = .ok (.getfield 15, 3) := by decide +kernel
theorem d_Painter_paintMiter_40 : decode b_Painter_paintMiter 40 = .ok (.getfield 89, 3) := by decide +kernel
theorem d_Painter_paintMiter_43 : decode b_Painter_paintMiter 43 = .ok (.iload_n 2, 1) := by decide +kernel
theorem d_Painter_paintMiter_44 : decode b_Painter_paintMiter 44 = .ok (.iaload, 1) := by decide +kernel
theorem d_Painter_paintMiter_45 : decode b_Painter_paintMiter 45 = .ok (.imul, 1) := by decide +kernel
theorem d_Painter_paintMiter_46 : decode b_Painter_paintMiter 46 = .ok (.istore 5, 2) := by decide +kernel
theorem d_Painter_paintMiter_48 : decode b_Painter_paintMiter 48 = .ok (.iload_n 3, 1) := by decide +kernel
theorem d_Painter_paintMiter_49 : decode b_Painter_paintMiter 49 = .ok (.aload_n 0, 1) := by decide +kernel
theorem d_Painter_paintMiter_50 : decode b_Painter_paintMiter 50 = .ok (.getfield 15, 3) := by decide +kernel
theorem d_Painter_paintMiter_53 : decode b_Painter_paintMiter 53 = .ok (.getfield 86, 3) := by decide +kernel
theorem d_Painter_paintMiter_56 : decode b_Painter_paintMiter 56 = .ok (.iload_n 1, 1) := by decide +kernel
theorem d_Painter_paintMiter_57 : decode b_Painter_paintMiter 57 = .ok (.iaload, 1) := by decide +kernel
theorem d_Painter_paintMiter_58 : decode b_Painter_paintMiter 58 = .ok (.imul, 1) := by decide +kernel
theorem d_Painter_paintMiter_59 : decode b_Painter_paintMiter 59 = .ok (.istore 6, 2) := by decide +kernel
theorem d_Painter_paintMiter_61 : decode b_Painter_paintMiter 61 = .ok (.iload_n 3, 1) := by decide +kernel
theorem d_Painter_paintMiter_62 : decode b_Painter_paintMiter 62 = .ok (.aload_n 0, 1) := by decide +kernel
theorem d_Painter_paintMiter_63 : decode b_Painter_paintMiter 63 = .ok (.getfield 15, 3) := by decide +kernel
theorem d_Painter_paintMiter_66 : decode b_Painter_paintMiter 66 = .ok (.getfield 89, 3) := by decide +kernel
theorem d_Painter_paintMiter_69 : decode b_Painter_paintMiter 69 = .ok (.iload_n 1, 1) := by decide +kernel
theorem d_Painter_paintMiter_70 : decode b_Painter_paintMiter 70 = .ok (.iaload, 1) := by decide +kernel
theorem d_Painter_paintMiter_71 : decode b_Painter_paintMiter 71 = .ok (.imul, 1) := by decide +kernel
theorem d_Painter_paintMiter_72 : decode b_Painter_paintMiter 72 = .ok (.istore 7, 2) := by decide +kernel
theorem d_Painter_paintMiter_74 : decode b_Painter_paintMiter 74 = .ok (.aload_n 0, 1) := by decide +kernel
theorem d_Painter_paintMiter_75 : decode b_Painter_paintMiter 75 = .ok (.getfield 9, 3) := by decide +kernel
theorem d_Painter_paintMiter_78 : decode b_Painter_paintMiter 78 = .ok (.getfield 57, 3) := by decide +kernel
theorem d_Painter_paintMiter_81 : decode b_Painter_paintMiter 81 = .ok (.i2l, 1) := by decide +kernel
theorem d_Painter_paintMiter_82 : decode b_Painter_paintMiter 82 = .ok (.aload_n 0, 1) := by decide +kernel
theorem d_Painter_paintMiter_83 : decode b_Painter_paintMiter 83 = .ok (.getfield 9, 3) := by decide +kernel
theorem d_Painter_paintMiter_86 : decode b_Painter_paintMiter 86 = .ok (.getfield 57, 3) := by decide +kernel
theorem d_Painter_paintMiter_89 : decode b_Painter_paintMiter 89 = .ok (.i2l, 1) := by decide +kernel
theorem d_Painter_paintMiter_90 : decode b_Painter_paintMiter 90 = .ok (.lmul, 1) := by decide +kernel
theorem d_Painter_paintMiter_91 : decode b_Painter_paintMiter 91 = .ok (.lstore 8, 2) := by decide +kernel
theorem d_Painter_paintMiter_93 : decode b_Painter_paintMiter 93 = .ok (.lload 8, 2) := by decide +kernel
theorem d_Painter_paintMiter_95 : decode b_Painter_paintMiter 95 = .ok (.iload 4, 2) := by decide +kernel
theorem d_Painter_paintMiter_97 : decode b_Painter_paintMiter 97 = .ok (.i2l, 1) := by decide +kernel
theorem d_Painter_paintMiter_98 : decode b_Painter_paintMiter 98 = .ok (.iload 6, 2) := by decide +kernel
theorem d_Painter_paintMiter_100 : decode b_Painter_paintMiter 100 = .ok (.i2l, 1) := by decide +kernel
theorem d_Painter_paintMiter_101 : decode b_Painter_paintMiter 101 = .ok (.lmul, 1) := by decide +kernel
theorem d_Painter_paintMiter_102 : decode b_Painter_paintMiter 102 = .ok (.ladd, 1) := by decide +kernel
theorem d_Painter_paintMiter_103 : decode b_Painter_paintMiter 103 = .ok (.iload 5, 2) := by decide +kernel
theorem d_Painter_paintMiter_105 : decode b_Painter_paintMiter 105 = .ok (.i2l, 1) := by decide +kernel
theorem d_Painter_paintMiter_106 : decode b_Painter_paintMiter 106 = .ok (.iload 7, 2) := by decide +kernel
theorem d_Painter_paintMiter_108 : decode b_Painter_paintMiter 108 = .ok (.i2l, 1) := by decide +kernel
theorem d_Painter_paintMiter_109 : decode b_Painter_paintMiter 109 = .ok (.lmul, 1) := by decide +kernel
theorem d_Painter_paintMiter_110 : decode b_Painter_paintMiter 110 = .ok (.ladd, 1) := by decide +kernel
theorem d_Painter_paintMiter_111 : decode b_Painter_paintMiter 111 = .ok (.lstore 10, 2) := by decide +kernel
theorem d_Painter_paintMiter_113 : decode b_Painter_paintMiter 113 = .ok (.iload_n 3, 1) := by decide +kernel
theorem d_Painter_paintMiter_114 : decode b_Painter_paintMiter 114 = .ok (.ifCond .eq 40, 3) := by decide +kernel
theorem d_Painter_paintMiter_117 : decode b_Painter_paintMiter 117 = .ok (.lload 10, 2) := by decide +kernel
theorem d_Painter_paintMiter_119 : decode b_Painter_paintMiter 119 = .ok (.lconst 0, 1) := by decide +kernel
theorem d_Painter_paintMiter_120 : decode b_Painter_paintMiter 120 = .ok (.lcmp, 1) := by decide +kernel
theorem d_Painter_paintMiter_121 : decode b_Painter_paintMiter 121 = .ok (.ifCond .le 33, 3) := by decide +kernel
theorem d_Painter_paintMiter_124 : decode b_Painter_paintMiter 124 = .ok (.ldc2_w 129, 3) := by decide +kernel
theorem d_Painter_paintMiter_127 : decode b_Painter_paintMiter 127 = .ok (.lload 8, 2) := by decide +kernel
theorem d_Painter_paintMiter_129 : decode b_Painter_paintMiter 129 = .ok (.lmul, 1) := by decide +kernel
theorem d_Painter_paintMiter_130 : decode b_Painter_paintMiter 130 = .ok (.aload_n 0, 1) := by decide +kernel
theorem d_Painter_paintMiter_131 : decode b_Painter_paintMiter 131 = .ok (.getfield 9, 3) := by decide +kernel
theorem d_Painter_paintMiter_134 : decode b_Painter_paintMiter 134 = .ok (.getfield 131, 3) := by decide +kernel
theorem d_Painter_paintMiter_137 : decode b_Painter_paintMiter 137 = .ok (.i2l, 1) := by decide +kernel
theorem d_Painter_paintMiter_138 : decode b_Painter_paintMiter 138 = .ok (.aload_n 0, 1) := by decide +kernel
theorem d_Painter_paintMiter_139 : decode b_Painter_paintMiter 139 = .ok (.getfield 9, 3) := by decide +kernel
theorem d_Painter_paintMiter_142 : decode b_Painter_paintMiter 142 = .ok (.getfield 131, 3) := by decide +kernel
theorem d_Painter_paintMiter_145 : decode b_Painter_paintMiter 145 = .ok (.i2l, 1) := by decide +kernel
theorem d_Painter_paintMiter_146 : decode b_Painter_paintMiter 146 = .ok (.lmul, 1) := by decide +kernel
theorem d_Painter_paintMiter_147 : decode b_Painter_paintMiter 147 = .ok (.lload 10, 2) := by decide +kernel
theorem d_Painter_paintMiter_149 : decode b_Painter_paintMiter 149 = .ok (.lmul, 1) := by decide +kernel
theorem d_Painter_paintMiter_150 : decode b_Painter_paintMiter 150 = .ok (.lcmp, 1) := by decide +kernel
theorem d_Painter_paintMiter_151 : decode b_Painter_paintMiter 151 = .ok (.ifCond .le 4, 3) := by decide +kernel
theorem d_Painter_paintMiter_154 : decode b_Painter_paintMiter 154 = .ok (.return_, 1) := by decide +kernel
theorem d_Painter_paintMiter_155 : decode b_Painter_paintMiter 155 = .ok (.aload_n 0, 1) := by decide +kernel
theorem d_Painter_paintMiter_156 : decode b_Painter_paintMiter 156 = .ok (.getfield 19, 3) := by decide +kernel
theorem d_Painter_paintMiter_159 : decode b_Painter_paintMiter 159 = .ok (.aload_n 0, 1) := by decide +kernel
theorem d_Painter_paintMiter_160 : decode b_Painter_paintMiter 160 = .ok (.getfield 15, 3) := by decide +kernel
theorem d_Painter_paintMiter_163 : decode b_Painter_paintMiter 163 = .ok (.getfield 60, 3) := by decide +kernel
theorem d_Painter_paintMiter_166 : decode b_Painter_paintMiter 166 = .ok (.iload_n 1, 1) := by decide +kernel
theorem d_Painter_paintMiter_167 : decode b_Painter_paintMiter 167 = .ok (.iaload, 1) := by decide +kernel
theorem d_Painter_paintMiter_168 : decode b_Painter_paintMiter 168 = .ok (.aload_n 0, 1) := by decide +kernel
theorem d_Painter_paintMiter_169 : decode b_Painter_paintMiter 169 = .ok (.getfield 15, 3) := by decide +kernel
theorem d_Painter_paintMiter_172 : decode b_Painter_paintMiter 172 = .ok (.getfield 76, 3) := by decide +kernel
theorem d_Painter_paintMiter_175 : decode b_Painter_paintMiter 175 = .ok (.iload_n 1, 1) := by decide +kernel
theorem d_Painter_paintMiter_176 : decode b_Painter_paintMiter 176 = .ok (.iaload, 1) := by decide +kernel
theorem d_Painter_paintMiter_177 : decode b_Painter_paintMiter 177 = .ok (.invokevirtual 92, 3) := by decide +kernel
theorem d_Painter_paintMiter_180 : decode b_Painter_paintMiter 180 = .ok (.aload_n 0, 1) := by decide +kernel
theorem d_Painter_paintMiter_181 : decode b_Painter_paintMiter 181 = .ok (.getfield 19, 3) := by decide +kernel
theorem d_Painter_paintMiter_184 : decode b_Painter_paintMiter 184 = .ok (.lconst 0, 1) := by decide +kernel
theorem d_Painter_paintMiter_185 : decode b_Painter_paintMiter 185 = .ok (.lconst 0, 1) := by decide +kernel
theorem d_Painter_paintMiter_186 : decode b_Painter_paintMiter 186 = .ok (.invokevirtual 96, 3) := by decide +kernel
theorem d_Painter_paintMiter_189 : decode b_Painter_paintMiter 189 = .ok (.aload_n 0, 1) := by decide +kernel
theorem d_Painter_paintMiter_190 : decode b_Painter_paintMiter 190 = .ok (.getfield 19, 3) := by decide +kernel
theorem d_Painter_paintMiter_193 : decode b_Painter_paintMiter 193 = .ok (.iload 4, 2) := by decide +kernel
theorem d_Painter_paintMiter_195 : decode b_Painter_paintMiter 195 = .ok (.i2l, 1) := by decide +kernel
theorem d_Painter_paintMiter_196 : decode b_Painter_paintMiter 196 = .ok (.iload 5, 2) := by decide +kernel
theorem d_Painter_paintMiter_198 : decode b_Painter_paintMiter 198 = .ok (.i2l, 1) := by decide +kernel
theorem d_Painter_paintMiter_199 : decode b_Painter_paintMiter 199 = .ok (.invokevirtual 96, 3) := by decide +kernel
theorem d_Painter_paintMiter_202 : decode b_Painter_paintMiter 202 = .ok (.aload_n 0, 1) := by decide +kernel
theorem d_Painter_paintMiter_203 : decode b_Painter_paintMiter 203 = .ok (.getfield 19, 3) := by decide +kernel
theorem d_Painter_paintMiter_206 : decode b_Painter_paintMiter 206 = .ok (.iload 4, 2) := by decide +kernel
theorem d_Painter_paintMiter_208 : decode b_Painter_paintMiter 208 = .ok (.iload 6, 2) := by decide +kernel
theorem d_Painter_paintMiter_210 : decode b_Painter_paintMiter 210 = .ok (.iadd, 1) := by decide +kernel
theorem d_Painter_paintMiter_211 : decode b_Painter_paintMiter 211 = .ok (.i2l, 1) := by decide +kernel
theorem d_Painter_paintMiter_212 : decode b_Painter_paintMiter 212 = .ok (.lload 8, 2) := by decide +kernel
theorem d_Painter_paintMiter_214 : decode b_Painter_paintMiter 214 = .ok (.lmul, 1) := by decide +kernel
theorem d_Painter_paintMiter_215 : decode b_Painter_paintMiter 215 = .ok (.lload 10, 2) := by decide +kernel
theorem d_Painter_paintMiter_217 : decode b_Painter_paintMiter 217 = .ok (.invokestatic 134, 3) := by decide +kernel
theorem d_Painter_paintMiter_220 : decode b_Painter_paintMiter 220 = .ok (.iload 5, 2) := by decide +kernel
theorem d_Painter_paintMiter_222 : decode b_Painter_paintMiter 222 = .ok (.iload 7, 2) := by decide +kernel
theorem d_Painter_paintMiter_224 : decode b_Painter_paintMiter 224 = .ok (.iadd, 1) := by decide +kernel
theorem d_Painter_paintMiter_225 : decode b_Painter_paintMiter 225 = .ok (.i2l, 1) := by decide +kernel
theorem d_Painter_paintMiter_226 : decode b_Painter_paintMiter 226 = .ok (.lload 8, 2) := by decide +kernel
theorem d_Painter_paintMiter_228 : decode b_Painter_paintMiter 228 = .ok (.lmul, 1) := by decide +kernel
theorem d_Painter_paintMiter_229 : decode b_Painter_paintMiter 229 = .ok (.lload 10, 2) := by decide +kernel
theorem d_Painter_paintMiter_231 : decode b_Painter_paintMiter 231 = .ok (.invokestatic 134, 3) := by decide +kernel
theorem d_Painter_paintMiter_234 : decode b_Painter_paintMiter 234 = .ok (.invokevirtual 96, 3) := by decide +kernel
theorem d_Painter_paintMiter_237 : decode b_Painter_paintMiter 237 = .ok (.aload_n 0, 1) := by decide +kernel
theorem d_Painter_paintMiter_238 : decode b_Painter_paintMiter 238 = .ok (.getfield 19, 3) := by decide +kernel
theorem d_Painter_paintMiter_241 : decode b_Painter_paintMiter 241 = .ok (.iload 6, 2) := by decide +kernel
theorem d_Painter_paintMiter_243 : decode b_Painter_paintMiter 243 = .ok (.i2l, 1) := by decide +kernel
theorem d_Painter_paintMiter_244 : decode b_Painter_paintMiter 244 = .ok (.iload 7, 2) := by decide +kernel
theorem d_Painter_paintMiter_246 : decode b_Painter_paintMiter 246 = .ok (.i2l, 1) := by decide +kernel
theorem d_Painter_paintMiter_247 : decode b_Painter_paintMiter 247 = .ok (.invokevirtual 96, 3) := by decide +kernel
theorem d_Painter_paintMiter_250 : decode b_Painter_paintMiter 250 = .ok (.aload_n 0, 1) := by decide +kernel
theorem d_Painter_paintMiter_251 : decode b_Painter_paintMiter 251 = .ok (.getfield 19, 3) := by decide +kernel
theorem d_Painter_paintMiter_254 : decode b_Painter_paintMiter 254 = .ok (.invokevirtual 100, 3) := by decide +kernel
theorem d_Painter_paintMiter_257 : decode b_Painter_paintMiter 257 = .ok (.return_, 1) := by decide +kernel
end
section
theorem d_La_move_0 : decode b_La_move 0 = .ok (.aload_n 3, 1) := by decide +kernel
theorem d_La_move_1 : decode b_La_move 1 = .ok (.iconst 0, 1) := by decide +kernel
theorem d_La_move_2 : decode b_La_move 2 = .ok (.aload_n 0, 1) := by decide +kernel
theorem d_La_move_3 : decode b_La_move 3 = .ok (.iload_n 1, 1) := by decide +kernel
theorem d_La_move_4 : decode b_La_move 4 = .ok (.iload_n 2, 1) := by decide +kernel
theorem d_La_move_5 : decode b_La_move 5 = .ok (.invokevirtual 7, 3) := by decide +kernel
theorem d_La_move_8 : decode b_La_move 8 = .ok (.i2l, 1) := by decide +kernel
theorem d_La_move_9 : decode b_La_move 9 = .ok (.lastore, 1) := by decide +kernel
theorem d_La_move_10 : decode b_La_move 10 = .ok (.goto 11, 3) := by decide +kernel
theorem d_La_move_13 : decode b_La_move 13 = .ok (.astore 4, 2) := by decide +kernel
theorem d_La_move_15 : decode b_La_move 15 = .ok (.iconst 1, 1) := by decide +kernel
theorem d_La_move_16 : decode b_La_move 16 = .ok (.ireturn, 1) := by decide +kernel
theorem d_La_move_17 : decode b_La_move 17 = .ok (.astore 4, 2) := by decide +kernel
theorem d_La_move_19 : decode b_La_move 19 = .ok (.iconst 2, 1) := by decide +kernel
theorem d_La_move_20 : decode b_La_move 20 = .ok (.ireturn, 1) := by decide +kernel
theorem d_La_move_21 : decode b_La_move 21 = .ok (.iconst 0, 1) := by decide +kernel
theorem d_La_move_22 : decode b_La_move 22 = .ok (.ireturn, 1) := by decide +kernel
theorem d_La_line_0 : decode b_La_line 0 = .ok (.aload_n 3, 1) := by decide +kernel
theorem d_La_line_1 : decode b_La_line 1 = .ok (.iconst 0, 1) := by decide +kernel
theorem d_La_line_2 : decode b_La_line 2 = .ok (.aload_n 0, 1) := by decide +kernel
theorem d_La_line_3 : decode b_La_line 3 = .ok (.iload_n 1, 1) := by decide +kernel
theorem d_La_line_4 : decode b_La_line 4 = .ok (.iload_n 2, 1) := by decide +kernel
theorem d_La_line_5 : decode b_La_line 5 = .ok (.invokevirtual 17, 3) := by decide +kernel
theorem d_La_line_8 : decode b_La_line 8 = .ok (.i2l, 1) := by decide +kernel
theorem d_La_line_9 : decode b_La_line 9 = .ok (.lastore, 1) := by decide +kernel
theorem d_La_line_10 : decode b_La_line 10 = .ok (.goto 11, 3) := by decide +kernel
theorem d_La_line_13 : decode b_La_line 13 = .ok (.astore 4, 2) := by decide +kernel
theorem d_La_line_15 : decode b_La_line 15 = .ok (.iconst 1, 1) := by decide +kernel
theorem d_La_line_16 : decode b_La_line 16 = .ok (.ireturn, 1) := by decide +kernel
theorem d_La_line_17 : decode b_La_line 17 = .ok (.astore 4, 2) := by decide +kernel
theorem d_La_line_19 : decode b_La_line 19 = .ok (.iconst 2, 1) := by decide +kernel
theorem d_La_line_20 : decode b_La_line 20 = .ok (.ireturn, 1) := by decide +kernel
theorem d_La_line_21 : decode b_La_line 21 = .ok (.iconst 0, 1) := by decide +kernel
theorem d_La_line_22 : decode b_La_line 22 = .ok (.ireturn, 1) := by decide +kernel
theorem d_La_control_0 : decode b_La_control 0 = .ok (.aload_n 0, 1) := by decide +kernel
theorem d_La_control_1 : decode b_La_control 1 = .ok (.iload_n 1, 1) := by decide +kernel
theorem d_La_control_2 : decode b_La_control 2 = .ok (.iload_n 2, 1) := by decide +kernel
theorem d_La_control_3 : decode b_La_control 3 = .ok (.iload_n 3, 1) := by decide +kernel
theorem d_La_control_4 : decode b_La_control 4 = .ok (.iload 4, 2) := by decide +kernel
theorem d_La_control_6 : decode b_La_control 6 = .ok (.invokevirtual 20, 3) := by decide +kernel
theorem d_La_control_9 : decode b_La_control 9 = .ok (.goto 7, 3) := by decide +kernel
theorem d_La_control_12 : decode b_La_control 12 = .ok (.astore 5, 2) := by decide +kernel
theorem d_La_control_14 : decode b_La_control 14 = .ok (.iconst 1, 1) := by decide +kernel
theorem d_La_control_15 : decode b_La_control 15 = .ok (.ireturn, 1) := by decide +kernel
theorem d_La_control_16 : decode b_La_control 16 = .ok (.iconst 0, 1) := by decide +kernel
theorem d_La_control_17 : decode b_La_control 17 = .ok (.ireturn, 1) := by decide +kernel
theorem d_La_curve_0 : decode b_La_curve 0 = .ok (.aload_n 3, 1) := by decide +kernel
theorem d_La_curve_1 : decode b_La_curve 1 = .ok (.iconst 0, 1) := by decide +kernel
theorem d_La_curve_2 : decode b_La_curve 2 = .ok (.aload_n 0, 1) := by decide +kernel
theorem d_La_curve_3 : decode b_La_curve 3 = .ok (.iload_n 1, 1) := by decide +kernel
theorem d_La_curve_4 : decode b_La_curve 4 = .ok (.iload_n 2, 1) := by decide +kernel
theorem d_La_curve_5 : decode b_La_curve 5 = .ok (.invokevirtual 24, 3) := by decide +kernel
theorem d_La_curve_8 : decode b_La_curve 8 = .ok (.i2l, 1) := by decide +kernel
theorem d_La_curve_9 : decode b_La_curve 9 = .ok (.lastore, 1) := by decide +kernel
theorem d_La_curve_10 : decode b_La_curve 10 = .ok (.goto 11, 3) := by decide +kernel
theorem d_La_curve_13 : decode b_La_curve 13 = .ok (.astore 4, 2) := by decide +kernel
theorem d_La_curve_15 : decode b_La_curve 15 = .ok (.iconst 1, 1) := by decide +kernel
theorem d_La_curve_16 : decode b_La_curve 16 = .ok (.ireturn, 1) := by decide +kernel
theorem d_La_curve_17 : decode b_La_curve 17 = .ok (.astore 4, 2) := by decide +kernel
theorem d_La_curve_19 : decode b_La_curve 19 = .ok (.iconst 2, 1) := by decide +kernel
theorem d_La_curve_20 : decode b_La_curve 20 = .ok (.ireturn, 1) := by decide +kernel
theorem d_La_curve_21 : decode b_La_curve 21 = .ok (.iconst 0, 1) := by decide +kernel
theorem d_La_curve_22 : decode b_La_curve 22 = .ok (.ireturn, 1) := by decide +kernel
theorem d_La_close_0 : decode b_La_close 0 = .ok (.aload_n 1, 1) := by decide +kernel
theorem d_La_close_1 : decode b_La_close 1 = .ok (.iconst 0, 1) := by decide +kernel
theorem d_La_close_2 : decode b_La_close 2 = .ok (.aload_n 0, 1) := by decide +kernel
theorem d_La_close_3 : decode b_La_close 3 = .ok (.invokevirtual 27, 3) := by decide +kernel
theorem d_La_close_6 : decode b_La_close 6 = .ok (.i2l, 1) := by decide +kernel
theorem d_La_close_7 : decode b_La_close 7 = .ok (.lastore, 1) := by decide +kernel
theorem d_La_close_8 : decode b_La_close 8 = .ok (.goto 6, 3) := by decide +kernel
theorem d_La_close_11 : decode b_La_close 11 = .ok (.astore_n 2, 1) := by decide +kernel
theorem d_La_close_12 : decode b_La_close 12 = .ok (.iconst 1, 1) := by decide +kernel
theorem d_La_close_13 : decode b_La_close 13 = .ok (.ireturn, 1) := by decide +kernel
theorem d_La_close_14 : decode b_La_close 14 = .ok (.iconst 0, 1) := by decide +kernel
theorem d_La_close_15 : decode b_La_close 15 = .ok (.ireturn, 1) := by decide +kernel
theorem d_La_pen_0 : decode b_La_pen 0 = .ok (.aload_n 0, 1) := by decide +kernel
theorem d_La_pen_1 : decode b_La_pen 1 = .ok (.iload_n 1, 1) := by decide +kernel
theorem d_La_pen_2 : decode b_La_pen 2 = .ok (.iload_n 2, 1) := by decide +kernel
theorem d_La_pen_3 : decode b_La_pen 3 = .ok (.iload_n 3, 1) := by decide +kernel
theorem d_La_pen_4 : decode b_La_pen 4 = .ok (.iload 4, 2) := by decide +kernel
theorem d_La_pen_6 : decode b_La_pen 6 = .ok (.invokevirtual 31, 3) := by decide +kernel
theorem d_La_pen_9 : decode b_La_pen 9 = .ok (.goto 7, 3) := by decide +kernel
theorem d_La_pen_12 : decode b_La_pen 12 = .ok (.astore 5, 2) := by decide +kernel
theorem d_La_pen_14 : decode b_La_pen 14 = .ok (.iconst 1, 1) := by decide +kernel
theorem d_La_pen_15 : decode b_La_pen 15 = .ok (.ireturn, 1) := by decide +kernel
theorem d_La_pen_16 : decode b_La_pen 16 = .ok (.iconst 0, 1) := by decide +kernel
theorem d_La_pen_17 : decode b_La_pen 17 = .ok (.ireturn, 1) := by decide +kernel
theorem d_La_dash_0 : decode b_La_dash 0 = .ok (.aload_n 2, 1) := by decide +kernel
theorem d_La_dash_1 : decode b_La_dash 1 = .ok (.iconst 0, 1) := by decide +kernel
theorem d_La_dash_2 : decode b_La_dash 2 = .ok (.aload_n 0, 1) := by decide +kernel
theorem d_La_dash_3 : decode b_La_dash 3 = .ok (.iload_n 1, 1) := by decide +kernel
theorem d_La_dash_4 : decode b_La_dash 4 = .ok (.invokevirtual 34, 3) := by decide +kernel
theorem d_La_dash_7 : decode b_La_dash 7 = .ok (.i2l, 1) := by decide +kernel
theorem d_La_dash_8 : decode b_La_dash 8 = .ok (.lastore, 1) := by decide +kernel
theorem d_La_dash_9 : decode b_La_dash 9 = .ok (.goto 9, 3) := by decide +kernel
theorem d_La_dash_12 : decode b_La_dash 12 = .ok (.astore_n 3, 1) := by decide +kernel
theorem d_La_dash_13 : decode b_La_dash 13 = .ok (.iconst 1, 1) := by decide +kernel
theorem d_La_dash_14 : decode b_La_dash 14 = .ok (.ireturn, 1) := by decide +kernel
theorem d_La_dash_15 : decode b_La_dash 15 = .ok (.astore_n 3, 1) := by decide +kernel
theorem d_La_dash_16 : decode b_La_dash 16 = .ok (.iconst 2, 1) := by decide +kernel
theorem d_La_dash_17 : decode b_La_dash 17 = .ok (.ireturn, 1) := by decide +kernel
theorem d_La_dash_18 : decode b_La_dash 18 = .ok (.iconst 0, 1) := by decide +kernel
theorem d_La_dash_19 : decode b_La_dash 19 = .ok (.ireturn, 1) := by decide +kernel
theorem d_La_plain_0 : decode b_La_plain 0 = .ok (.aload_n 2, 1) := by decide +kernel
theorem d_La_plain_1 : decode b_La_plain 1 = .ok (.iconst 0, 1) := by decide +kernel
theorem d_La_plain_2 : decode b_La_plain 2 = .ok (.aload_n 0, 1) := by decide +kernel
theorem d_La_plain_3 : decode b_La_plain 3 = .ok (.iload_n 1, 1) := by decide +kernel
theorem d_La_plain_4 : decode b_La_plain 4 = .ok (.invokevirtual 38, 3) := by decide +kernel
theorem d_La_plain_7 : decode b_La_plain 7 = .ok (.i2l, 1) := by decide +kernel
theorem d_La_plain_8 : decode b_La_plain 8 = .ok (.lastore, 1) := by decide +kernel
theorem d_La_plain_9 : decode b_La_plain 9 = .ok (.goto 6, 3) := by decide +kernel
theorem d_La_plain_12 : decode b_La_plain 12 = .ok (.astore_n 3, 1) := by decide +kernel
theorem d_La_plain_13 : decode b_La_plain 13 = .ok (.iconst 1, 1) := by decide +kernel
theorem d_La_plain_14 : decode b_La_plain 14 = .ok (.ireturn, 1) := by decide +kernel
theorem d_La_plain_15 : decode b_La_plain 15 = .ok (.iconst 0, 1) := by decide +kernel
theorem d_La_plain_16 : decode b_La_plain 16 = .ok (.ireturn, 1) := by decide +kernel
theorem d_La_has_0 : decode b_La_has 0 = .ok (.aload_n 3, 1) := by decide +kernel
theorem d_La_has_1 : decode b_La_has 1 = .ok (.iconst 0, 1) := by decide +kernel
theorem d_La_has_2 : decode b_La_has 2 = .ok (.aload_n 0, 1) := by decide +kernel
theorem d_La_has_3 : decode b_La_has 3 = .ok (.iload_n 1, 1) := by decide +kernel
theorem d_La_has_4 : decode b_La_has 4 = .ok (.iload_n 2, 1) := by decide +kernel
theorem d_La_has_5 : decode b_La_has 5 = .ok (.invokevirtual 41, 3) := by decide +kernel
theorem d_La_has_8 : decode b_La_has 8 = .ok (.ifCond .eq 7, 3) := by decide +kernel
theorem d_La_has_11 : decode b_La_has 11 = .ok (.lconst 1, 1) := by decide +kernel
theorem d_La_has_12 : decode b_La_has 12 = .ok (.goto 4, 3) := by decide +kernel
theorem d_La_has_15 : decode b_La_has 15 = .ok (.lconst 0, 1) := by decide +kernel
theorem d_La_has_16 : decode b_La_has 16 = .ok (.lastore, 1) := by decide +kernel
theorem d_La_has_17 : decode b_La_has 17 = .ok (.goto 7, 3) := by decide +kernel
theorem d_La_has_20 : decode b_La_has 20 = .ok (.astore 4, 2) := by decide +kernel
theorem d_La_has_22 : decode b_La_has 22 = .ok (.iconst 1, 1) := by decide +kernel
theorem d_La_has_23 : decode b_La_has 23 = .ok (.ireturn, 1) := by decide +kernel
theorem d_La_has_24 : decode b_La_has 24 = .ok (.iconst 0, 1) := by decide +kernel
theorem d_La_has_25 : decode b_La_has 25 = .ok (.ireturn, 1) := by decide +kernel
theorem d_La_row_0 : decode b_La_row 0 = .ok (.aload_n 2, 1) := by decide +kernel
theorem d_La_row_1 : decode b_La_row 1 = .ok (.iconst 0, 1) := by decide +kernel
theorem d_La_row_2 : decode b_La_row 2 = .ok (.aload_n 0, 1) := by decide +kernel
theorem d_La_row_3 : decode b_La_row 3 = .ok (.iload_n 1, 1) := by decide +kernel
theorem d_La_row_4 : decode b_La_row 4 = .ok (.invokevirtual 45, 3) := by decide +kernel
theorem d_La_row_7 : decode b_La_row 7 = .ok (.lastore, 1) := by decide +kernel
theorem d_La_row_8 : decode b_La_row 8 = .ok (.goto 6, 3) := by decide +kernel
theorem d_La_row_11 : decode b_La_row 11 = .ok (.astore_n 3, 1) := by decide +kernel
theorem d_La_row_12 : decode b_La_row 12 = .ok (.iconst 1, 1) := by decide +kernel
theorem d_La_row_13 : decode b_La_row 13 = .ok (.ireturn, 1) := by decide +kernel
theorem d_La_row_14 : decode b_La_row 14 = .ok (.iconst 0, 1) := by decide +kernel
theorem d_La_row_15 : decode b_La_row 15 = .ok (.ireturn, 1) := by decide +kernel
theorem d_La_share_0 : decode b_La_share 0 = .ok (.aload_n 3, 1) := by decide +kernel
theorem d_La_share_1 : decode b_La_share 1 = .ok (.iconst 0, 1) := by decide +kernel
theorem d_La_share_2 : decode b_La_share 2 = .ok (.aload_n 0, 1) := by decide +kernel
theorem d_La_share_3 : decode b_La_share 3 = .ok (.iload_n 1, 1) := by decide +kernel
theorem d_La_share_4 : decode b_La_share 4 = .ok (.iload_n 2, 1) := by decide +kernel
theorem d_La_share_5 : decode b_La_share 5 = .ok (.invokevirtual 51, 3) := by decide +kernel
theorem d_La_share_8 : decode b_La_share 8 = .ok (.i2l, 1) := by decide +kernel
theorem d_La_share_9 : decode b_La_share 9 = .ok (.lastore, 1) := by decide +kernel
theorem d_La_share_10 : decode b_La_share 10 = .ok (.goto 7, 3) := by decide +kernel
theorem d_La_share_13 : decode b_La_share 13 = .ok (.astore 4, 2) := by decide +kernel
theorem d_La_share_15 : decode b_La_share 15 = .ok (.iconst 1, 1) := by decide +kernel
theorem d_La_share_16 : decode b_La_share 16 = .ok (.ireturn, 1) := by decide +kernel
theorem d_La_share_17 : decode b_La_share 17 = .ok (.iconst 0, 1) := by decide +kernel
theorem d_La_share_18 : decode b_La_share 18 = .ok (.ireturn, 1) := by decide +kernel
theorem d_Long_bitCount_JI_0 : decode b_Long_bitCount_JI 0 = .ok (.lload_n 0, 1) := by decide +kernel
theorem d_Long_bitCount_JI_1 : decode b_Long_bitCount_JI 1 = .ok (.lload_n 0, 1) := by decide +kernel
theorem d_Long_bitCount_JI_2 : decode b_Long_bitCount_JI 2 = .ok (.iconst 1, 1) := by decide +kernel
theorem d_Long_bitCount_JI_3 : decode b_Long_bitCount_JI 3 = .ok (.lushr, 1) := by decide +kernel
theorem d_Long_bitCount_JI_4 : decode b_Long_bitCount_JI 4 = .ok (.ldc2_w 314, 3) := by decide +kernel
theorem d_Long_bitCount_JI_7 : decode b_Long_bitCount_JI 7 = .ok (.land, 1) := by decide +kernel
theorem d_Long_bitCount_JI_8 : decode b_Long_bitCount_JI 8 = .ok (.lsub, 1) := by decide +kernel
theorem d_Long_bitCount_JI_9 : decode b_Long_bitCount_JI 9 = .ok (.lstore_n 0, 1) := by decide +kernel
theorem d_Long_bitCount_JI_10 : decode b_Long_bitCount_JI 10 = .ok (.lload_n 0, 1) := by decide +kernel
theorem d_Long_bitCount_JI_11 : decode b_Long_bitCount_JI 11 = .ok (.ldc2_w 316, 3) := by decide +kernel
theorem d_Long_bitCount_JI_14 : decode b_Long_bitCount_JI 14 = .ok (.land, 1) := by decide +kernel
theorem d_Long_bitCount_JI_15 : decode b_Long_bitCount_JI 15 = .ok (.lload_n 0, 1) := by decide +kernel
theorem d_Long_bitCount_JI_16 : decode b_Long_bitCount_JI 16 = .ok (.iconst 2, 1) := by decide +kernel
theorem d_Long_bitCount_JI_17 : decode b_Long_bitCount_JI 17 = .ok (.lushr, 1) := by decide +kernel
theorem d_Long_bitCount_JI_18 : decode b_Long_bitCount_JI 18 = .ok (.ldc2_w 316, 3) := by decide +kernel
theorem d_Long_bitCount_JI_21 : decode b_Long_bitCount_JI 21 = .ok (.land, 1) := by decide +kernel
theorem d_Long_bitCount_JI_22 : decode b_Long_bitCount_JI 22 = .ok (.ladd, 1) := by decide +kernel
theorem d_Long_bitCount_JI_23 : decode b_Long_bitCount_JI 23 = .ok (.lstore_n 0, 1) := by decide +kernel
theorem d_Long_bitCount_JI_24 : decode b_Long_bitCount_JI 24 = .ok (.lload_n 0, 1) := by decide +kernel
theorem d_Long_bitCount_JI_25 : decode b_Long_bitCount_JI 25 = .ok (.lload_n 0, 1) := by decide +kernel
theorem d_Long_bitCount_JI_26 : decode b_Long_bitCount_JI 26 = .ok (.iconst 4, 1) := by decide +kernel
theorem d_Long_bitCount_JI_27 : decode b_Long_bitCount_JI 27 = .ok (.lushr, 1) := by decide +kernel
theorem d_Long_bitCount_JI_28 : decode b_Long_bitCount_JI 28 = .ok (.ladd, 1) := by decide +kernel
theorem d_Long_bitCount_JI_29 : decode b_Long_bitCount_JI 29 = .ok (.ldc2_w 318, 3) := by decide +kernel
theorem d_Long_bitCount_JI_32 : decode b_Long_bitCount_JI 32 = .ok (.land, 1) := by decide +kernel
theorem d_Long_bitCount_JI_33 : decode b_Long_bitCount_JI 33 = .ok (.lstore_n 0, 1) := by decide +kernel
theorem d_Long_bitCount_JI_34 : decode b_Long_bitCount_JI 34 = .ok (.lload_n 0, 1) := by decide +kernel
theorem d_Long_bitCount_JI_35 : decode b_Long_bitCount_JI 35 = .ok (.lload_n 0, 1) := by decide +kernel
theorem d_Long_bitCount_JI_36 : decode b_Long_bitCount_JI 36 = .ok (.bipush 8, 2) := by decide +kernel
theorem d_Long_bitCount_JI_38 : decode b_Long_bitCount_JI 38 = .ok (.lushr, 1) := by decide +kernel
theorem d_Long_bitCount_JI_39 : decode b_Long_bitCount_JI 39 = .ok (.ladd, 1) := by decide +kernel
theorem d_Long_bitCount_JI_40 : decode b_Long_bitCount_JI 40 = .ok (.lstore_n 0, 1) := by decide +kernel
theorem d_Long_bitCount_JI_41 : decode b_Long_bitCount_JI 41 = .ok (.lload_n 0, 1) := by decide +kernel
theorem d_Long_bitCount_JI_42 : decode b_Long_bitCount_JI 42 = .ok (.lload_n 0, 1) := by decide +kernel
theorem d_Long_bitCount_JI_43 : decode b_Long_bitCount_JI 43 = .ok (.bipush 16, 2) := by decide +kernel
theorem d_Long_bitCount_JI_45 : decode b_Long_bitCount_JI 45 = .ok (.lushr, 1) := by decide +kernel
theorem d_Long_bitCount_JI_46 : decode b_Long_bitCount_JI 46 = .ok (.ladd, 1) := by decide +kernel
theorem d_Long_bitCount_JI_47 : decode b_Long_bitCount_JI 47 = .ok (.lstore_n 0, 1) := by decide +kernel
theorem d_Long_bitCount_JI_48 : decode b_Long_bitCount_JI 48 = .ok (.lload_n 0, 1) := by decide +kernel
theorem d_Long_bitCount_JI_49 : decode b_Long_bitCount_JI 49 = .ok (.lload_n 0, 1) := by decide +kernel
theorem d_Long_bitCount_JI_50 : decode b_Long_bitCount_JI 50 = .ok (.bipush 32, 2) := by decide +kernel
theorem d_Long_bitCount_JI_52 : decode b_Long_bitCount_JI 52 = .ok (.lushr, 1) := by decide +kernel
theorem d_Long_bitCount_JI_53 : decode b_Long_bitCount_JI 53 = .ok (.ladd, 1) := by decide +kernel
theorem d_Long_bitCount_JI_54 : decode b_Long_bitCount_JI 54 = .ok (.lstore_n 0, 1) := by decide +kernel
theorem d_Long_bitCount_JI_55 : decode b_Long_bitCount_JI 55 = .ok (.lload_n 0, 1) := by decide +kernel
theorem d_Long_bitCount_JI_56 : decode b_Long_bitCount_JI 56 = .ok (.l2i, 1) := by decide +kernel
theorem d_Long_bitCount_JI_57 : decode b_Long_bitCount_JI 57 = .ok (.bipush 127, 2) := by decide +kernel
theorem d_Long_bitCount_JI_59 : decode b_Long_bitCount_JI 59 = .ok (.iand, 1) := by decide +kernel
theorem d_Long_bitCount_JI_60 : decode b_Long_bitCount_JI 60 = .ok (.ireturn, 1) := by decide +kernel
theorem d_Long_signum_JI_0 : decode b_Long_signum_JI 0 = .ok (.lload_n 0, 1) := by decide +kernel
theorem d_Long_signum_JI_1 : decode b_Long_signum_JI 1 = .ok (.bipush 63, 2) := by decide +kernel
theorem d_Long_signum_JI_3 : decode b_Long_signum_JI 3 = .ok (.lshr, 1) := by decide +kernel
theorem d_Long_signum_JI_4 : decode b_Long_signum_JI 4 = .ok (.lload_n 0, 1) := by decide +kernel
theorem d_Long_signum_JI_5 : decode b_Long_signum_JI 5 = .ok (.lneg, 1) := by decide +kernel
theorem d_Long_signum_JI_6 : decode b_Long_signum_JI 6 = .ok (.bipush 63, 2) := by decide +kernel
theorem d_Long_signum_JI_8 : decode b_Long_signum_JI 8 = .ok (.lushr, 1) := by decide +kernel
theorem d_Long_signum_JI_9 : decode b_Long_signum_JI 9 = .ok (.lor, 1) := by decide +kernel
theorem d_Long_signum_JI_10 : decode b_Long_signum_JI 10 = .ok (.l2i, 1) := by decide +kernel
theorem d_Long_signum_JI_11 : decode b_Long_signum_JI 11 = .ok (.ireturn, 1) := by decide +kernel
theorem d_Math_floorDiv_III_0 : decode b_Math_floorDiv_III 0 = .ok (.iload_n 0, 1) := by decide +kernel
theorem d_Math_floorDiv_III_1 : decode b_Math_floorDiv_III 1 = .ok (.iload_n 1, 1) := by decide +kernel
theorem d_Math_floorDiv_III_2 : decode b_Math_floorDiv_III 2 = .ok (.idiv, 1) := by decide +kernel
theorem d_Math_floorDiv_III_3 : decode b_Math_floorDiv_III 3 = .ok (.istore_n 2, 1) := by decide +kernel
theorem d_Math_floorDiv_III_4 : decode b_Math_floorDiv_III 4 = .ok (.iload_n 0, 1) := by decide +kernel
theorem d_Math_floorDiv_III_5 : decode b_Math_floorDiv_III 5 = .ok (.iload_n 1, 1) := by decide +kernel
theorem d_Math_floorDiv_III_6 : decode b_Math_floorDiv_III 6 = .ok (.ixor, 1) := by decide +kernel
theorem d_Math_floorDiv_III_7 : decode b_Math_floorDiv_III 7 = .ok (.ifCond .ge 14, 3) := by decide +kernel
theorem d_Math_floorDiv_III_10 : decode b_Math_floorDiv_III 10 = .ok (.iload_n 2, 1) := by decide +kernel
theorem d_Math_floorDiv_III_11 : decode b_Math_floorDiv_III 11 = .ok (.iload_n 1, 1) := by decide +kernel
theorem d_Math_floorDiv_III_12 : decode b_Math_floorDiv_III 12 = .ok (.imul, 1) := by decide +kernel
theorem d_Math_floorDiv_III_13 : decode b_Math_floorDiv_III 13 = .ok (.iload_n 0, 1) := by decide +kernel
theorem d_Math_floorDiv_III_14 : decode b_Math_floorDiv_III 14 = .ok (.if_icmp .eq 7, 3) := by decide +kernel
theorem d_Math_floorDiv_III_17 : decode b_Math_floorDiv_III 17 = .ok (.iload_n 2, 1) := by decide +kernel
theorem d_Math_floorDiv_III_18 : decode b_Math_floorDiv_III 18 = .ok (.iconst 1, 1) := by decide +kernel
theorem d_Math_floorDiv_III_19 : decode b_Math_floorDiv_III 19 = .ok (.isub, 1) := by decide +kernel
theorem d_Math_floorDiv_III_20 : decode b_Math_floorDiv_III 20 = .ok (.ireturn, 1) := by decide +kernel
theorem d_Math_floorDiv_III_21 : decode b_Math_floorDiv_III 21 = .ok (.iload_n 2, 1) := by decide +kernel
theorem d_Math_floorDiv_III_22 : decode b_Math_floorDiv_III 22 = .ok (.ireturn, 1) := by decide +kernel
theorem d_Math_floorDiv_JJJ_0 : decode b_Math_floorDiv_JJJ 0 = .ok (.lload_n 0, 1) := by decide +kernel
theorem d_Math_floorDiv_JJJ_1 : decode b_Math_floorDiv_JJJ 1 = .ok (.lload_n 2, 1) := by decide +kernel
theorem d_Math_floorDiv_JJJ_2 : decode b_Math_floorDiv_JJJ 2 = .ok (.ldiv, 1) := by decide +kernel
theorem d_Math_floorDiv_JJJ_3 : decode b_Math_floorDiv_JJJ 3 = .ok (.lstore 4, 2) := by decide +kernel
theorem d_Math_floorDiv_JJJ_5 : decode b_Math_floorDiv_JJJ 5 = .ok (.lload_n 0, 1) := by decide +kernel
theorem d_Math_floorDiv_JJJ_6 : decode b_Math_floorDiv_JJJ 6 = .ok (.lload_n 2, 1) := by decide +kernel
theorem d_Math_floorDiv_JJJ_7 : decode b_Math_floorDiv_JJJ 7 = .ok (.lxor, 1) := by decide +kernel
theorem d_Math_floorDiv_JJJ_8 : decode b_Math_floorDiv_JJJ 8 = .ok (.lconst 0, 1) := by decide +kernel
theorem d_Math_floorDiv_JJJ_9 : decode b_Math_floorDiv_JJJ 9 = .ok (.lcmp, 1) := by decide +kernel
theorem d_Math_floorDiv_JJJ_10 : decode b_Math_floorDiv_JJJ 10 = .ok (.ifCond .ge 17, 3) := by decide +kernel
theorem d_Math_floorDiv_JJJ_13 : decode b_Math_floorDiv_JJJ 13 = .ok (.lload 4, 2) := by decide +kernel
theorem d_Math_floorDiv_JJJ_15 : decode b_Math_floorDiv_JJJ 15 = .ok (.lload_n 2, 1) := by decide +kernel
theorem d_Math_floorDiv_JJJ_16 : decode b_Math_floorDiv_JJJ 16 = .ok (.lmul, 1) := by decide +kernel
theorem d_Math_floorDiv_JJJ_17 : decode b_Math_floorDiv_JJJ 17 = .ok (.lload_n 0, 1) := by decide +kernel
theorem d_Math_floorDiv_JJJ_18 : decode b_Math_floorDiv_JJJ 18 = .ok (.lcmp, 1) := by decide +kernel
theorem d_Math_floorDiv_JJJ_19 : decode b_Math_floorDiv_JJJ 19 = .ok (.ifCond .eq 8, 3) := by decide +kernel
theorem d_Math_floorDiv_JJJ_22 : decode b_Math_floorDiv_JJJ 22 = .ok (.lload 4, 2) := by decide +kernel
theorem d_Math_floorDiv_JJJ_24 : decode b_Math_floorDiv_JJJ 24 = .ok (.lconst 1, 1) := by decide +kernel
theorem d_Math_floorDiv_JJJ_25 : decode b_Math_floorDiv_JJJ 25 = .ok (.lsub, 1) := by decide +kernel
theorem d_Math_floorDiv_JJJ_26 : decode b_Math_floorDiv_JJJ 26 = .ok (.lreturn, 1) := by decide +kernel
theorem d_Math_floorDiv_JJJ_27 : decode b_Math_floorDiv_JJJ 27 = .ok (.lload 4, 2) := by decide +kernel
theorem d_Math_floorDiv_JJJ_29 : decode b_Math_floorDiv_JJJ 29 = .ok (.lreturn, 1) := by decide +kernel
theorem d_Math_floorMod_III_0 : decode b_Math_floorMod_III 0 = .ok (.iload_n 0, 1) := by decide +kernel
theorem d_Math_floorMod_III_1 : decode b_Math_floorMod_III 1 = .ok (.iload_n 1, 1) := by decide +kernel
theorem d_Math_floorMod_III_2 : decode b_Math_floorMod_III 2 = .ok (.irem, 1) := by decide +kernel
theorem d_Math_floorMod_III_3 : decode b_Math_floorMod_III 3 = .ok (.istore_n 2, 1) := by decide +kernel
theorem d_Math_floorMod_III_4 : decode b_Math_floorMod_III 4 = .ok (.iload_n 0, 1) := by decide +kernel
theorem d_Math_floorMod_III_5 : decode b_Math_floorMod_III 5 = .ok (.iload_n 1, 1) := by decide +kernel
theorem d_Math_floorMod_III_6 : decode b_Math_floorMod_III 6 = .ok (.ixor, 1) := by decide +kernel
theorem d_Math_floorMod_III_7 : decode b_Math_floorMod_III 7 = .ok (.ifCond .ge 11, 3) := by decide +kernel
theorem d_Math_floorMod_III_10 : decode b_Math_floorMod_III 10 = .ok (.iload_n 2, 1) := by decide +kernel
theorem d_Math_floorMod_III_11 : decode b_Math_floorMod_III 11 = .ok (.ifCond .eq 7, 3) := by decide +kernel
theorem d_Math_floorMod_III_14 : decode b_Math_floorMod_III 14 = .ok (.iload_n 2, 1) := by decide +kernel
theorem d_Math_floorMod_III_15 : decode b_Math_floorMod_III 15 = .ok (.iload_n 1, 1) := by decide +kernel
theorem d_Math_floorMod_III_16 : decode b_Math_floorMod_III 16 = .ok (.iadd, 1) := by decide +kernel
theorem d_Math_floorMod_III_17 : decode b_Math_floorMod_III 17 = .ok (.ireturn, 1) := by decide +kernel
theorem d_Math_floorMod_III_18 : decode b_Math_floorMod_III 18 = .ok (.iload_n 2, 1) := by decide +kernel
theorem d_Math_floorMod_III_19 : decode b_Math_floorMod_III 19 = .ok (.ireturn, 1) := by decide +kernel
theorem d_Arr_copyOf_AIIAI_0 : decode b_Arr_copyOf_AIIAI 0 = .ok (.iload_n 1, 1) := by decide +kernel
theorem d_Arr_copyOf_AIIAI_1 : decode b_Arr_copyOf_AIIAI 1 = .ok (.aload_n 0, 1) := by decide +kernel
theorem d_Arr_copyOf_AIIAI_2 : decode b_Arr_copyOf_AIIAI 2 = .ok (.arraylength, 1) := by decide +kernel
theorem d_Arr_copyOf_AIIAI_3 : decode b_Arr_copyOf_AIIAI 3 = .ok (.if_icmp .ne 11, 3) := by decide +kernel
theorem d_Arr_copyOf_AIIAI_6 : decode b_Arr_copyOf_AIIAI 6 = .ok (.aload_n 0, 1) := by decide +kernel
theorem d_Arr_copyOf_AIIAI_7 : decode b_Arr_copyOf_AIIAI 7 = .ok (.invokevirtual 316, 3) := by decide +kernel
theorem d_Arr_copyOf_AIIAI_10 : decode b_Arr_copyOf_AIIAI 10 = .ok (.checkcast 317, 3) := by decide +kernel
theorem d_Arr_copyOf_AIIAI_13 : decode b_Arr_copyOf_AIIAI 13 = .ok (.areturn, 1) := by decide +kernel
theorem d_Arr_copyOf_AIIAI_14 : decode b_Arr_copyOf_AIIAI 14 = .ok (.iload_n 1, 1) := by decide +kernel
theorem d_Arr_copyOf_AIIAI_15 : decode b_Arr_copyOf_AIIAI 15 = .ok (.newarray .int, 2) := by decide +kernel
theorem d_Arr_copyOf_AIIAI_17 : decode b_Arr_copyOf_AIIAI 17 = .ok (.astore_n 2, 1) := by decide +kernel
theorem d_Arr_copyOf_AIIAI_18 : decode b_Arr_copyOf_AIIAI 18 = .ok (.aload_n 0, 1) := by decide +kernel
theorem d_Arr_copyOf_AIIAI_19 : decode b_Arr_copyOf_AIIAI 19 = .ok (.iconst 0, 1) := by decide +kernel
theorem d_Arr_copyOf_AIIAI_20 : decode b_Arr_copyOf_AIIAI 20 = .ok (.aload_n 2, 1) := by decide +kernel
theorem d_Arr_copyOf_AIIAI_21 : decode b_Arr_copyOf_AIIAI 21 = .ok (.iconst 0, 1) := by decide +kernel
theorem d_Arr_copyOf_AIIAI_22 : decode b_Arr_copyOf_AIIAI 22 = .ok (.aload_n 0, 1) := by decide +kernel
theorem d_Arr_copyOf_AIIAI_23 : decode b_Arr_copyOf_AIIAI 23 = .ok (.arraylength, 1) := by decide +kernel
theorem d_Arr_copyOf_AIIAI_24 : decode b_Arr_copyOf_AIIAI 24 = .ok (.iload_n 1, 1) := by decide +kernel
theorem d_Arr_copyOf_AIIAI_25 : decode b_Arr_copyOf_AIIAI 25 = .ok (.invokestatic 304, 3) := by decide +kernel
theorem d_Arr_copyOf_AIIAI_28 : decode b_Arr_copyOf_AIIAI 28 = .ok (.invokestatic 150, 3) := by decide +kernel
theorem d_Arr_copyOf_AIIAI_31 : decode b_Arr_copyOf_AIIAI 31 = .ok (.aload_n 2, 1) := by decide +kernel
theorem d_Arr_copyOf_AIIAI_32 : decode b_Arr_copyOf_AIIAI 32 = .ok (.areturn, 1) := by decide +kernel
theorem d_Arr_fill_AJJV_0 : decode b_Arr_fill_AJJV 0 = .ok (.iconst 0, 1) := by decide +kernel
theorem d_Arr_fill_AJJV_1 : decode b_Arr_fill_AJJV 1 = .ok (.istore_n 3, 1) := by decide +kernel
theorem d_Arr_fill_AJJV_2 : decode b_Arr_fill_AJJV 2 = .ok (.aload_n 0, 1) := by decide +kernel
theorem d_Arr_fill_AJJV_3 : decode b_Arr_fill_AJJV 3 = .ok (.arraylength, 1) := by decide +kernel
theorem d_Arr_fill_AJJV_4 : decode b_Arr_fill_AJJV 4 = .ok (.istore 4, 2) := by decide +kernel
theorem d_Arr_fill_AJJV_6 : decode b_Arr_fill_AJJV 6 = .ok (.iload_n 3, 1) := by decide +kernel
theorem d_Arr_fill_AJJV_7 : decode b_Arr_fill_AJJV 7 = .ok (.iload 4, 2) := by decide +kernel
theorem d_Arr_fill_AJJV_9 : decode b_Arr_fill_AJJV 9 = .ok (.if_icmp .ge 13, 3) := by decide +kernel
theorem d_Arr_fill_AJJV_12 : decode b_Arr_fill_AJJV 12 = .ok (.aload_n 0, 1) := by decide +kernel
theorem d_Arr_fill_AJJV_13 : decode b_Arr_fill_AJJV 13 = .ok (.iload_n 3, 1) := by decide +kernel
theorem d_Arr_fill_AJJV_14 : decode b_Arr_fill_AJJV 14 = .ok (.lload_n 1, 1) := by decide +kernel
theorem d_Arr_fill_AJJV_15 : decode b_Arr_fill_AJJV 15 = .ok (.lastore, 1) := by decide +kernel
theorem d_Arr_fill_AJJV_16 : decode b_Arr_fill_AJJV 16 = .ok (.iinc 3 1, 3) := by decide +kernel
theorem d_Arr_fill_AJJV_19 : decode b_Arr_fill_AJJV 19 = .ok (.goto (-13), 3) := by decide +kernel
theorem d_Arr_fill_AJJV_22 : decode b_Arr_fill_AJJV 22 = .ok (.return_, 1) := by decide +kernel
theorem d_La_law_0 : decode code 0 = .ok (.new 8, 3) := by decide +kernel
theorem d_La_law_3 : decode code 3 = .ok (.dup, 1) := by decide +kernel
theorem d_La_law_4 : decode code 4 = .ok (.invokespecial 54, 3) := by decide +kernel
theorem d_La_law_7 : decode code 7 = .ok (.astore_n 1, 1) := by decide +kernel
theorem d_La_law_8 : decode code 8 = .ok (.new 55, 3) := by decide +kernel
theorem d_La_law_11 : decode code 11 = .ok (.dup, 1) := by decide +kernel
theorem d_La_law_12 : decode code 12 = .ok (.invokespecial 57, 3) := by decide +kernel
theorem d_La_law_15 : decode code 15 = .ok (.astore_n 2, 1) := by decide +kernel
theorem d_La_law_16 : decode code 16 = .ok (.iconst 1, 1) := by decide +kernel
theorem d_La_law_17 : decode code 17 = .ok (.newarray .long, 2) := by decide +kernel
theorem d_La_law_19 : decode code 19 = .ok (.astore_n 3, 1) := by decide +kernel
theorem d_La_law_20 : decode code 20 = .ok (.iconst 0, 1) := by decide +kernel
theorem d_La_law_21 : decode code 21 = .ok (.istore 4, 2) := by decide +kernel
theorem d_La_law_23 : decode code 23 = .ok (.iload 4, 2) := by decide +kernel
theorem d_La_law_25 : decode code 25 = .ok (.aload_n 0, 1) := by decide +kernel
theorem d_La_law_26 : decode code 26 = .ok (.arraylength, 1) := by decide +kernel
theorem d_La_law_27 : decode code 27 = .ok (.iconst 5, 1) := by decide +kernel
theorem d_La_law_28 : decode code 28 = .ok (.isub, 1) := by decide +kernel
theorem d_La_law_29 : decode code 29 = .ok (.if_icmp .gt 821, 3) := by decide +kernel
theorem d_La_law_32 : decode code 32 = .ok (.aload_n 0, 1) := by decide +kernel
theorem d_La_law_33 : decode code 33 = .ok (.iload 4, 2) := by decide +kernel
theorem d_La_law_35 : decode code 35 = .ok (.iaload, 1) := by decide +kernel
theorem d_La_law_36 : decode code 36 = .ok (.bipush 15, 2) := by decide +kernel
theorem d_La_law_38 : decode code 38 = .ok (.iand, 1) := by decide +kernel
theorem d_La_law_39 : decode code 39 = .ok (.tableswitch 805 0 12 #[65, 133, 201, 273, 341, 385, 398, 470, 526, 582, 607, 682, 737], 65) := by decide +kernel
theorem d_La_law_104 : decode code 104 = .ok (.aload_n 1, 1) := by decide +kernel
theorem d_La_law_105 : decode code 105 = .ok (.aload_n 0, 1) := by decide +kernel
theorem d_La_law_106 : decode code 106 = .ok (.iload 4, 2) := by decide +kernel
theorem d_La_law_108 : decode code 108 = .ok (.iconst 1, 1) := by decide +kernel
theorem d_La_law_109 : decode code 109 = .ok (.iadd, 1) := by decide +kernel
theorem d_La_law_110 : decode code 110 = .ok (.iaload, 1) := by decide +kernel
theorem d_La_law_111 : decode code 111 = .ok (.aload_n 0, 1) := by decide +kernel
theorem d_La_law_112 : decode code 112 = .ok (.iload 4, 2) := by decide +kernel
theorem d_La_law_114 : decode code 114 = .ok (.iconst 2, 1) := by decide +kernel
theorem d_La_law_115 : decode code 115 = .ok (.iadd, 1) := by decide +kernel
theorem d_La_law_116 : decode code 116 = .ok (.iaload, 1) := by decide +kernel
theorem d_La_law_117 : decode code 117 = .ok (.aload_n 3, 1) := by decide +kernel
theorem d_La_law_118 : decode code 118 = .ok (.invokestatic 58, 3) := by decide +kernel
theorem d_La_law_121 : decode code 121 = .ok (.istore 5, 2) := by decide +kernel
theorem d_La_law_123 : decode code 123 = .ok (.aload_n 2, 1) := by decide +kernel
theorem d_La_law_124 : decode code 124 = .ok (.aload_n 0, 1) := by decide +kernel
theorem d_La_law_125 : decode code 125 = .ok (.iload 4, 2) := by decide +kernel
theorem d_La_law_127 : decode code 127 = .ok (.iconst 1, 1) := by decide +kernel
theorem d_La_law_128 : decode code 128 = .ok (.iadd, 1) := by decide +kernel
theorem d_La_law_129 : decode code 129 = .ok (.iaload, 1) := by decide +kernel
theorem d_La_law_130 : decode code 130 = .ok (.aload_n 0, 1) := by decide +kernel
theorem d_La_law_131 : decode code 131 = .ok (.iload 4, 2) := by decide +kernel
theorem d_La_law_133 : decode code 133 = .ok (.iconst 2, 1) := by decide +kernel
theorem d_La_law_134 : decode code 134 = .ok (.iadd, 1) := by decide +kernel
theorem d_La_law_135 : decode code 135 = .ok (.iaload, 1) := by decide +kernel
theorem d_La_law_136 : decode code 136 = .ok (.invokevirtual 63, 3) := by decide +kernel
theorem d_La_law_139 : decode code 139 = .ok (.istore 6, 2) := by decide +kernel
theorem d_La_law_141 : decode code 141 = .ok (.aload_n 2, 1) := by decide +kernel
theorem d_La_law_142 : decode code 142 = .ok (.invokevirtual 64, 3) := by decide +kernel
theorem d_La_law_145 : decode code 145 = .ok (.iload 5, 2) := by decide +kernel
theorem d_La_law_147 : decode code 147 = .ok (.if_icmp .eq 5, 3) := by decide +kernel
theorem d_La_law_150 : decode code 150 = .ok (.iconst 0, 1) := by decide +kernel
theorem d_La_law_151 : decode code 151 = .ok (.ireturn, 1) := by decide +kernel
theorem d_La_law_152 : decode code 152 = .ok (.iload 5, 2) := by decide +kernel
theorem d_La_law_154 : decode code 154 = .ok (.ifCond .ne 15, 3) := by decide +kernel
theorem d_La_law_157 : decode code 157 = .ok (.aload_n 3, 1) := by decide +kernel
theorem d_La_law_158 : decode code 158 = .ok (.iconst 0, 1) := by decide +kernel
theorem d_La_law_159 : decode code 159 = .ok (.laload, 1) := by decide +kernel
theorem d_La_law_160 : decode code 160 = .ok (.iload 6, 2) := by decide +kernel
theorem d_La_law_162 : decode code 162 = .ok (.i2l, 1) := by decide +kernel
theorem d_La_law_163 : decode code 163 = .ok (.lcmp, 1) := by decide +kernel
theorem d_La_law_164 : decode code 164 = .ok (.ifCond .eq 5, 3) := by decide +kernel
theorem d_La_law_167 : decode code 167 = .ok (.iconst 0, 1) := by decide +kernel
theorem d_La_law_168 : decode code 168 = .ok (.ireturn, 1) := by decide +kernel
theorem d_La_law_169 : decode code 169 = .ok (.goto 675, 3) := by decide +kernel
theorem d_La_law_172 : decode code 172 = .ok (.aload_n 1, 1) := by decide +kernel
theorem d_La_law_173 : decode code 173 = .ok (.aload_n 0, 1) := by decide +kernel
theorem d_La_law_174 : decode code 174 = .ok (.iload 4, 2) := by decide +kernel
theorem d_La_law_176 : decode code 176 = .ok (.iconst 1, 1) := by decide +kernel
theorem d_La_law_177 : decode code 177 = .ok (.iadd, 1) := by decide +kernel
theorem d_La_law_178 : decode code 178 = .ok (.iaload, 1) := by decide +kernel
theorem d_La_law_179 : decode code 179 = .ok (.aload_n 0, 1) := by decide +kernel
theorem d_La_law_180 : decode code 180 = .ok (.iload 4, 2) := by decide +kernel
theorem d_La_law_182 : decode code 182 = .ok (.iconst 2, 1) := by decide +kernel
theorem d_La_law_183 : decode code 183 = .ok (.iadd, 1) := by decide +kernel
theorem d_La_law_184 : decode code 184 = .ok (.iaload, 1) := by decide +kernel
theorem d_La_law_185 : decode code 185 = .ok (.aload_n 3, 1) := by decide +kernel
theorem d_La_law_186 : decode code 186 = .ok (.invokestatic 67, 3) := by decide +kernel
theorem d_La_law_189 : decode code 189 = .ok (.istore 5, 2) := by decide +kernel
theorem d_La_law_191 : decode code 191 = .ok (.aload_n 2, 1) := by decide +kernel
theorem d_La_law_192 : decode code 192 = .ok (.aload_n 0, 1) := by decide +kernel
theorem d_La_law_193 : decode code 193 = .ok (.iload 4, 2) := by decide +kernel
theorem d_La_law_195 : decode code 195 = .ok (.iconst 1, 1) := by decide +kernel
theorem d_La_law_196 : decode code 196 = .ok (.iadd, 1) := by decide +kernel
theorem d_La_law_197 : decode code 197 = .ok (.iaload, 1) := by decide +kernel
theorem d_La_law_198 : decode code 198 = .ok (.aload_n 0, 1) := by decide +kernel
theorem d_La_law_199 : decode code 199 = .ok (.iload 4, 2) := by decide +kernel
theorem d_La_law_201 : decode code 201 = .ok (.iconst 2, 1) := by decide +kernel
theorem d_La_law_202 : decode code 202 = .ok (.iadd, 1) := by decide +kernel
theorem d_La_law_203 : decode code 203 = .ok (.iaload, 1) := by decide +kernel
theorem d_La_law_204 : decode code 204 = .ok (.invokevirtual 69, 3) := by decide +kernel
theorem d_La_law_207 : decode code 207 = .ok (.istore 6, 2) := by decide +kernel
theorem d_La_law_209 : decode code 209 = .ok (.aload_n 2, 1) := by decide +kernel
theorem d_La_law_210 : decode code 210 = .ok (.invokevirtual 64, 3) := by decide +kernel
theorem d_La_law_213 : decode code 213 = .ok (.iload 5, 2) := by decide +kernel
theorem d_La_law_215 : decode code 215 = .ok (.if_icmp .eq 5, 3) := by decide +kernel
theorem d_La_law_218 : decode code 218 = .ok (.iconst 0, 1) := by decide +kernel
theorem d_La_law_219 : decode code 219 = .ok (.ireturn, 1) := by decide +kernel
theorem d_La_law_220 : decode code 220 = .ok (.iload 5, 2) := by decide +kernel
theorem d_La_law_222 : decode code 222 = .ok (.ifCond .ne 15, 3) := by decide +kernel
theorem d_La_law_225 : decode code 225 = .ok (.aload_n 3, 1) := by decide +kernel
theorem d_La_law_226 : decode code 226 = .ok (.iconst 0, 1) := by decide +kernel
theorem d_La_law_227 : decode code 227 = .ok (.laload, 1) := by decide +kernel
theorem d_La_law_228 : decode code 228 = .ok (.iload 6, 2) := by decide +kernel
theorem d_La_law_230 : decode code 230 = .ok (.i2l, 1) := by decide +kernel
theorem d_La_law_231 : decode code 231 = .ok (.lcmp, 1) := by decide +kernel
theorem d_La_law_232 : decode code 232 = .ok (.ifCond .eq 5, 3) := by decide +kernel
theorem d_La_law_235 : decode code 235 = .ok (.iconst 0, 1) := by decide +kernel
theorem d_La_law_236 : decode code 236 = .ok (.ireturn, 1) := by decide +kernel
theorem d_La_law_237 : decode code 237 = .ok (.goto 607, 3) := by decide +kernel
theorem d_La_law_240 : decode code 240 = .ok (.aload_n 1, 1) := by decide +kernel
theorem d_La_law_241 : decode code 241 = .ok (.aload_n 0, 1) := by decide +kernel
theorem d_La_law_242 : decode code 242 = .ok (.iload 4, 2) := by decide +kernel
theorem d_La_law_244 : decode code 244 = .ok (.iconst 1, 1) := by decide +kernel
theorem d_La_law_245 : decode code 245 = .ok (.iadd, 1) := by decide +kernel
theorem d_La_law_246 : decode code 246 = .ok (.iaload, 1) := by decide +kernel
theorem d_La_law_247 : decode code 247 = .ok (.aload_n 0, 1) := by decide +kernel
theorem d_La_law_248 : decode code 248 = .ok (.iload 4, 2) := by decide +kernel
theorem d_La_law_250 : decode code 250 = .ok (.iconst 2, 1) := by decide +kernel
theorem d_La_law_251 : decode code 251 = .ok (.iadd, 1) := by decide +kernel
theorem d_La_law_252 : decode code 252 = .ok (.iaload, 1) := by decide +kernel
theorem d_La_law_253 : decode code 253 = .ok (.aload_n 0, 1) := by decide +kernel
theorem d_La_law_254 : decode code 254 = .ok (.iload 4, 2) := by decide +kernel
theorem d_La_law_256 : decode code 256 = .ok (.iconst 3, 1) := by decide +kernel
theorem d_La_law_257 : decode code 257 = .ok (.iadd, 1) := by decide +kernel
theorem d_La_law_258 : decode code 258 = .ok (.iaload, 1) := by decide +kernel
theorem d_La_law_259 : decode code 259 = .ok (.aload_n 0, 1) := by decide +kernel
theorem d_La_law_260 : decode code 260 = .ok (.iload 4, 2) := by decide +kernel
theorem d_La_law_262 : decode code 262 = .ok (.iconst 4, 1) := by decide +kernel
theorem d_La_law_263 : decode code 263 = .ok (.iadd, 1) := by decide +kernel
theorem d_La_law_264 : decode code 264 = .ok (.iaload, 1) := by decide +kernel
theorem d_La_law_265 : decode code 265 = .ok (.invokestatic 70, 3) := by decide +kernel
theorem d_La_law_268 : decode code 268 = .ok (.istore 5, 2) := by decide +kernel
theorem d_La_law_270 : decode code 270 = .ok (.aload_n 2, 1) := by decide +kernel
theorem d_La_law_271 : decode code 271 = .ok (.aload_n 0, 1) := by decide +kernel
theorem d_La_law_272 : decode code 272 = .ok (.iload 4, 2) := by decide +kernel
theorem d_La_law_274 : decode code 274 = .ok (.iconst 1, 1) := by decide +kernel
theorem d_La_law_275 : decode code 275 = .ok (.iadd, 1) := by decide +kernel
theorem d_La_law_276 : decode code 276 = .ok (.iaload, 1) := by decide +kernel
theorem d_La_law_277 : decode code 277 = .ok (.aload_n 0, 1) := by decide +kernel
theorem d_La_law_278 : decode code 278 = .ok (.iload 4, 2) := by decide +kernel
theorem d_La_law_280 : decode code 280 = .ok (.iconst 2, 1) := by decide +kernel
theorem d_La_law_281 : decode code 281 = .ok (.iadd, 1) := by decide +kernel
theorem d_La_law_282 : decode code 282 = .ok (.iaload, 1) := by decide +kernel
theorem d_La_law_283 : decode code 283 = .ok (.aload_n 0, 1) := by decide +kernel
theorem d_La_law_284 : decode code 284 = .ok (.iload 4, 2) := by decide +kernel
theorem d_La_law_286 : decode code 286 = .ok (.iconst 3, 1) := by decide +kernel
theorem d_La_law_287 : decode code 287 = .ok (.iadd, 1) := by decide +kernel
theorem d_La_law_288 : decode code 288 = .ok (.iaload, 1) := by decide +kernel
theorem d_La_law_289 : decode code 289 = .ok (.aload_n 0, 1) := by decide +kernel
theorem d_La_law_290 : decode code 290 = .ok (.iload 4, 2) := by decide +kernel
theorem d_La_law_292 : decode code 292 = .ok (.iconst 4, 1) := by decide +kernel
theorem d_La_law_293 : decode code 293 = .ok (.iadd, 1) := by decide +kernel
theorem d_La_law_294 : decode code 294 = .ok (.iaload, 1) := by decide +kernel
theorem d_La_law_295 : decode code 295 = .ok (.invokevirtual 73, 3) := by decide +kernel
theorem d_La_law_298 : decode code 298 = .ok (.aload_n 2, 1) := by decide +kernel
theorem d_La_law_299 : decode code 299 = .ok (.invokevirtual 64, 3) := by decide +kernel
theorem d_La_law_302 : decode code 302 = .ok (.iload 5, 2) := by decide +kernel
theorem d_La_law_304 : decode code 304 = .ok (.if_icmp .eq 5, 3) := by decide +kernel
theorem d_La_law_307 : decode code 307 = .ok (.iconst 0, 1) := by decide +kernel
theorem d_La_law_308 : decode code 308 = .ok (.ireturn, 1) := by decide +kernel
theorem d_La_law_309 : decode code 309 = .ok (.goto 535, 3) := by decide +kernel
theorem d_La_law_312 : decode code 312 = .ok (.aload_n 1, 1) := by decide +kernel
theorem d_La_law_313 : decode code 313 = .ok (.aload_n 0, 1) := by decide +kernel
theorem d_La_law_314 : decode code 314 = .ok (.iload 4, 2) := by decide +kernel
theorem d_La_law_316 : decode code 316 = .ok (.iconst 1, 1) := by decide +kernel
theorem d_La_law_317 : decode code 317 = .ok (.iadd, 1) := by decide +kernel
theorem d_La_law_318 : decode code 318 = .ok (.iaload, 1) := by decide +kernel
theorem d_La_law_319 : decode code 319 = .ok (.aload_n 0, 1) := by decide +kernel
theorem d_La_law_320 : decode code 320 = .ok (.iload 4, 2) := by decide +kernel
theorem d_La_law_322 : decode code 322 = .ok (.iconst 2, 1) := by decide +kernel
theorem d_La_law_323 : decode code 323 = .ok (.iadd, 1) := by decide +kernel
theorem d_La_law_324 : decode code 324 = .ok (.iaload, 1) := by decide +kernel
theorem d_La_law_325 : decode code 325 = .ok (.aload_n 3, 1) := by decide +kernel
theorem d_La_law_326 : decode code 326 = .ok (.invokestatic 74, 3) := by decide +kernel
theorem d_La_law_329 : decode code 329 = .ok (.istore 5, 2) := by decide +kernel
theorem d_La_law_331 : decode code 331 = .ok (.aload_n 2, 1) := by decide +kernel
theorem d_La_law_332 : decode code 332 = .ok (.aload_n 0, 1) := by decide +kernel
theorem d_La_law_333 : decode code 333 = .ok (.iload 4, 2) := by decide +kernel
theorem d_La_law_335 : decode code 335 = .ok (.iconst 1, 1) := by decide +kernel
theorem d_La_law_336 : decode code 336 = .ok (.iadd, 1) := by decide +kernel
theorem d_La_law_337 : decode code 337 = .ok (.iaload, 1) := by decide +kernel
theorem d_La_law_338 : decode code 338 = .ok (.aload_n 0, 1) := by decide +kernel
theorem d_La_law_339 : decode code 339 = .ok (.iload 4, 2) := by decide +kernel
theorem d_La_law_341 : decode code 341 = .ok (.iconst 2, 1) := by decide +kernel
theorem d_La_law_342 : decode code 342 = .ok (.iadd, 1) := by decide +kernel
theorem d_La_law_343 : decode code 343 = .ok (.iaload, 1) := by decide +kernel
theorem d_La_law_344 : decode code 344 = .ok (.invokevirtual 76, 3) := by decide +kernel
theorem d_La_law_347 : decode code 347 = .ok (.istore 6, 2) := by decide +kernel
theorem d_La_law_349 : decode code 349 = .ok (.aload_n 2, 1) := by decide +kernel
theorem d_La_law_350 : decode code 350 = .ok (.invokevirtual 64, 3) := by decide +kernel
theorem d_La_law_353 : decode code 353 = .ok (.iload 5, 2) := by decide +kernel
theorem d_La_law_355 : decode code 355 = .ok (.if_icmp .eq 5, 3) := by decide +kernel
theorem d_La_law_358 : decode code 358 = .ok (.iconst 0, 1) := by decide +kernel
theorem d_La_law_359 : decode code 359 = .ok (.ireturn, 1) := by decide +kernel
theorem d_La_law_360 : decode code 360 = .ok (.iload 5, 2) := by decide +kernel
theorem d_La_law_362 : decode code 362 = .ok (.ifCond .ne 15, 3) := by decide +kernel
theorem d_La_law_365 : decode code 365 = .ok (.aload_n 3, 1) := by decide +kernel
theorem d_La_law_366 : decode code 366 = .ok (.iconst 0, 1) := by decide +kernel
theorem d_La_law_367 : decode code 367 = .ok (.laload, 1) := by decide +kernel
theorem d_La_law_368 : decode code 368 = .ok (.iload 6, 2) := by decide +kernel
theorem d_La_law_370 : decode code 370 = .ok (.i2l, 1) := by decide +kernel
theorem d_La_law_371 : decode code 371 = .ok (.lcmp, 1) := by decide +kernel
theorem d_La_law_372 : decode code 372 = .ok (.ifCond .eq 5, 3) := by decide +kernel
theorem d_La_law_375 : decode code 375 = .ok (.iconst 0, 1) := by decide +kernel
theorem d_La_law_376 : decode code 376 = .ok (.ireturn, 1) := by decide +kernel
theorem d_La_law_377 : decode code 377 = .ok (.goto 467, 3) := by decide +kernel
theorem d_La_law_380 : decode code 380 = .ok (.aload_n 1, 1) := by decide +kernel
theorem d_La_law_381 : decode code 381 = .ok (.aload_n 3, 1) := by decide +kernel
theorem d_La_law_382 : decode code 382 = .ok (.invokestatic 77, 3) := by decide +kernel
theorem d_La_law_385 : decode code 385 = .ok (.istore 5, 2) := by decide +kernel
theorem d_La_law_387 : decode code 387 = .ok (.aload_n 2, 1) := by decide +kernel
theorem d_La_law_388 : decode code 388 = .ok (.invokevirtual 80, 3) := by decide +kernel
theorem d_La_law_391 : decode code 391 = .ok (.istore 6, 2) := by decide +kernel
theorem d_La_law_393 : decode code 393 = .ok (.aload_n 2, 1) := by decide +kernel
theorem d_La_law_394 : decode code 394 = .ok (.invokevirtual 64, 3) := by decide +kernel
theorem d_La_law_397 : decode code 397 = .ok (.iload 5, 2) := by decide +kernel
theorem d_La_law_399 : decode code 399 = .ok (.if_icmp .eq 5, 3) := by decide +kernel
theorem d_La_law_402 : decode code 402 = .ok (.iconst 0, 1) := by decide +kernel
theorem d_La_law_403 : decode code 403 = .ok (.ireturn, 1) := by decide +kernel
theorem d_La_law_404 : decode code 404 = .ok (.iload 5, 2) := by decide +kernel
theorem d_La_law_406 : decode code 406 = .ok (.ifCond .ne 15, 3) := by decide +kernel
theorem d_La_law_409 : decode code 409 = .ok (.aload_n 3, 1) := by decide +kernel
theorem d_La_law_410 : decode code 410 = .ok (.iconst 0, 1) := by decide +kernel
theorem d_La_law_411 : decode code 411 = .ok (.laload, 1) := by decide +kernel
theorem d_La_law_412 : decode code 412 = .ok (.iload 6, 2) := by decide +kernel
theorem d_La_law_414 : decode code 414 = .ok (.i2l, 1) := by decide +kernel
theorem d_La_law_415 : decode code 415 = .ok (.lcmp, 1) := by decide +kernel
theorem d_La_law_416 : decode code 416 = .ok (.ifCond .eq 5, 3) := by decide +kernel
theorem d_La_law_419 : decode code 419 = .ok (.iconst 0, 1) := by decide +kernel
theorem d_La_law_420 : decode code 420 = .ok (.ireturn, 1) := by decide +kernel
theorem d_La_law_421 : decode code 421 = .ok (.goto 423, 3) := by decide +kernel
theorem d_La_law_424 : decode code 424 = .ok (.aload_n 1, 1) := by decide +kernel
theorem d_La_law_425 : decode code 425 = .ok (.invokevirtual 81, 3) := by decide +kernel
theorem d_La_law_428 : decode code 428 = .ok (.aload_n 2, 1) := by decide +kernel
theorem d_La_law_429 : decode code 429 = .ok (.invokevirtual 84, 3) := by decide +kernel
theorem d_La_law_432 : decode code 432 = .ok (.if_icmp .eq 412, 3) := by decide +kernel
theorem d_La_law_435 : decode code 435 = .ok (.iconst 0, 1) := by decide +kernel
theorem d_La_law_436 : decode code 436 = .ok (.ireturn, 1) := by decide +kernel
theorem d_La_law_437 : decode code 437 = .ok (.aload_n 1, 1) := by decide +kernel
theorem d_La_law_438 : decode code 438 = .ok (.aload_n 0, 1) := by decide +kernel
theorem d_La_law_439 : decode code 439 = .ok (.iload 4, 2) := by decide +kernel
theorem d_La_law_441 : decode code 441 = .ok (.iconst 1, 1) := by decide +kernel
theorem d_La_law_442 : decode code 442 = .ok (.iadd, 1) := by decide +kernel
theorem d_La_law_443 : decode code 443 = .ok (.iaload, 1) := by decide +kernel
theorem d_La_law_444 : decode code 444 = .ok (.aload_n 0, 1) := by decide +kernel
theorem d_La_law_445 : decode code 445 = .ok (.iload 4, 2) := by decide +kernel
theorem d_La_law_447 : decode code 447 = .ok (.iconst 2, 1) := by decide +kernel
theorem d_La_law_448 : decode code 448 = .ok (.iadd, 1) := by decide +kernel
theorem d_La_law_449 : decode code 449 = .ok (.iaload, 1) := by decide +kernel
theorem d_La_law_450 : decode code 450 = .ok (.aload_n 0, 1) := by decide +kernel
theorem d_La_law_451 : decode code 451 = .ok (.iload 4, 2) := by decide +kernel
theorem d_La_law_453 : decode code 453 = .ok (.iconst 3, 1) := by decide +kernel
theorem d_La_law_454 : decode code 454 = .ok (.iadd, 1) := by decide +kernel
theorem d_La_law_455 : decode code 455 = .ok (.iaload, 1) := by decide +kernel
theorem d_La_law_456 : decode code 456 = .ok (.aload_n 0, 1) := by decide +kernel
theorem d_La_law_457 : decode code 457 = .ok (.iload 4, 2) := by decide +kernel
theorem d_La_law_459 : decode code 459 = .ok (.iconst 4, 1) := by decide +kernel
theorem d_La_law_460 : decode code 460 = .ok (.iadd, 1) := by decide +kernel
theorem d_La_law_461 : decode code 461 = .ok (.iaload, 1) := by decide +kernel
theorem d_La_law_462 : decode code 462 = .ok (.invokestatic 85, 3) := by decide +kernel
theorem d_La_law_465 : decode code 465 = .ok (.istore 5, 2) := by decide +kernel
theorem d_La_law_467 : decode code 467 = .ok (.aload_n 2, 1) := by decide +kernel
theorem d_La_law_468 : decode code 468 = .ok (.aload_n 0, 1) := by decide +kernel
theorem d_La_law_469 : decode code 469 = .ok (.iload 4, 2) := by decide +kernel
theorem d_La_law_471 : decode code 471 = .ok (.iconst 1, 1) := by decide +kernel
theorem d_La_law_472 : decode code 472 = .ok (.iadd, 1) := by decide +kernel
theorem d_La_law_473 : decode code 473 = .ok (.iaload, 1) := by decide +kernel
theorem d_La_law_474 : decode code 474 = .ok (.aload_n 0, 1) := by decide +kernel
theorem d_La_law_475 : decode code 475 = .ok (.iload 4, 2) := by decide +kernel
theorem d_La_law_477 : decode code 477 = .ok (.iconst 2, 1) := by decide +kernel
theorem d_La_law_478 : decode code 478 = .ok (.iadd, 1) := by decide +kernel
theorem d_La_law_479 : decode code 479 = .ok (.iaload, 1) := by decide +kernel
theorem d_La_law_480 : decode code 480 = .ok (.aload_n 0, 1) := by decide +kernel
theorem d_La_law_481 : decode code 481 = .ok (.iload 4, 2) := by decide +kernel
theorem d_La_law_483 : decode code 483 = .ok (.iconst 3, 1) := by decide +kernel
theorem d_La_law_484 : decode code 484 = .ok (.iadd, 1) := by decide +kernel
theorem d_La_law_485 : decode code 485 = .ok (.iaload, 1) := by decide +kernel
theorem d_La_law_486 : decode code 486 = .ok (.aload_n 0, 1) := by decide +kernel
theorem d_La_law_487 : decode code 487 = .ok (.iload 4, 2) := by decide +kernel
theorem d_La_law_489 : decode code 489 = .ok (.iconst 4, 1) := by decide +kernel
theorem d_La_law_490 : decode code 490 = .ok (.iadd, 1) := by decide +kernel
theorem d_La_law_491 : decode code 491 = .ok (.iaload, 1) := by decide +kernel
theorem d_La_law_492 : decode code 492 = .ok (.invokevirtual 87, 3) := by decide +kernel
theorem d_La_law_495 : decode code 495 = .ok (.aload_n 2, 1) := by decide +kernel
theorem d_La_law_496 : decode code 496 = .ok (.invokevirtual 64, 3) := by decide +kernel
theorem d_La_law_499 : decode code 499 = .ok (.iload 5, 2) := by decide +kernel
theorem d_La_law_501 : decode code 501 = .ok (.if_icmp .eq 5, 3) := by decide +kernel
theorem d_La_law_504 : decode code 504 = .ok (.iconst 0, 1) := by decide +kernel
theorem d_La_law_505 : decode code 505 = .ok (.ireturn, 1) := by decide +kernel
theorem d_La_law_506 : decode code 506 = .ok (.goto 338, 3) := by decide +kernel
theorem d_La_law_509 : decode code 509 = .ok (.aload_n 1, 1) := by decide +kernel
theorem d_La_law_510 : decode code 510 = .ok (.aload_n 0, 1) := by decide +kernel
theorem d_La_law_511 : decode code 511 = .ok (.iload 4, 2) := by decide +kernel
theorem d_La_law_513 : decode code 513 = .ok (.iconst 1, 1) := by decide +kernel
theorem d_La_law_514 : decode code 514 = .ok (.iadd, 1) := by decide +kernel
theorem d_La_law_515 : decode code 515 = .ok (.iaload, 1) := by decide +kernel
theorem d_La_law_516 : decode code 516 = .ok (.aload_n 3, 1) := by decide +kernel
theorem d_La_law_517 : decode code 517 = .ok (.invokestatic 88, 3) := by decide +kernel
theorem d_La_law_520 : decode code 520 = .ok (.istore 5, 2) := by decide +kernel
theorem d_La_law_522 : decode code 522 = .ok (.aload_n 2, 1) := by decide +kernel
theorem d_La_law_523 : decode code 523 = .ok (.aload_n 0, 1) := by decide +kernel
theorem d_La_law_524 : decode code 524 = .ok (.iload 4, 2) := by decide +kernel
theorem d_La_law_526 : decode code 526 = .ok (.iconst 1, 1) := by decide +kernel
theorem d_La_law_527 : decode code 527 = .ok (.iadd, 1) := by decide +kernel
theorem d_La_law_528 : decode code 528 = .ok (.iaload, 1) := by decide +kernel
theorem d_La_law_529 : decode code 529 = .ok (.invokevirtual 91, 3) := by decide +kernel
theorem d_La_law_532 : decode code 532 = .ok (.istore 6, 2) := by decide +kernel
theorem d_La_law_534 : decode code 534 = .ok (.aload_n 2, 1) := by decide +kernel
theorem d_La_law_535 : decode code 535 = .ok (.invokevirtual 64, 3) := by decide +kernel
theorem d_La_law_538 : decode code 538 = .ok (.iload 5, 2) := by decide +kernel
theorem d_La_law_540 : decode code 540 = .ok (.if_icmp .eq 5, 3) := by decide +kernel
theorem d_La_law_543 : decode code 543 = .ok (.iconst 0, 1) := by decide +kernel
theorem d_La_law_544 : decode code 544 = .ok (.ireturn, 1) := by decide +kernel
theorem d_La_law_545 : decode code 545 = .ok (.iload 5, 2) := by decide +kernel
theorem d_La_law_547 : decode code 547 = .ok (.ifCond .ne 15, 3) := by decide +kernel
theorem d_La_law_550 : decode code 550 = .ok (.aload_n 3, 1) := by decide +kernel
theorem d_La_law_551 : decode code 551 = .ok (.iconst 0, 1) := by decide +kernel
theorem d_La_law_552 : decode code 552 = .ok (.laload, 1) := by decide +kernel
theorem d_La_law_553 : decode code 553 = .ok (.iload 6, 2) := by decide +kernel
theorem d_La_law_555 : decode code 555 = .ok (.i2l, 1) := by decide +kernel
theorem d_La_law_556 : decode code 556 = .ok (.lcmp, 1) := by decide +kernel
theorem d_La_law_557 : decode code 557 = .ok (.ifCond .eq 5, 3) := by decide +kernel
theorem d_La_law_560 : decode code 560 = .ok (.iconst 0, 1) := by decide +kernel
theorem d_La_law_561 : decode code 561 = .ok (.ireturn, 1) := by decide +kernel
theorem d_La_law_562 : decode code 562 = .ok (.goto 282, 3) := by decide +kernel
theorem d_La_law_565 : decode code 565 = .ok (.aload_n 1, 1) := by decide +kernel
theorem d_La_law_566 : decode code 566 = .ok (.aload_n 0, 1) := by decide +kernel
theorem d_La_law_567 : decode code 567 = .ok (.iload 4, 2) := by decide +kernel
theorem d_La_law_569 : decode code 569 = .ok (.iconst 1, 1) := by decide +kernel
theorem d_La_law_570 : decode code 570 = .ok (.iadd, 1) := by decide +kernel
theorem d_La_law_571 : decode code 571 = .ok (.iaload, 1) := by decide +kernel
theorem d_La_law_572 : decode code 572 = .ok (.aload_n 3, 1) := by decide +kernel
theorem d_La_law_573 : decode code 573 = .ok (.invokestatic 92, 3) := by decide +kernel
theorem d_La_law_576 : decode code 576 = .ok (.istore 5, 2) := by decide +kernel
theorem d_La_law_578 : decode code 578 = .ok (.aload_n 2, 1) := by decide +kernel
theorem d_La_law_579 : decode code 579 = .ok (.aload_n 0, 1) := by decide +kernel
theorem d_La_law_580 : decode code 580 = .ok (.iload 4, 2) := by decide +kernel
theorem d_La_law_582 : decode code 582 = .ok (.iconst 1, 1) := by decide +kernel
theorem d_La_law_583 : decode code 583 = .ok (.iadd, 1) := by decide +kernel
theorem d_La_law_584 : decode code 584 = .ok (.iaload, 1) := by decide +kernel
theorem d_La_law_585 : decode code 585 = .ok (.invokevirtual 94, 3) := by decide +kernel
theorem d_La_law_588 : decode code 588 = .ok (.istore 6, 2) := by decide +kernel
theorem d_La_law_590 : decode code 590 = .ok (.aload_n 2, 1) := by decide +kernel
theorem d_La_law_591 : decode code 591 = .ok (.invokevirtual 64, 3) := by decide +kernel
theorem d_La_law_594 : decode code 594 = .ok (.iload 5, 2) := by decide +kernel
theorem d_La_law_596 : decode code 596 = .ok (.if_icmp .eq 5, 3) := by decide +kernel
theorem d_La_law_599 : decode code 599 = .ok (.iconst 0, 1) := by decide +kernel
theorem d_La_law_600 : decode code 600 = .ok (.ireturn, 1) := by decide +kernel
theorem d_La_law_601 : decode code 601 = .ok (.iload 5, 2) := by decide +kernel
theorem d_La_law_603 : decode code 603 = .ok (.ifCond .ne 15, 3) := by decide +kernel
theorem d_La_law_606 : decode code 606 = .ok (.aload_n 3, 1) := by decide +kernel
theorem d_La_law_607 : decode code 607 = .ok (.iconst 0, 1) := by decide +kernel
theorem d_La_law_608 : decode code 608 = .ok (.laload, 1) := by decide +kernel
theorem d_La_law_609 : decode code 609 = .ok (.iload 6, 2) := by decide +kernel
theorem d_La_law_611 : decode code 611 = .ok (.i2l, 1) := by decide +kernel
theorem d_La_law_612 : decode code 612 = .ok (.lcmp, 1) := by decide +kernel
theorem d_La_law_613 : decode code 613 = .ok (.ifCond .eq 5, 3) := by decide +kernel
theorem d_La_law_616 : decode code 616 = .ok (.iconst 0, 1) := by decide +kernel
theorem d_La_law_617 : decode code 617 = .ok (.ireturn, 1) := by decide +kernel
theorem d_La_law_618 : decode code 618 = .ok (.goto 226, 3) := by decide +kernel
theorem d_La_law_621 : decode code 621 = .ok (.aload_n 1, 1) := by decide +kernel
theorem d_La_law_622 : decode code 622 = .ok (.aload_n 0, 1) := by decide +kernel
theorem d_La_law_623 : decode code 623 = .ok (.iload 4, 2) := by decide +kernel
theorem d_La_law_625 : decode code 625 = .ok (.iconst 1, 1) := by decide +kernel
theorem d_La_law_626 : decode code 626 = .ok (.iadd, 1) := by decide +kernel
theorem d_La_law_627 : decode code 627 = .ok (.iaload, 1) := by decide +kernel
theorem d_La_law_628 : decode code 628 = .ok (.invokevirtual 95, 3) := by decide +kernel
theorem d_La_law_631 : decode code 631 = .ok (.aload_n 2, 1) := by decide +kernel
theorem d_La_law_632 : decode code 632 = .ok (.aload_n 0, 1) := by decide +kernel
theorem d_La_law_633 : decode code 633 = .ok (.iload 4, 2) := by decide +kernel
theorem d_La_law_635 : decode code 635 = .ok (.iconst 1, 1) := by decide +kernel
theorem d_La_law_636 : decode code 636 = .ok (.iadd, 1) := by decide +kernel
theorem d_La_law_637 : decode code 637 = .ok (.iaload, 1) := by decide +kernel
theorem d_La_law_638 : decode code 638 = .ok (.invokevirtual 98, 3) := by decide +kernel
theorem d_La_law_641 : decode code 641 = .ok (.if_icmp .eq 203, 3) := by decide +kernel
theorem d_La_law_644 : decode code 644 = .ok (.iconst 0, 1) := by decide +kernel
theorem d_La_law_645 : decode code 645 = .ok (.ireturn, 1) := by decide +kernel
theorem d_La_law_646 : decode code 646 = .ok (.aload_n 1, 1) := by decide +kernel
theorem d_La_law_647 : decode code 647 = .ok (.aload_n 0, 1) := by decide +kernel
theorem d_La_law_648 : decode code 648 = .ok (.iload 4, 2) := by decide +kernel
theorem d_La_law_650 : decode code 650 = .ok (.iconst 1, 1) := by decide +kernel
theorem d_La_law_651 : decode code 651 = .ok (.iadd, 1) := by decide +kernel
theorem d_La_law_652 : decode code 652 = .ok (.iaload, 1) := by decide +kernel
theorem d_La_law_653 : decode code 653 = .ok (.aload_n 0, 1) := by decide +kernel
theorem d_La_law_654 : decode code 654 = .ok (.iload 4, 2) := by decide +kernel
theorem d_La_law_656 : decode code 656 = .ok (.iconst 2, 1) := by decide +kernel
theorem d_La_law_657 : decode code 657 = .ok (.iadd, 1) := by decide +kernel
theorem d_La_law_658 : decode code 658 = .ok (.iaload, 1) := by decide +kernel
theorem d_La_law_659 : decode code 659 = .ok (.aload_n 3, 1) := by decide +kernel
theorem d_La_law_660 : decode code 660 = .ok (.invokestatic 99, 3) := by decide +kernel
theorem d_La_law_663 : decode code 663 = .ok (.istore 5, 2) := by decide +kernel
theorem d_La_law_665 : decode code 665 = .ok (.aload_n 2, 1) := by decide +kernel
theorem d_La_law_666 : decode code 666 = .ok (.aload_n 0, 1) := by decide +kernel
theorem d_La_law_667 : decode code 667 = .ok (.iload 4, 2) := by decide +kernel
theorem d_La_law_669 : decode code 669 = .ok (.iconst 1, 1) := by decide +kernel
theorem d_La_law_670 : decode code 670 = .ok (.iadd, 1) := by decide +kernel
theorem d_La_law_671 : decode code 671 = .ok (.iaload, 1) := by decide +kernel
theorem d_La_law_672 : decode code 672 = .ok (.aload_n 0, 1) := by decide +kernel
theorem d_La_law_673 : decode code 673 = .ok (.iload 4, 2) := by decide +kernel
theorem d_La_law_675 : decode code 675 = .ok (.iconst 2, 1) := by decide +kernel
theorem d_La_law_676 : decode code 676 = .ok (.iadd, 1) := by decide +kernel
theorem d_La_law_677 : decode code 677 = .ok (.iaload, 1) := by decide +kernel
theorem d_La_law_678 : decode code 678 = .ok (.invokevirtual 101, 3) := by decide +kernel
theorem d_La_law_681 : decode code 681 = .ok (.istore 6, 2) := by decide +kernel
theorem d_La_law_683 : decode code 683 = .ok (.aload_n 2, 1) := by decide +kernel
theorem d_La_law_684 : decode code 684 = .ok (.invokevirtual 64, 3) := by decide +kernel
theorem d_La_law_687 : decode code 687 = .ok (.iload 5, 2) := by decide +kernel
theorem d_La_law_689 : decode code 689 = .ok (.if_icmp .eq 5, 3) := by decide +kernel
theorem d_La_law_692 : decode code 692 = .ok (.iconst 0, 1) := by decide +kernel
theorem d_La_law_693 : decode code 693 = .ok (.ireturn, 1) := by decide +kernel
theorem d_La_law_694 : decode code 694 = .ok (.iload 5, 2) := by decide +kernel
theorem d_La_law_696 : decode code 696 = .ok (.ifCond .ne 22, 3) := by decide +kernel
theorem d_La_law_699 : decode code 699 = .ok (.aload_n 3, 1) := by decide +kernel
theorem d_La_law_700 : decode code 700 = .ok (.iconst 0, 1) := by decide +kernel
theorem d_La_law_701 : decode code 701 = .ok (.laload, 1) := by decide +kernel
theorem d_La_law_702 : decode code 702 = .ok (.iload 6, 2) := by decide +kernel
theorem d_La_law_704 : decode code 704 = .ok (.ifCond .eq 7, 3) := by decide +kernel
theorem d_La_law_707 : decode code 707 = .ok (.lconst 1, 1) := by decide +kernel
theorem d_La_law_708 : decode code 708 = .ok (.goto 4, 3) := by decide +kernel
theorem d_La_law_711 : decode code 711 = .ok (.lconst 0, 1) := by decide +kernel
theorem d_La_law_712 : decode code 712 = .ok (.lcmp, 1) := by decide +kernel
theorem d_La_law_713 : decode code 713 = .ok (.ifCond .eq 5, 3) := by decide +kernel
theorem d_La_law_716 : decode code 716 = .ok (.iconst 0, 1) := by decide +kernel
theorem d_La_law_717 : decode code 717 = .ok (.ireturn, 1) := by decide +kernel
theorem d_La_law_718 : decode code 718 = .ok (.goto 126, 3) := by decide +kernel
theorem d_La_law_721 : decode code 721 = .ok (.aload_n 1, 1) := by decide +kernel
theorem d_La_law_722 : decode code 722 = .ok (.aload_n 0, 1) := by decide +kernel
theorem d_La_law_723 : decode code 723 = .ok (.iload 4, 2) := by decide +kernel
theorem d_La_law_725 : decode code 725 = .ok (.iconst 1, 1) := by decide +kernel
theorem d_La_law_726 : decode code 726 = .ok (.iadd, 1) := by decide +kernel
theorem d_La_law_727 : decode code 727 = .ok (.iaload, 1) := by decide +kernel
theorem d_La_law_728 : decode code 728 = .ok (.aload_n 3, 1) := by decide +kernel
theorem d_La_law_729 : decode code 729 = .ok (.invokestatic 102, 3) := by decide +kernel
theorem d_La_law_732 : decode code 732 = .ok (.istore 5, 2) := by decide +kernel
theorem d_La_law_734 : decode code 734 = .ok (.aload_n 2, 1) := by decide +kernel
theorem d_La_law_735 : decode code 735 = .ok (.aload_n 0, 1) := by decide +kernel
theorem d_La_law_736 : decode code 736 = .ok (.iload 4, 2) := by decide +kernel
theorem d_La_law_738 : decode code 738 = .ok (.iconst 1, 1) := by decide +kernel
theorem d_La_law_739 : decode code 739 = .ok (.iadd, 1) := by decide +kernel
theorem d_La_law_740 : decode code 740 = .ok (.iaload, 1) := by decide +kernel
theorem d_La_law_741 : decode code 741 = .ok (.invokevirtual 104, 3) := by decide +kernel
theorem d_La_law_744 : decode code 744 = .ok (.lstore 6, 2) := by decide +kernel
theorem d_La_law_746 : decode code 746 = .ok (.aload_n 2, 1) := by decide +kernel
theorem d_La_law_747 : decode code 747 = .ok (.invokevirtual 64, 3) := by decide +kernel
theorem d_La_law_750 : decode code 750 = .ok (.iload 5, 2) := by decide +kernel
theorem d_La_law_752 : decode code 752 = .ok (.if_icmp .eq 5, 3) := by decide +kernel
theorem d_La_law_755 : decode code 755 = .ok (.iconst 0, 1) := by decide +kernel
theorem d_La_law_756 : decode code 756 = .ok (.ireturn, 1) := by decide +kernel
theorem d_La_law_757 : decode code 757 = .ok (.iload 5, 2) := by decide +kernel
theorem d_La_law_759 : decode code 759 = .ok (.ifCond .ne 14, 3) := by decide +kernel
theorem d_La_law_762 : decode code 762 = .ok (.aload_n 3, 1) := by decide +kernel
theorem d_La_law_763 : decode code 763 = .ok (.iconst 0, 1) := by decide +kernel
theorem d_La_law_764 : decode code 764 = .ok (.laload, 1) := by decide +kernel
theorem d_La_law_765 : decode code 765 = .ok (.lload 6, 2) := by decide +kernel
theorem d_La_law_767 : decode code 767 = .ok (.lcmp, 1) := by decide +kernel
theorem d_La_law_768 : decode code 768 = .ok (.ifCond .eq 5, 3) := by decide +kernel
theorem d_La_law_771 : decode code 771 = .ok (.iconst 0, 1) := by decide +kernel
theorem d_La_law_772 : decode code 772 = .ok (.ireturn, 1) := by decide +kernel
theorem d_La_law_773 : decode code 773 = .ok (.goto 71, 3) := by decide +kernel
theorem d_La_law_776 : decode code 776 = .ok (.aload_n 1, 1) := by decide +kernel
theorem d_La_law_777 : decode code 777 = .ok (.aload_n 0, 1) := by decide +kernel
theorem d_La_law_778 : decode code 778 = .ok (.iload 4, 2) := by decide +kernel
theorem d_La_law_780 : decode code 780 = .ok (.iconst 1, 1) := by decide +kernel
theorem d_La_law_781 : decode code 781 = .ok (.iadd, 1) := by decide +kernel
theorem d_La_law_782 : decode code 782 = .ok (.iaload, 1) := by decide +kernel
theorem d_La_law_783 : decode code 783 = .ok (.aload_n 0, 1) := by decide +kernel
theorem d_La_law_784 : decode code 784 = .ok (.iload 4, 2) := by decide +kernel
theorem d_La_law_786 : decode code 786 = .ok (.iconst 2, 1) := by decide +kernel
theorem d_La_law_787 : decode code 787 = .ok (.iadd, 1) := by decide +kernel
theorem d_La_law_788 : decode code 788 = .ok (.iaload, 1) := by decide +kernel
theorem d_La_law_789 : decode code 789 = .ok (.aload_n 3, 1) := by decide +kernel
theorem d_La_law_790 : decode code 790 = .ok (.invokestatic 105, 3) := by decide +kernel
theorem d_La_law_793 : decode code 793 = .ok (.istore 5, 2) := by decide +kernel
theorem d_La_law_795 : decode code 795 = .ok (.aload_n 2, 1) := by decide +kernel
theorem d_La_law_796 : decode code 796 = .ok (.aload_n 0, 1) := by decide +kernel
theorem d_La_law_797 : decode code 797 = .ok (.iload 4, 2) := by decide +kernel
theorem d_La_law_799 : decode code 799 = .ok (.iconst 1, 1) := by decide +kernel
theorem d_La_law_800 : decode code 800 = .ok (.iadd, 1) := by decide +kernel
theorem d_La_law_801 : decode code 801 = .ok (.iaload, 1) := by decide +kernel
theorem d_La_law_802 : decode code 802 = .ok (.aload_n 0, 1) := by decide +kernel
theorem d_La_law_803 : decode code 803 = .ok (.iload 4, 2) := by decide +kernel
theorem d_La_law_805 : decode code 805 = .ok (.iconst 2, 1) := by decide +kernel
theorem d_La_law_806 : decode code 806 = .ok (.iadd, 1) := by decide +kernel
theorem d_La_law_807 : decode code 807 = .ok (.iaload, 1) := by decide +kernel
theorem d_La_law_808 : decode code 808 = .ok (.invokevirtual 107, 3) := by decide +kernel
theorem d_La_law_811 : decode code 811 = .ok (.istore 6, 2) := by decide +kernel
theorem d_La_law_813 : decode code 813 = .ok (.aload_n 2, 1) := by decide +kernel
theorem d_La_law_814 : decode code 814 = .ok (.invokevirtual 64, 3) := by decide +kernel
theorem d_La_law_817 : decode code 817 = .ok (.iload 5, 2) := by decide +kernel
theorem d_La_law_819 : decode code 819 = .ok (.if_icmp .eq 5, 3) := by decide +kernel
theorem d_La_law_822 : decode code 822 = .ok (.iconst 0, 1) := by decide +kernel
theorem d_La_law_823 : decode code 823 = .ok (.ireturn, 1) := by decide +kernel
theorem d_La_law_824 : decode code 824 = .ok (.iload 5, 2) := by decide +kernel
theorem d_La_law_826 : decode code 826 = .ok (.ifCond .ne 15, 3) := by decide +kernel
theorem d_La_law_829 : decode code 829 = .ok (.aload_n 3, 1) := by decide +kernel
theorem d_La_law_830 : decode code 830 = .ok (.iconst 0, 1) := by decide +kernel
theorem d_La_law_831 : decode code 831 = .ok (.laload, 1) := by decide +kernel
theorem d_La_law_832 : decode code 832 = .ok (.iload 6, 2) := by decide +kernel
theorem d_La_law_834 : decode code 834 = .ok (.i2l, 1) := by decide +kernel
theorem d_La_law_835 : decode code 835 = .ok (.lcmp, 1) := by decide +kernel
theorem d_La_law_836 : decode code 836 = .ok (.ifCond .eq 5, 3) := by decide +kernel
theorem d_La_law_839 : decode code 839 = .ok (.iconst 0, 1) := by decide +kernel
theorem d_La_law_840 : decode code 840 = .ok (.ireturn, 1) := by decide +kernel
theorem d_La_law_841 : decode code 841 = .ok (.goto 3, 3) := by decide +kernel
theorem d_La_law_844 : decode code 844 = .ok (.iinc 4 5, 3) := by decide +kernel
theorem d_La_law_847 : decode code 847 = .ok (.goto (-824), 3) := by decide +kernel
theorem d_La_law_850 : decode code 850 = .ok (.iconst 1, 1) := by decide +kernel
theorem d_La_law_851 : decode code 851 = .ok (.ireturn, 1) := by decide +kernel
end
section
/-! machine words by whole numbers: iI z, lI z are z as an int, as a long; sums, differences and products need no bounds, comparisons do -/
def iI (z : Int) : Int32 := Int32.ofInt z
def lI (z : Int) : Int64 := Int64.ofInt z
theorem iI_add (a b : Int) : iI a + iI b = iI (a + b) := (Int32.ofInt_add a b).symm
theorem iI_sub (a b : Int) : iI a - iI b = iI (a - b) := (Int32.ofInt_sub a b).symm
theorem iI_mul (a b : Int) : iI a * iI b = iI (a * b) := (Int32.ofInt_mul a b).symm
theorem iI_neg (a : Int) : - iI a = iI (- a) := (Int32.ofInt_neg a).symm
theorem lI_add (a b : Int) : lI a + lI b = lI (a + b) := (Int64.ofInt_add a b).symm
theorem lI_sub (a b : Int) : lI a - lI b = lI (a - b) := (Int64.ofInt_sub a b).symm
theorem lI_mul (a b : Int) : lI a * lI b = lI (a * b) := (Int64.ofInt_mul a b).symm
theorem lI_neg (a : Int) : - lI a = lI (- a) := (Int64.ofInt_neg a).symm
/-- the bounds of an int, of a long -/
def bI (a : Int) : Prop := -2147483648 ≤ a ∧ a ≤ 2147483647
def bL (a : Int) : Prop := -9223372036854775808 ≤ a ∧ a ≤ 9223372036854775807
theorem iI_toInt {a : Int} (h : bI a) : (iI a).toInt = a := Int32.toInt_ofInt_of_le h.1 (by have := h.2; omega)
theorem lI_toInt {a : Int} (h : bL a) : (lI a).toInt = a := Int64.toInt_ofInt_of_le h.1 (by have := h.2; omega)
theorem iI_lt {a b : Int} (ha : bI a) (hb : bI b) : iI a < iI b ↔ a < b := by rw [Int32.lt_iff_toInt_lt, iI_toInt ha, iI_toInt hb]
theorem iI_le {a b : Int} (ha : bI a) (hb : bI b) : iI a ≤ iI b ↔ a ≤ b := by rw [Int32.le_iff_toInt_le, iI_toInt ha, iI_toInt hb]
theorem iI_eq {a b : Int} (ha : bI a) (hb : bI b) : iI a = iI b ↔ a = b := by rw [← Int32.toInt_inj, iI_toInt ha, iI_toInt hb]
theorem lI_lt {a b : Int} (ha : bL a) (hb : bL b) : lI a < lI b ↔ a < b := by rw [Int64.lt_iff_toInt_lt, lI_toInt ha, lI_toInt hb]
theorem lI_le {a b : Int} (ha : bL a) (hb : bL b) : lI a ≤ lI b ↔ a ≤ b := by rw [Int64.le_iff_toInt_le, lI_toInt ha, lI_toInt hb]
theorem lI_eq {a b : Int} (ha : bL a) (hb : bL b) : lI a = lI b ↔ a = b := by rw [← Int64.toInt_inj, lI_toInt ha, lI_toInt hb]
theorem iI_0 : iI 0 = 0 := by decide
theorem lI_0 : lI 0 = 0 := by decide
theorem bI_0 : bI 0 := ⟨by decide, by decide⟩
theorem bL_0 : bL 0 := ⟨by decide, by decide⟩
theorem iI_of (x : Int32) : x = iI x.toInt := by unfold iI; rw [Int32.ofInt_toInt]
theorem lI_of (x : Int64) : x = lI x.toInt := by unfold lI; rw [Int64.ofInt_toInt]
theorem bI_of (x : Int32) : bI x.toInt := ⟨Int32.le_toInt x, by have := Int32.toInt_lt x; omega⟩
theorem bL_of (x : Int64) : bL x.toInt := ⟨Int64.le_toInt x, by have := Int64.toInt_lt x; omega⟩
theorem iI_i2l {a : Int} (h : bI a) : (iI a).toInt64 = lI a := Int64.toInt_inj.mp (by rw [Int32.toInt_toInt64, iI_toInt h, lI_toInt ⟨by have := h.1; omega, by have := h.2; omega⟩])
theorem lI_l2i (a : Int) : (lI a).toInt32 = iI a := by unfold lI iI; rw [Int64.toInt32_ofInt]
theorem iI_nI (n : Nat) : nI n = iI n := by unfold nI iI; rw [Int32.ofInt_eq_ofNat]
theorem iI_clamp {k : Int} (h0 : 0 ≤ k) (h1 : k ≤ 2147483647) : (iI k).toNatClampNeg = k.toNat := by
  unfold Int32.toNatClampNeg
  rw [iI_toInt ⟨by omega, h1⟩]
theorem iI_in {k : Int} {n : Nat} (h0 : 0 ≤ k) (h1 : k < n) (hn : (n : Int) ≤ 2147483647) : vp_in (iI k) n := by
  rw [vp_in_iff, iI_toInt ⟨by omega, by omega⟩]
  exact ⟨h0, h1⟩

section SrRows
variable {p : Program} {l : Launch} {e : Env} {R : Room} {s : State} {m : MethodId} {args : Array Value} {below : List Frame} {meth : Method} {c : Code} {H : Heap} {locs : List Loc} {cells slots : Nat} {Q : State → Prop}
variable {cc : ByteArray} {pc : Nat} {ls : Array Slot} {rest : List Value}
theorem sr_iadd (hx : p.tables.exec = Jvm.exec) (hb : c.code = cc) {a b : Int} (hd : decode cc pc = .ok (.iadd, 1)) (k : W p l e R s m args below meth c H locs cells slots Q (F0 m (pc + 1) ls (.int (iI (a + b)) :: rest))) : W p l e R s m args below meth c H locs cells slots Q (F0 m pc ls (.int (iI b) :: .int (iI a) :: rest)) := lv_iadd hx hb hd (by rw [iI_add]; exact k)
theorem sr_isub (hx : p.tables.exec = Jvm.exec) (hb : c.code = cc) {a b : Int} (hd : decode cc pc = .ok (.isub, 1)) (k : W p l e R s m args below meth c H locs cells slots Q (F0 m (pc + 1) ls (.int (iI (a - b)) :: rest))) : W p l e R s m args below meth c H locs cells slots Q (F0 m pc ls (.int (iI b) :: .int (iI a) :: rest)) := lv_isub hx hb hd (by rw [iI_sub]; exact k)
theorem sr_imul (hx : p.tables.exec = Jvm.exec) (hb : c.code = cc) {a b : Int} (hd : decode cc pc = .ok (.imul, 1)) (k : W p l e R s m args below meth c H locs cells slots Q (F0 m (pc + 1) ls (.int (iI (a * b)) :: rest))) : W p l e R s m args below meth c H locs cells slots Q (F0 m pc ls (.int (iI b) :: .int (iI a) :: rest)) := lv_imul hx hb hd (by rw [iI_mul]; exact k)
theorem sr_ladd (hx : p.tables.exec = Jvm.exec) (hb : c.code = cc) {a b : Int} (hd : decode cc pc = .ok (.ladd, 1)) (k : W p l e R s m args below meth c H locs cells slots Q (F0 m (pc + 1) ls (.long (lI (a + b)) :: rest))) : W p l e R s m args below meth c H locs cells slots Q (F0 m pc ls (.long (lI b) :: .long (lI a) :: rest)) := lv_ladd hx hb hd (by rw [lI_add]; exact k)
theorem sr_lsub (hx : p.tables.exec = Jvm.exec) (hb : c.code = cc) {a b : Int} (hd : decode cc pc = .ok (.lsub, 1)) (k : W p l e R s m args below meth c H locs cells slots Q (F0 m (pc + 1) ls (.long (lI (a - b)) :: rest))) : W p l e R s m args below meth c H locs cells slots Q (F0 m pc ls (.long (lI b) :: .long (lI a) :: rest)) := lv_lsub hx hb hd (by rw [lI_sub]; exact k)
theorem sr_lmul (hx : p.tables.exec = Jvm.exec) (hb : c.code = cc) {a b : Int} (hd : decode cc pc = .ok (.lmul, 1)) (k : W p l e R s m args below meth c H locs cells slots Q (F0 m (pc + 1) ls (.long (lI (a * b)) :: rest))) : W p l e R s m args below meth c H locs cells slots Q (F0 m pc ls (.long (lI b) :: .long (lI a) :: rest)) := lv_lmul hx hb hd (by rw [lI_mul]; exact k)
theorem sr_ineg (hx : p.tables.exec = Jvm.exec) (hb : c.code = cc) {a : Int} (hd : decode cc pc = .ok (.ineg, 1)) (k : W p l e R s m args below meth c H locs cells slots Q (F0 m (pc + 1) ls (.int (iI (-a)) :: rest))) : W p l e R s m args below meth c H locs cells slots Q (F0 m pc ls (.int (iI a) :: rest)) := lv_ineg hx hb hd (by rw [iI_neg]; exact k)
theorem sr_lneg (hx : p.tables.exec = Jvm.exec) (hb : c.code = cc) {a : Int} (hd : decode cc pc = .ok (.lneg, 1)) (k : W p l e R s m args below meth c H locs cells slots Q (F0 m (pc + 1) ls (.long (lI (-a)) :: rest))) : W p l e R s m args below meth c H locs cells slots Q (F0 m pc ls (.long (lI a) :: rest)) := lv_lneg hx hb hd (by rw [lI_neg]; exact k)
theorem sr_i2l (hx : p.tables.exec = Jvm.exec) (hb : c.code = cc) {a : Int} (hd : decode cc pc = .ok (.i2l, 1)) (ha : bI a) (k : W p l e R s m args below meth c H locs cells slots Q (F0 m (pc + 1) ls (.long (lI a) :: rest))) : W p l e R s m args below meth c H locs cells slots Q (F0 m pc ls (.int (iI a) :: rest)) := lv_i2l hx hb hd (iI_i2l ha) k
theorem sr_l2i (hx : p.tables.exec = Jvm.exec) (hb : c.code = cc) {a : Int} (hd : decode cc pc = .ok (.l2i, 1)) (k : W p l e R s m args below meth c H locs cells slots Q (F0 m (pc + 1) ls (.int (iI a) :: rest))) : W p l e R s m args below meth c H locs cells slots Q (F0 m pc ls (.long (lI a) :: rest)) := lv_l2i hx hb hd (lI_l2i a) k
theorem sr_iconst (hx : p.tables.exec = Jvm.exec) (hb : c.code = cc) {n : Int} (hd : decode cc pc = .ok (.iconst n, 1)) (k : W p l e R s m args below meth c H locs cells slots Q (F0 m (pc + 1) ls (.int (iI n) :: rest))) : W p l e R s m args below meth c H locs cells slots Q (F0 m pc ls rest) := lv_iconst hx hb hd rfl k
theorem sr_bipush (hx : p.tables.exec = Jvm.exec) (hb : c.code = cc) {n : Int} (hd : decode cc pc = .ok (.bipush n, 2)) (hn : (Int8.ofInt n).toInt32 = iI n) (k : W p l e R s m args below meth c H locs cells slots Q (F0 m (pc + 2) ls (.int (iI n) :: rest))) : W p l e R s m args below meth c H locs cells slots Q (F0 m pc ls rest) := lv_bipush hx hb hd hn k
theorem sr_sipush (hx : p.tables.exec = Jvm.exec) (hb : c.code = cc) {n : Int} (hd : decode cc pc = .ok (.sipush n, 3)) (hn : (Int16.ofInt n).toInt32 = iI n) (k : W p l e R s m args below meth c H locs cells slots Q (F0 m (pc + 3) ls (.int (iI n) :: rest))) : W p l e R s m args below meth c H locs cells slots Q (F0 m pc ls rest) := lv_sipush hx hb hd hn k
theorem sr_lconst0 (hx : p.tables.exec = Jvm.exec) (hb : c.code = cc) (hd : decode cc pc = .ok (.lconst 0, 1)) (k : W p l e R s m args below meth c H locs cells slots Q (F0 m (pc + 1) ls (.long (lI 0) :: rest))) : W p l e R s m args below meth c H locs cells slots Q (F0 m pc ls rest) := lv_lconst hx hb hd (by decide) k
theorem sr_lconst1 (hx : p.tables.exec = Jvm.exec) (hb : c.code = cc) (hd : decode cc pc = .ok (.lconst 1, 1)) (k : W p l e R s m args below meth c H locs cells slots Q (F0 m (pc + 1) ls (.long (lI 1) :: rest))) : W p l e R s m args below meth c H locs cells slots Q (F0 m pc ls rest) := lv_lconst hx hb hd (by decide) k
theorem sr_icmp_eq (hx : p.tables.exec = Jvm.exec) (hb : c.code = cc) {a b : Int} {off : Int} {tgt : Nat} (hd : decode cc pc = .ok (.if_icmp .eq off, 3)) (ht : (pc : Int) + off = (tgt : Int)) (ha : bI a) (hb2 : bI b) (kt : a = b → W p l e R s m args below meth c H locs cells slots Q (F0 m tgt ls rest)) (kf : ¬ a = b → W p l e R s m args below meth c H locs cells slots Q (F0 m (pc + 3) ls rest)) : W p l e R s m args below meth c H locs cells slots Q (F0 m pc ls (.int (iI b) :: .int (iI a) :: rest)) := lv_icmp_eq hx hb hd ht (fun h => kt ((iI_eq ha hb2).mp h)) (fun h => kf (fun q => h ((iI_eq ha hb2).mpr q)))
theorem sr_if_eq (hx : p.tables.exec = Jvm.exec) (hb : c.code = cc) {a : Int} {off : Int} {tgt : Nat} (hd : decode cc pc = .ok (.ifCond .eq off, 3)) (ht : (pc : Int) + off = (tgt : Int)) (ha : bI a) (kt : a = 0 → W p l e R s m args below meth c H locs cells slots Q (F0 m tgt ls rest)) (kf : ¬ a = 0 → W p l e R s m args below meth c H locs cells slots Q (F0 m (pc + 3) ls rest)) : W p l e R s m args below meth c H locs cells slots Q (F0 m pc ls (.int (iI a) :: rest)) := lv_if_eq hx hb hd ht (fun h => kt ((iI_eq ha bI_0).mp (by rw [iI_0]; exact h))) (fun h => kf (fun q => h (by rw [← iI_0]; exact (iI_eq ha bI_0).mpr q)))
theorem sr_lcmp_eq (hx : p.tables.exec = Jvm.exec) (hb : c.code = cc) {a b : Int} {off : Int} {tgt : Nat} (hd0 : decode cc pc = .ok (.lcmp, 1)) (hd : decode cc (pc + 1) = .ok (.ifCond .eq off, 3)) (ht : ((pc + 1 : Nat) : Int) + off = (tgt : Int)) (ha : bL a) (hb2 : bL b) (kt : a = b → W p l e R s m args below meth c H locs cells slots Q (F0 m tgt ls rest)) (kf : ¬ a = b → W p l e R s m args below meth c H locs cells slots Q (F0 m (pc + 1 + 3) ls rest)) : W p l e R s m args below meth c H locs cells slots Q (F0 m pc ls (.long (lI b) :: .long (lI a) :: rest)) := W.lcmp hx hb hd0 (lv_if_eq hx hb hd ht (fun h => kt ((lI_eq ha hb2).mp ((lg_cmp_eq _ _).mp h))) (fun h => kf (fun q => h ((lg_cmp_eq _ _).mpr ((lI_eq ha hb2).mpr q)))))
theorem sr_lcmpr_eq (hx : p.tables.exec = Jvm.exec) (hb : c.code = cc) {a b : Int64} {off : Int} {tgt : Nat} (hd0 : decode cc pc = .ok (.lcmp, 1)) (hd : decode cc (pc + 1) = .ok (.ifCond .eq off, 3)) (ht : ((pc + 1 : Nat) : Int) + off = (tgt : Int)) (kt : a = b → W p l e R s m args below meth c H locs cells slots Q (F0 m tgt ls rest)) (kf : ¬ a = b → W p l e R s m args below meth c H locs cells slots Q (F0 m (pc + 1 + 3) ls rest)) : W p l e R s m args below meth c H locs cells slots Q (F0 m pc ls (.long b :: .long a :: rest)) := W.lcmp hx hb hd0 (lv_if_eq hx hb hd ht (fun h => kt ((lg_cmp_eq _ _).mp h)) (fun h => kf (fun q => h ((lg_cmp_eq _ _).mpr q))))
theorem sr_icmp_ne (hx : p.tables.exec = Jvm.exec) (hb : c.code = cc) {a b : Int} {off : Int} {tgt : Nat} (hd : decode cc pc = .ok (.if_icmp .ne off, 3)) (ht : (pc : Int) + off = (tgt : Int)) (ha : bI a) (hb2 : bI b) (kt : ¬ a = b → W p l e R s m args below meth c H locs cells slots Q (F0 m tgt ls rest)) (kf : a = b → W p l e R s m args below meth c H locs cells slots Q (F0 m (pc + 3) ls rest)) : W p l e R s m args below meth c H locs cells slots Q (F0 m pc ls (.int (iI b) :: .int (iI a) :: rest)) := lv_icmp_ne hx hb hd ht (fun h => kt (fun q => h ((iI_eq ha hb2).mpr q))) (fun h => kf ((iI_eq ha hb2).mp h))
theorem sr_if_ne (hx : p.tables.exec = Jvm.exec) (hb : c.code = cc) {a : Int} {off : Int} {tgt : Nat} (hd : decode cc pc = .ok (.ifCond .ne off, 3)) (ht : (pc : Int) + off = (tgt : Int)) (ha : bI a) (kt : ¬ a = 0 → W p l e R s m args below meth c H locs cells slots Q (F0 m tgt ls rest)) (kf : a = 0 → W p l e R s m args below meth c H locs cells slots Q (F0 m (pc + 3) ls rest)) : W p l e R s m args below meth c H locs cells slots Q (F0 m pc ls (.int (iI a) :: rest)) := lv_if_ne hx hb hd ht (fun h => kt (fun q => h (by rw [← iI_0]; exact (iI_eq ha bI_0).mpr q))) (fun h => kf ((iI_eq ha bI_0).mp (by rw [iI_0]; exact h)))
theorem sr_lcmp_ne (hx : p.tables.exec = Jvm.exec) (hb : c.code = cc) {a b : Int} {off : Int} {tgt : Nat} (hd0 : decode cc pc = .ok (.lcmp, 1)) (hd : decode cc (pc + 1) = .ok (.ifCond .ne off, 3)) (ht : ((pc + 1 : Nat) : Int) + off = (tgt : Int)) (ha : bL a) (hb2 : bL b) (kt : ¬ a = b → W p l e R s m args below meth c H locs cells slots Q (F0 m tgt ls rest)) (kf : a = b → W p l e R s m args below meth c H locs cells slots Q (F0 m (pc + 1 + 3) ls rest)) : W p l e R s m args below meth c H locs cells slots Q (F0 m pc ls (.long (lI b) :: .long (lI a) :: rest)) := W.lcmp hx hb hd0 (lv_if_ne hx hb hd ht (fun h => kt (fun q => h ((lg_cmp_eq _ _).mpr ((lI_eq ha hb2).mpr q)))) (fun h => kf ((lI_eq ha hb2).mp ((lg_cmp_eq _ _).mp h))))
theorem sr_lcmpr_ne (hx : p.tables.exec = Jvm.exec) (hb : c.code = cc) {a b : Int64} {off : Int} {tgt : Nat} (hd0 : decode cc pc = .ok (.lcmp, 1)) (hd : decode cc (pc + 1) = .ok (.ifCond .ne off, 3)) (ht : ((pc + 1 : Nat) : Int) + off = (tgt : Int)) (kt : ¬ a = b → W p l e R s m args below meth c H locs cells slots Q (F0 m tgt ls rest)) (kf : a = b → W p l e R s m args below meth c H locs cells slots Q (F0 m (pc + 1 + 3) ls rest)) : W p l e R s m args below meth c H locs cells slots Q (F0 m pc ls (.long b :: .long a :: rest)) := W.lcmp hx hb hd0 (lv_if_ne hx hb hd ht (fun h => kt (fun q => h ((lg_cmp_eq _ _).mpr q))) (fun h => kf ((lg_cmp_eq _ _).mp h)))
theorem sr_icmp_lt (hx : p.tables.exec = Jvm.exec) (hb : c.code = cc) {a b : Int} {off : Int} {tgt : Nat} (hd : decode cc pc = .ok (.if_icmp .lt off, 3)) (ht : (pc : Int) + off = (tgt : Int)) (ha : bI a) (hb2 : bI b) (kt : a < b → W p l e R s m args below meth c H locs cells slots Q (F0 m tgt ls rest)) (kf : ¬ a < b → W p l e R s m args below meth c H locs cells slots Q (F0 m (pc + 3) ls rest)) : W p l e R s m args below meth c H locs cells slots Q (F0 m pc ls (.int (iI b) :: .int (iI a) :: rest)) := lv_icmp_lt hx hb hd ht (fun h => kt ((iI_lt ha hb2).mp h)) (fun h => kf (fun q => h ((iI_lt ha hb2).mpr q)))
theorem sr_if_lt (hx : p.tables.exec = Jvm.exec) (hb : c.code = cc) {a : Int} {off : Int} {tgt : Nat} (hd : decode cc pc = .ok (.ifCond .lt off, 3)) (ht : (pc : Int) + off = (tgt : Int)) (ha : bI a) (kt : a < 0 → W p l e R s m args below meth c H locs cells slots Q (F0 m tgt ls rest)) (kf : ¬ a < 0 → W p l e R s m args below meth c H locs cells slots Q (F0 m (pc + 3) ls rest)) : W p l e R s m args below meth c H locs cells slots Q (F0 m pc ls (.int (iI a) :: rest)) := lv_if_lt hx hb hd ht (fun h => kt ((iI_lt ha bI_0).mp (by rw [iI_0]; exact h))) (fun h => kf (fun q => h (by rw [← iI_0]; exact (iI_lt ha bI_0).mpr q)))
theorem sr_lcmp_lt (hx : p.tables.exec = Jvm.exec) (hb : c.code = cc) {a b : Int} {off : Int} {tgt : Nat} (hd0 : decode cc pc = .ok (.lcmp, 1)) (hd : decode cc (pc + 1) = .ok (.ifCond .lt off, 3)) (ht : ((pc + 1 : Nat) : Int) + off = (tgt : Int)) (ha : bL a) (hb2 : bL b) (kt : a < b → W p l e R s m args below meth c H locs cells slots Q (F0 m tgt ls rest)) (kf : ¬ a < b → W p l e R s m args below meth c H locs cells slots Q (F0 m (pc + 1 + 3) ls rest)) : W p l e R s m args below meth c H locs cells slots Q (F0 m pc ls (.long (lI b) :: .long (lI a) :: rest)) := W.lcmp hx hb hd0 (lv_if_lt hx hb hd ht (fun h => kt ((lI_lt ha hb2).mp ((lg_cmp_lt _ _).mp h))) (fun h => kf (fun q => h ((lg_cmp_lt _ _).mpr ((lI_lt ha hb2).mpr q)))))
theorem sr_lcmpr_lt (hx : p.tables.exec = Jvm.exec) (hb : c.code = cc) {a b : Int64} {off : Int} {tgt : Nat} (hd0 : decode cc pc = .ok (.lcmp, 1)) (hd : decode cc (pc + 1) = .ok (.ifCond .lt off, 3)) (ht : ((pc + 1 : Nat) : Int) + off = (tgt : Int)) (kt : a < b → W p l e R s m args below meth c H locs cells slots Q (F0 m tgt ls rest)) (kf : ¬ a < b → W p l e R s m args below meth c H locs cells slots Q (F0 m (pc + 1 + 3) ls rest)) : W p l e R s m args below meth c H locs cells slots Q (F0 m pc ls (.long b :: .long a :: rest)) := W.lcmp hx hb hd0 (lv_if_lt hx hb hd ht (fun h => kt ((lg_cmp_lt _ _).mp h)) (fun h => kf (fun q => h ((lg_cmp_lt _ _).mpr q))))
theorem sr_icmp_ge (hx : p.tables.exec = Jvm.exec) (hb : c.code = cc) {a b : Int} {off : Int} {tgt : Nat} (hd : decode cc pc = .ok (.if_icmp .ge off, 3)) (ht : (pc : Int) + off = (tgt : Int)) (ha : bI a) (hb2 : bI b) (kt : b ≤ a → W p l e R s m args below meth c H locs cells slots Q (F0 m tgt ls rest)) (kf : ¬ b ≤ a → W p l e R s m args below meth c H locs cells slots Q (F0 m (pc + 3) ls rest)) : W p l e R s m args below meth c H locs cells slots Q (F0 m pc ls (.int (iI b) :: .int (iI a) :: rest)) := lv_icmp_ge hx hb hd ht (fun h => kt ((iI_le hb2 ha).mp h)) (fun h => kf (fun q => h ((iI_le hb2 ha).mpr q)))
theorem sr_if_ge (hx : p.tables.exec = Jvm.exec) (hb : c.code = cc) {a : Int} {off : Int} {tgt : Nat} (hd : decode cc pc = .ok (.ifCond .ge off, 3)) (ht : (pc : Int) + off = (tgt : Int)) (ha : bI a) (kt : 0 ≤ a → W p l e R s m args below meth c H locs cells slots Q (F0 m tgt ls rest)) (kf : ¬ 0 ≤ a → W p l e R s m args below meth c H locs cells slots Q (F0 m (pc + 3) ls rest)) : W p l e R s m args below meth c H locs cells slots Q (F0 m pc ls (.int (iI a) :: rest)) := lv_if_ge hx hb hd ht (fun h => kt ((iI_le bI_0 ha).mp (by rw [iI_0]; exact h))) (fun h => kf (fun q => h (by rw [← iI_0]; exact (iI_le bI_0 ha).mpr q)))
theorem sr_lcmp_ge (hx : p.tables.exec = Jvm.exec) (hb : c.code = cc) {a b : Int} {off : Int} {tgt : Nat} (hd0 : decode cc pc = .ok (.lcmp, 1)) (hd : decode cc (pc + 1) = .ok (.ifCond .ge off, 3)) (ht : ((pc + 1 : Nat) : Int) + off = (tgt : Int)) (ha : bL a) (hb2 : bL b) (kt : b ≤ a → W p l e R s m args below meth c H locs cells slots Q (F0 m tgt ls rest)) (kf : ¬ b ≤ a → W p l e R s m args below meth c H locs cells slots Q (F0 m (pc + 1 + 3) ls rest)) : W p l e R s m args below meth c H locs cells slots Q (F0 m pc ls (.long (lI b) :: .long (lI a) :: rest)) := W.lcmp hx hb hd0 (lv_if_ge hx hb hd ht (fun h => kt ((lI_le hb2 ha).mp ((lg_cmp_ge _ _).mp h))) (fun h => kf (fun q => h ((lg_cmp_ge _ _).mpr ((lI_le hb2 ha).mpr q)))))
theorem sr_lcmpr_ge (hx : p.tables.exec = Jvm.exec) (hb : c.code = cc) {a b : Int64} {off : Int} {tgt : Nat} (hd0 : decode cc pc = .ok (.lcmp, 1)) (hd : decode cc (pc + 1) = .ok (.ifCond .ge off, 3)) (ht : ((pc + 1 : Nat) : Int) + off = (tgt : Int)) (kt : b ≤ a → W p l e R s m args below meth c H locs cells slots Q (F0 m tgt ls rest)) (kf : ¬ b ≤ a → W p l e R s m args below meth c H locs cells slots Q (F0 m (pc + 1 + 3) ls rest)) : W p l e R s m args below meth c H locs cells slots Q (F0 m pc ls (.long b :: .long a :: rest)) := W.lcmp hx hb hd0 (lv_if_ge hx hb hd ht (fun h => kt ((lg_cmp_ge _ _).mp h)) (fun h => kf (fun q => h ((lg_cmp_ge _ _).mpr q))))
theorem sr_icmp_gt (hx : p.tables.exec = Jvm.exec) (hb : c.code = cc) {a b : Int} {off : Int} {tgt : Nat} (hd : decode cc pc = .ok (.if_icmp .gt off, 3)) (ht : (pc : Int) + off = (tgt : Int)) (ha : bI a) (hb2 : bI b) (kt : b < a → W p l e R s m args below meth c H locs cells slots Q (F0 m tgt ls rest)) (kf : ¬ b < a → W p l e R s m args below meth c H locs cells slots Q (F0 m (pc + 3) ls rest)) : W p l e R s m args below meth c H locs cells slots Q (F0 m pc ls (.int (iI b) :: .int (iI a) :: rest)) := lv_icmp_gt hx hb hd ht (fun h => kt ((iI_lt hb2 ha).mp h)) (fun h => kf (fun q => h ((iI_lt hb2 ha).mpr q)))
theorem sr_if_gt (hx : p.tables.exec = Jvm.exec) (hb : c.code = cc) {a : Int} {off : Int} {tgt : Nat} (hd : decode cc pc = .ok (.ifCond .gt off, 3)) (ht : (pc : Int) + off = (tgt : Int)) (ha : bI a) (kt : 0 < a → W p l e R s m args below meth c H locs cells slots Q (F0 m tgt ls rest)) (kf : ¬ 0 < a → W p l e R s m args below meth c H locs cells slots Q (F0 m (pc + 3) ls rest)) : W p l e R s m args below meth c H locs cells slots Q (F0 m pc ls (.int (iI a) :: rest)) := lv_if_gt hx hb hd ht (fun h => kt ((iI_lt bI_0 ha).mp (by rw [iI_0]; exact h))) (fun h => kf (fun q => h (by rw [← iI_0]; exact (iI_lt bI_0 ha).mpr q)))
theorem sr_lcmp_gt (hx : p.tables.exec = Jvm.exec) (hb : c.code = cc) {a b : Int} {off : Int} {tgt : Nat} (hd0 : decode cc pc = .ok (.lcmp, 1)) (hd : decode cc (pc + 1) = .ok (.ifCond .gt off, 3)) (ht : ((pc + 1 : Nat) : Int) + off = (tgt : Int)) (ha : bL a) (hb2 : bL b) (kt : b < a → W p l e R s m args below meth c H locs cells slots Q (F0 m tgt ls rest)) (kf : ¬ b < a → W p l e R s m args below meth c H locs cells slots Q (F0 m (pc + 1 + 3) ls rest)) : W p l e R s m args below meth c H locs cells slots Q (F0 m pc ls (.long (lI b) :: .long (lI a) :: rest)) := W.lcmp hx hb hd0 (lv_if_gt hx hb hd ht (fun h => kt ((lI_lt hb2 ha).mp ((lg_cmp_gt _ _).mp h))) (fun h => kf (fun q => h ((lg_cmp_gt _ _).mpr ((lI_lt hb2 ha).mpr q)))))
theorem sr_lcmpr_gt (hx : p.tables.exec = Jvm.exec) (hb : c.code = cc) {a b : Int64} {off : Int} {tgt : Nat} (hd0 : decode cc pc = .ok (.lcmp, 1)) (hd : decode cc (pc + 1) = .ok (.ifCond .gt off, 3)) (ht : ((pc + 1 : Nat) : Int) + off = (tgt : Int)) (kt : b < a → W p l e R s m args below meth c H locs cells slots Q (F0 m tgt ls rest)) (kf : ¬ b < a → W p l e R s m args below meth c H locs cells slots Q (F0 m (pc + 1 + 3) ls rest)) : W p l e R s m args below meth c H locs cells slots Q (F0 m pc ls (.long b :: .long a :: rest)) := W.lcmp hx hb hd0 (lv_if_gt hx hb hd ht (fun h => kt ((lg_cmp_gt _ _).mp h)) (fun h => kf (fun q => h ((lg_cmp_gt _ _).mpr q))))
theorem sr_icmp_le (hx : p.tables.exec = Jvm.exec) (hb : c.code = cc) {a b : Int} {off : Int} {tgt : Nat} (hd : decode cc pc = .ok (.if_icmp .le off, 3)) (ht : (pc : Int) + off = (tgt : Int)) (ha : bI a) (hb2 : bI b) (kt : a ≤ b → W p l e R s m args below meth c H locs cells slots Q (F0 m tgt ls rest)) (kf : ¬ a ≤ b → W p l e R s m args below meth c H locs cells slots Q (F0 m (pc + 3) ls rest)) : W p l e R s m args below meth c H locs cells slots Q (F0 m pc ls (.int (iI b) :: .int (iI a) :: rest)) := lv_icmp_le hx hb hd ht (fun h => kt ((iI_le ha hb2).mp h)) (fun h => kf (fun q => h ((iI_le ha hb2).mpr q)))
theorem sr_if_le (hx : p.tables.exec = Jvm.exec) (hb : c.code = cc) {a : Int} {off : Int} {tgt : Nat} (hd : decode cc pc = .ok (.ifCond .le off, 3)) (ht : (pc : Int) + off = (tgt : Int)) (ha : bI a) (kt : a ≤ 0 → W p l e R s m args below meth c H locs cells slots Q (F0 m tgt ls rest)) (kf : ¬ a ≤ 0 → W p l e R s m args below meth c H locs cells slots Q (F0 m (pc + 3) ls rest)) : W p l e R s m args below meth c H locs cells slots Q (F0 m pc ls (.int (iI a) :: rest)) := lv_if_le hx hb hd ht (fun h => kt ((iI_le ha bI_0).mp (by rw [iI_0]; exact h))) (fun h => kf (fun q => h (by rw [← iI_0]; exact (iI_le ha bI_0).mpr q)))
theorem sr_lcmp_le (hx : p.tables.exec = Jvm.exec) (hb : c.code = cc) {a b : Int} {off : Int} {tgt : Nat} (hd0 : decode cc pc = .ok (.lcmp, 1)) (hd : decode cc (pc + 1) = .ok (.ifCond .le off, 3)) (ht : ((pc + 1 : Nat) : Int) + off = (tgt : Int)) (ha : bL a) (hb2 : bL b) (kt : a ≤ b → W p l e R s m args below meth c H locs cells slots Q (F0 m tgt ls rest)) (kf : ¬ a ≤ b → W p l e R s m args below meth c H locs cells slots Q (F0 m (pc + 1 + 3) ls rest)) : W p l e R s m args below meth c H locs cells slots Q (F0 m pc ls (.long (lI b) :: .long (lI a) :: rest)) := W.lcmp hx hb hd0 (lv_if_le hx hb hd ht (fun h => kt ((lI_le ha hb2).mp ((lg_cmp_le _ _).mp h))) (fun h => kf (fun q => h ((lg_cmp_le _ _).mpr ((lI_le ha hb2).mpr q)))))
theorem sr_lcmpr_le (hx : p.tables.exec = Jvm.exec) (hb : c.code = cc) {a b : Int64} {off : Int} {tgt : Nat} (hd0 : decode cc pc = .ok (.lcmp, 1)) (hd : decode cc (pc + 1) = .ok (.ifCond .le off, 3)) (ht : ((pc + 1 : Nat) : Int) + off = (tgt : Int)) (kt : a ≤ b → W p l e R s m args below meth c H locs cells slots Q (F0 m tgt ls rest)) (kf : ¬ a ≤ b → W p l e R s m args below meth c H locs cells slots Q (F0 m (pc + 1 + 3) ls rest)) : W p l e R s m args below meth c H locs cells slots Q (F0 m pc ls (.long b :: .long a :: rest)) := W.lcmp hx hb hd0 (lv_if_le hx hb hd ht (fun h => kt ((lg_cmp_le _ _).mp h)) (fun h => kf (fun q => h ((lg_cmp_le _ _).mpr q))))
theorem sr_topI {z : Int} (k : ∀ y : Int, y = z → W p l e R s m args below meth c H locs cells slots Q (F0 m pc ls (.int (iI y) :: rest))) : W p l e R s m args below meth c H locs cells slots Q (F0 m pc ls (.int (iI z) :: rest)) := k z rfl
theorem sr_topL {z : Int} (k : ∀ y : Int, y = z → W p l e R s m args below meth c H locs cells slots Q (F0 m pc ls (.long (lI y) :: rest))) : W p l e R s m args below meth c H locs cells slots Q (F0 m pc ls (.long (lI z) :: rest)) := k z rfl
theorem sr_eqI {x : Int32} {z : Int} (h : x = iI z) (k : W p l e R s m args below meth c H locs cells slots Q (F0 m pc ls (.int (iI z) :: rest))) : W p l e R s m args below meth c H locs cells slots Q (F0 m pc ls (.int x :: rest)) := by rw [h]; exact k
theorem sr_eqL {x : Int64} {z : Int} (h : x = lI z) (k : W p l e R s m args below meth c H locs cells slots Q (F0 m pc ls (.long (lI z) :: rest))) : W p l e R s m args below meth c H locs cells slots Q (F0 m pc ls (.long x :: rest)) := by rw [h]; exact k
variable {D : va_G} {cl : List vw_C} {A : Nat → Prop} {a : Nat} {tys : List (ClassId × FieldType)} {ws : va_W} {H0 : Heap}
theorem sr_iald (hx : p.tables.exec = Jvm.exec) (hb : c.code = cc) (hK : va_K D cl tys s) (hP : va_P D cl ws H) (q0 t0 : Nat) {cA : ClassId} {n : Nat} {f : Nat → Int32} (ha : ws[q0]? = some (a, .inl (cA, n, .inl f))) (ht : tys[t0]? = some (cA, .int)) {k : Int} (h0 : 0 ≤ k) (h1 : k < n) (hn : (n : Int) ≤ 2147483647) (hd : decode cc pc = .ok (.iaload, 1)) (kk : W p l e R s m args below meth c H locs cells slots Q (F0 m (pc + 1) ls (.int (f k.toNat) :: rest))) : W p l e R s m args below meth c H locs cells slots Q (F0 m pc ls (.int (iI k) :: .ref a :: rest)) := va_iald hx hb hK hP q0 t0 ha ht (iI_in h0 h1 hn) hd (by rw [iI_clamp h0 (by omega)]; exact kk)
theorem sr_zald (hx : p.tables.exec = Jvm.exec) (hb : c.code = cc) (hK : va_K D cl tys s) (hP : va_P D cl ws H) (q0 t0 : Nat) {cA : ClassId} {n : Nat} {f : Nat → Int32} (ha : ws[q0]? = some (a, .inl (cA, n, .inl f))) (ht : tys[t0]? = some (cA, .boolean)) {k : Int} (h0 : 0 ≤ k) (h1 : k < n) (hn : (n : Int) ≤ 2147483647) (hd : decode cc pc = .ok (.baload, 1)) (kk : W p l e R s m args below meth c H locs cells slots Q (F0 m (pc + 1) ls (.int (f k.toNat) :: rest))) : W p l e R s m args below meth c H locs cells slots Q (F0 m pc ls (.int (iI k) :: .ref a :: rest)) := va_zald hx hb hK hP q0 t0 ha ht (iI_in h0 h1 hn) hd (by rw [iI_clamp h0 (by omega)]; exact kk)
theorem sr_lald (hx : p.tables.exec = Jvm.exec) (hb : c.code = cc) (hK : va_K D cl tys s) (hP : va_P D cl ws H) (q0 t0 : Nat) {cA : ClassId} {n : Nat} {f : Nat → Int64} (ha : ws[q0]? = some (a, .inl (cA, n, .inr (.inl f)))) (ht : tys[t0]? = some (cA, .long)) {k : Int} (h0 : 0 ≤ k) (h1 : k < n) (hn : (n : Int) ≤ 2147483647) (hd : decode cc pc = .ok (.laload, 1)) (kk : W p l e R s m args below meth c H locs cells slots Q (F0 m (pc + 1) ls (.long (f k.toNat) :: rest))) : W p l e R s m args below meth c H locs cells slots Q (F0 m pc ls (.int (iI k) :: .ref a :: rest)) := va_lald hx hb hK hP q0 t0 ha ht (iI_in h0 h1 hn) hd (by rw [iI_clamp h0 (by omega)]; exact kk)
theorem sr_iast (hx : p.tables.exec = Jvm.exec) (hb : c.code = cc) (hK : va_K D cl tys s) (hP : va_P D cl ws H) (hD : va_D A ws) (hS : va_S A H0 H locs) (q0 t0 : Nat) {cA : ClassId} {n : Nat} {f : Nat → Int32} (ha : ws[q0]? = some (a, .inl (cA, n, .inl (f)))) (ht : tys[t0]? = some (cA, .int)) {k : Int} {x : Int32} (h0 : 0 ≤ k) (h1 : k < n) (hn : (n : Int) ≤ 2147483647) (hd : decode cc pc = .ok (.iastore, 1)) (kk : ∀ (H1 : Heap) (locs1 : List Loc), va_P D cl (ws.set q0 (a, .inl (cA, n, .inl (upd f k.toNat x)))) H1 → va_D A (ws.set q0 (a, .inl (cA, n, .inl (upd f k.toNat x)))) → va_S A H0 H1 locs1 → W p l e R s m args below meth c H1 locs1 cells slots Q (F0 m (pc + 1) ls rest)) : W p l e R s m args below meth c H locs cells slots Q (F0 m pc ls (.int x :: .int (iI k) :: .ref a :: rest)) := va_iast hx hb hK hP hD hS q0 t0 ha ht (iI_in h0 h1 hn) hd (by rw [iI_clamp h0 (by omega)]; exact kk)
theorem sr_zast (hx : p.tables.exec = Jvm.exec) (hb : c.code = cc) (hK : va_K D cl tys s) (hP : va_P D cl ws H) (hD : va_D A ws) (hS : va_S A H0 H locs) (q0 t0 : Nat) {cA : ClassId} {n : Nat} {f : Nat → Int32} (ha : ws[q0]? = some (a, .inl (cA, n, .inl (f)))) (ht : tys[t0]? = some (cA, .boolean)) {k : Int} {x : Int32} (h0 : 0 ≤ k) (h1 : k < n) (hn : (n : Int) ≤ 2147483647) (hd : decode cc pc = .ok (.bastore, 1)) (kk : ∀ (H1 : Heap) (locs1 : List Loc), va_P D cl (ws.set q0 (a, .inl (cA, n, .inl (upd f k.toNat (vp_nar .boolean x))))) H1 → va_D A (ws.set q0 (a, .inl (cA, n, .inl (upd f k.toNat (vp_nar .boolean x))))) → va_S A H0 H1 locs1 → W p l e R s m args below meth c H1 locs1 cells slots Q (F0 m (pc + 1) ls rest)) : W p l e R s m args below meth c H locs cells slots Q (F0 m pc ls (.int x :: .int (iI k) :: .ref a :: rest)) := va_zast hx hb hK hP hD hS q0 t0 ha ht (iI_in h0 h1 hn) hd (by rw [iI_clamp h0 (by omega)]; exact kk)
theorem sr_last (hx : p.tables.exec = Jvm.exec) (hb : c.code = cc) (hK : va_K D cl tys s) (hP : va_P D cl ws H) (hD : va_D A ws) (hS : va_S A H0 H locs) (q0 t0 : Nat) {cA : ClassId} {n : Nat} {f : Nat → Int64} (ha : ws[q0]? = some (a, .inl (cA, n, .inr (.inl (f))))) (ht : tys[t0]? = some (cA, .long)) {k : Int} {x : Int64} (h0 : 0 ≤ k) (h1 : k < n) (hn : (n : Int) ≤ 2147483647) (hd : decode cc pc = .ok (.lastore, 1)) (kk : ∀ (H1 : Heap) (locs1 : List Loc), va_P D cl (ws.set q0 (a, .inl (cA, n, .inr (.inl (vp_updL f k.toNat x))))) H1 → va_D A (ws.set q0 (a, .inl (cA, n, .inr (.inl (vp_updL f k.toNat x))))) → va_S A H0 H1 locs1 → W p l e R s m args below meth c H1 locs1 cells slots Q (F0 m (pc + 1) ls rest)) : W p l e R s m args below meth c H locs cells slots Q (F0 m pc ls (.long x :: .int (iI k) :: .ref a :: rest)) := va_last hx hb hK hP hD hS q0 t0 ha ht (iI_in h0 h1 hn) hd (by rw [iI_clamp h0 (by omega)]; exact kk)
theorem sr_alen (hx : p.tables.exec = Jvm.exec) (hb : c.code = cc) (hK : va_K D cl tys s) (hP : va_P D cl ws H) (q0 t0 : Nat) {cA : ClassId} {x : vp_A} (ha : ws[q0]? = some (a, .inl (cA, x))) {ty : FieldType} (ht : tys[t0]? = some (cA, ty)) (hd : decode cc pc = .ok (.arraylength, 1)) (kk : W p l e R s m args below meth c H locs cells slots Q (F0 m (pc + 1) ls (.int (iI x.1) :: rest))) : W p l e R s m args below meth c H locs cells slots Q (F0 m pc ls (.ref a :: rest)) := va_alen hx hb hK hP q0 t0 ha ht (iI_nI x.1) hd kk
/-- a row of ints, of longs, by whole numbers -/
def zI (f : Int → Int) : Nat → Int32 := fun j => iI (f (j : Int))
def zL (f : Int → Int) : Nat → Int64 := fun j => lI (f (j : Int))
def zup (f : Int → Int) (k v : Int) : Int → Int := fun j => if j = k then v else f j
theorem zup_s (f : Int → Int) (k v : Int) : zup f k v k = v := if_pos rfl
theorem zup_n {f : Int → Int} {k v j : Int} (h : j ≠ k) : zup f k v j = f j := if_neg h
theorem zI_upd {f : Int → Int} {k v : Int} (h : 0 ≤ k) : upd (zI f) k.toNat (iI v) = zI (zup f k v) := by
  funext j
  show (if j = k.toNat then iI v else iI (f j)) = iI (if (j : Int) = k then v else f j)
  by_cases hj : j = k.toNat
  · have h2 : (j : Int) = k := by omega
    rw [if_pos hj, if_pos h2]
  · have h2 : ¬ (j : Int) = k := by omega
    rw [if_neg hj, if_neg h2]
theorem zL_upd {f : Int → Int} {k v : Int} (h : 0 ≤ k) : vp_updL (zL f) k.toNat (lI v) = zL (zup f k v) := by
  funext j
  show (if j = k.toNat then lI v else lI (f j)) = lI (if (j : Int) = k then v else f j)
  by_cases hj : j = k.toNat
  · have h2 : (j : Int) = k := by omega
    rw [if_pos hj, if_pos h2]
  · have h2 : ¬ (j : Int) = k := by omega
    rw [if_neg hj, if_neg h2]
theorem zI_at {f : Int → Int} {k : Int} (h : 0 ≤ k) : zI f k.toNat = iI (f k) := by unfold zI; rw [Int.toNat_of_nonneg h]
theorem zL_at {f : Int → Int} {k : Int} (h : 0 ≤ k) : zL f k.toNat = lI (f k) := by unfold zL; rw [Int.toNat_of_nonneg h]
theorem sr_bt {z : Int} {P : Prop} (h : z = 1 ∧ P ∨ z = 0 ∧ ¬ P) (h0 : ¬ z = 0) : P := by
  rcases h with h | h
  · exact h.2
  · exact absurd h.1 h0
theorem sr_bf {z : Int} {P : Prop} (h : z = 1 ∧ P ∨ z = 0 ∧ ¬ P) (h0 : z = 0) : ¬ P := by
  rcases h with h | h
  · exact absurd (h.1.symm.trans h0) (by decide)
  · exact h.2
theorem sr_bB {z : Int} {P : Prop} (h : z = 1 ∧ P ∨ z = 0 ∧ ¬ P) : bI z := by
  rcases h with h | h <;> rw [h.1] <;> unfold bI <;> decide
theorem sr_ialdZ (hx : p.tables.exec = Jvm.exec) (hb : c.code = cc) (hK : va_K D cl tys s) (hP : va_P D cl ws H) (q0 t0 : Nat) {cA : ClassId} {n : Nat} {f : Int → Int} (ha : ws[q0]? = some (a, .inl (cA, n, .inl (zI f)))) (ht : tys[t0]? = some (cA, .int)) {k : Int} (h0 : 0 ≤ k) (h1 : k < n) (hn : (n : Int) ≤ 2147483647) (hd : decode cc pc = .ok (.iaload, 1)) (kk : W p l e R s m args below meth c H locs cells slots Q (F0 m (pc + 1) ls (.int (iI (f k)) :: rest))) : W p l e R s m args below meth c H locs cells slots Q (F0 m pc ls (.int (iI k) :: .ref a :: rest)) := sr_iald hx hb hK hP q0 t0 ha ht h0 h1 hn hd (by rw [zI_at h0]; exact kk)
theorem sr_zaldZ (hx : p.tables.exec = Jvm.exec) (hb : c.code = cc) (hK : va_K D cl tys s) (hP : va_P D cl ws H) (q0 t0 : Nat) {cA : ClassId} {n : Nat} {f : Int → Int} (ha : ws[q0]? = some (a, .inl (cA, n, .inl (zI f)))) (ht : tys[t0]? = some (cA, .boolean)) {k : Int} (h0 : 0 ≤ k) (h1 : k < n) (hn : (n : Int) ≤ 2147483647) (hd : decode cc pc = .ok (.baload, 1)) (kk : W p l e R s m args below meth c H locs cells slots Q (F0 m (pc + 1) ls (.int (iI (f k)) :: rest))) : W p l e R s m args below meth c H locs cells slots Q (F0 m pc ls (.int (iI k) :: .ref a :: rest)) := sr_zald hx hb hK hP q0 t0 ha ht h0 h1 hn hd (by rw [zI_at h0]; exact kk)
theorem sr_laldZ (hx : p.tables.exec = Jvm.exec) (hb : c.code = cc) (hK : va_K D cl tys s) (hP : va_P D cl ws H) (q0 t0 : Nat) {cA : ClassId} {n : Nat} {f : Int → Int} (ha : ws[q0]? = some (a, .inl (cA, n, .inr (.inl (zL f))))) (ht : tys[t0]? = some (cA, .long)) {k : Int} (h0 : 0 ≤ k) (h1 : k < n) (hn : (n : Int) ≤ 2147483647) (hd : decode cc pc = .ok (.laload, 1)) (kk : W p l e R s m args below meth c H locs cells slots Q (F0 m (pc + 1) ls (.long (lI (f k)) :: rest))) : W p l e R s m args below meth c H locs cells slots Q (F0 m pc ls (.int (iI k) :: .ref a :: rest)) := sr_lald hx hb hK hP q0 t0 ha ht h0 h1 hn hd (by rw [zL_at h0]; exact kk)
theorem sr_iastZ (hx : p.tables.exec = Jvm.exec) (hb : c.code = cc) (hK : va_K D cl tys s) (hP : va_P D cl ws H) (hD : va_D A ws) (hS : va_S A H0 H locs) (q0 t0 : Nat) {cA : ClassId} {n : Nat} {f : Int → Int} (ha : ws[q0]? = some (a, .inl (cA, n, .inl (zI f)))) (ht : tys[t0]? = some (cA, .int)) {k x : Int} (h0 : 0 ≤ k) (h1 : k < n) (hn : (n : Int) ≤ 2147483647) (hd : decode cc pc = .ok (.iastore, 1)) (kk : ∀ (H1 : Heap) (locs1 : List Loc), va_P D cl (ws.set q0 (a, .inl (cA, n, .inl (zI (zup f k x))))) H1 → va_D A (ws.set q0 (a, .inl (cA, n, .inl (zI (zup f k x))))) → va_S A H0 H1 locs1 → W p l e R s m args below meth c H1 locs1 cells slots Q (F0 m (pc + 1) ls rest)) : W p l e R s m args below meth c H locs cells slots Q (F0 m pc ls (.int (iI x) :: .int (iI k) :: .ref a :: rest)) := sr_iast hx hb hK hP hD hS q0 t0 ha ht h0 h1 hn hd (by rw [zI_upd h0]; exact kk)
theorem sr_zastZ (hx : p.tables.exec = Jvm.exec) (hb : c.code = cc) (hK : va_K D cl tys s) (hP : va_P D cl ws H) (hD : va_D A ws) (hS : va_S A H0 H locs) (q0 t0 : Nat) {cA : ClassId} {n : Nat} {f : Int → Int} (ha : ws[q0]? = some (a, .inl (cA, n, .inl (zI f)))) (ht : tys[t0]? = some (cA, .boolean)) {k x : Int} (h0 : 0 ≤ k) (h1 : k < n) (hn : (n : Int) ≤ 2147483647) (hv : vp_nar .boolean (iI x) = iI x) (hd : decode cc pc = .ok (.bastore, 1)) (kk : ∀ (H1 : Heap) (locs1 : List Loc), va_P D cl (ws.set q0 (a, .inl (cA, n, .inl (zI (zup f k x))))) H1 → va_D A (ws.set q0 (a, .inl (cA, n, .inl (zI (zup f k x))))) → va_S A H0 H1 locs1 → W p l e R s m args below meth c H1 locs1 cells slots Q (F0 m (pc + 1) ls rest)) : W p l e R s m args below meth c H locs cells slots Q (F0 m pc ls (.int (iI x) :: .int (iI k) :: .ref a :: rest)) := sr_zast hx hb hK hP hD hS q0 t0 ha ht h0 h1 hn hd (by rw [hv, zI_upd h0]; exact kk)
theorem sr_lastZ (hx : p.tables.exec = Jvm.exec) (hb : c.code = cc) (hK : va_K D cl tys s) (hP : va_P D cl ws H) (hD : va_D A ws) (hS : va_S A H0 H locs) (q0 t0 : Nat) {cA : ClassId} {n : Nat} {f : Int → Int} (ha : ws[q0]? = some (a, .inl (cA, n, .inr (.inl (zL f))))) (ht : tys[t0]? = some (cA, .long)) {k x : Int} (h0 : 0 ≤ k) (h1 : k < n) (hn : (n : Int) ≤ 2147483647) (hd : decode cc pc = .ok (.lastore, 1)) (kk : ∀ (H1 : Heap) (locs1 : List Loc), va_P D cl (ws.set q0 (a, .inl (cA, n, .inr (.inl (zL (zup f k x)))))) H1 → va_D A (ws.set q0 (a, .inl (cA, n, .inr (.inl (zL (zup f k x)))))) → va_S A H0 H1 locs1 → W p l e R s m args below meth c H1 locs1 cells slots Q (F0 m (pc + 1) ls rest)) : W p l e R s m args below meth c H locs cells slots Q (F0 m pc ls (.long (lI x) :: .int (iI k) :: .ref a :: rest)) := sr_last hx hb hK hP hD hS q0 t0 ha ht h0 h1 hn hd (by rw [zL_upd h0]; exact kk)
theorem sr_sameA {D : va_G} {cl : List vw_C} {tys : List (ClassId × FieldType)} {s : State} {t0 : Nat} {c0 c1 : ClassId} {ty : FieldType} (hty : ∀ C, ty ≠ .object C) (hK : va_K D cl tys s) (ht : tys[t0]? = some (c0, ty)) (h : va_RA s c1 ty) : c1 = c0 := by
  have h0 := (hK.2 t0 _ ht).2
  unfold va_RA at h h0
  cases ty <;> first | exact absurd rfl (hty _) | exact Option.some.inj (h.symm.trans h0)
theorem sr_newI (hx : p.tables.exec = Jvm.exec) (hb : c.code = cc) {N : Nat} (harr : (Cond.arrayClass (newarray.typeOf .int)).before args s = true) (hK : va_K D cl tys s) (hP : va_P D cl ws H) (hD : va_D A ws) (hS : va_S A H0 H locs) (hA : ∀ q, H0.size ≤ q → A q) (t0 : Nat) {cA : ClassId} (ht : tys[t0]? = some (cA, .int)) {k : Int} (hk : k = (N : Int)) (hN : N ≤ 60000000) (hcells : cells + 1 ≤ R.cells) (hslots : slots + N ≤ R.slots) (hd : decode cc pc = .ok (.newarray .int, 2))
    (kk : ∀ (q : Nat) (H1 : Heap), va_P D cl (ws ++ [(q, .inl (cA, N, .inl (zI (fun _ => 0))))]) H1 → va_D A (ws ++ [(q, .inl (cA, N, .inl (zI (fun _ => 0))))]) → va_S A H0 H1 locs → W p l e R s m args below meth c H1 locs (cells + 1) (slots + N) Q (F0 m (pc + 2) ls (.ref q :: rest))) : W p l e R s m args below meth c H locs cells slots Q (F0 m pc ls (.int (iI k) :: rest)) := by
  have hb2 : bI k := by unfold bI; omega
  refine va_newa (ty := .int) (a0 := (N, .inl (zI (fun _ => 0)))) (N' := N) hx hb harr rfl hK hP hD hS hA (fun cA => rfl) (by rw [Int32.lt_iff_toInt_lt, iI_toInt hb2, Int32.toInt_zero]; omega) (by rw [iI_clamp (by omega) (by omega)]; omega) (by simp [componentBytes]; omega) hcells hslots hd (fun q cB H1 hK1 hP1 hD1 hS1 => ?_)
  have hA1 := (hK1.2 tys.length (cB, .int) (by simp)).2
  have e1 : cB = cA := sr_sameA (by intro C hC; cases hC) hK ht hA1
  subst e1
  exact kk q H1 hP1 hD1 hS1
theorem sr_newZ (hx : p.tables.exec = Jvm.exec) (hb : c.code = cc) {N : Nat} (harr : (Cond.arrayClass (newarray.typeOf .boolean)).before args s = true) (hK : va_K D cl tys s) (hP : va_P D cl ws H) (hD : va_D A ws) (hS : va_S A H0 H locs) (hA : ∀ q, H0.size ≤ q → A q) (t0 : Nat) {cA : ClassId} (ht : tys[t0]? = some (cA, .boolean)) {k : Int} (hk : k = (N : Int)) (hN : N ≤ 60000000) (hcells : cells + 1 ≤ R.cells) (hslots : slots + N ≤ R.slots) (hd : decode cc pc = .ok (.newarray .boolean, 2))
    (kk : ∀ (q : Nat) (H1 : Heap), va_P D cl (ws ++ [(q, .inl (cA, N, .inl (zI (fun _ => 0))))]) H1 → va_D A (ws ++ [(q, .inl (cA, N, .inl (zI (fun _ => 0))))]) → va_S A H0 H1 locs → W p l e R s m args below meth c H1 locs (cells + 1) (slots + N) Q (F0 m (pc + 2) ls (.ref q :: rest))) : W p l e R s m args below meth c H locs cells slots Q (F0 m pc ls (.int (iI k) :: rest)) := by
  have hb2 : bI k := by unfold bI; omega
  refine va_newa (ty := .boolean) (a0 := (N, .inl (zI (fun _ => 0)))) (N' := N) hx hb harr rfl hK hP hD hS hA (fun cA => rfl) (by rw [Int32.lt_iff_toInt_lt, iI_toInt hb2, Int32.toInt_zero]; omega) (by rw [iI_clamp (by omega) (by omega)]; omega) (by simp [componentBytes]; omega) hcells hslots hd (fun q cB H1 hK1 hP1 hD1 hS1 => ?_)
  have hA1 := (hK1.2 tys.length (cB, .boolean) (by simp)).2
  have e1 : cB = cA := sr_sameA (by intro C hC; cases hC) hK ht hA1
  subst e1
  exact kk q H1 hP1 hD1 hS1
theorem sr_newJ (hx : p.tables.exec = Jvm.exec) (hb : c.code = cc) {N : Nat} (harr : (Cond.arrayClass (newarray.typeOf .long)).before args s = true) (hK : va_K D cl tys s) (hP : va_P D cl ws H) (hD : va_D A ws) (hS : va_S A H0 H locs) (hA : ∀ q, H0.size ≤ q → A q) (t0 : Nat) {cA : ClassId} (ht : tys[t0]? = some (cA, .long)) {k : Int} (hk : k = (N : Int)) (hN : N ≤ 60000000) (hcells : cells + 1 ≤ R.cells) (hslots : slots + N ≤ R.slots) (hd : decode cc pc = .ok (.newarray .long, 2))
    (kk : ∀ (q : Nat) (H1 : Heap), va_P D cl (ws ++ [(q, .inl (cA, N, .inr (.inl (zL (fun _ => 0)))))]) H1 → va_D A (ws ++ [(q, .inl (cA, N, .inr (.inl (zL (fun _ => 0)))))]) → va_S A H0 H1 locs → W p l e R s m args below meth c H1 locs (cells + 1) (slots + N) Q (F0 m (pc + 2) ls (.ref q :: rest))) : W p l e R s m args below meth c H locs cells slots Q (F0 m pc ls (.int (iI k) :: rest)) := by
  have hb2 : bI k := by unfold bI; omega
  refine va_newa (ty := .long) (a0 := (N, .inr (.inl (zL (fun _ => 0))))) (N' := N) hx hb harr rfl hK hP hD hS hA (fun cA => rfl) (by rw [Int32.lt_iff_toInt_lt, iI_toInt hb2, Int32.toInt_zero]; omega) (by rw [iI_clamp (by omega) (by omega)]; omega) (by simp [componentBytes]; omega) hcells hslots hd (fun q cB H1 hK1 hP1 hD1 hS1 => ?_)
  have hA1 := (hK1.2 tys.length (cB, .long) (by simp)).2
  have e1 : cB = cA := sr_sameA (by intro C hC; cases hC) hK ht hA1
  subst e1
  exact kk q H1 hP1 hD1 hS1
theorem sr_newj (hx : p.tables.exec = Jvm.exec) (hb : c.code = cc) {N : Nat} (harr : (Cond.arrayClass (newarray.typeOf .long)).before args s = true) (hK : va_K D cl tys s) (hP : va_P D cl ws H) (hD : va_D A ws) (hS : va_S A H0 H locs) (hA : ∀ q, H0.size ≤ q → A q) (t0 : Nat) {cA : ClassId} (ht : tys[t0]? = some (cA, .long)) {k : Int} (hk : k = (N : Int)) (hN : N ≤ 60000000) (hcells : cells + 1 ≤ R.cells) (hslots : slots + N ≤ R.slots) (hd : decode cc pc = .ok (.newarray .long, 2))
    (kk : ∀ (q : Nat) (H1 : Heap), va_P D cl (ws ++ [(q, .inl (cA, N, .inr (.inl (fun _ => 0))))]) H1 → va_D A (ws ++ [(q, .inl (cA, N, .inr (.inl (fun _ => 0))))]) → va_S A H0 H1 locs → W p l e R s m args below meth c H1 locs (cells + 1) (slots + N) Q (F0 m (pc + 2) ls (.ref q :: rest))) : W p l e R s m args below meth c H locs cells slots Q (F0 m pc ls (.int (iI k) :: rest)) := by
  have hb2 : bI k := by unfold bI; omega
  refine va_newa (ty := .long) (a0 := (N, .inr (.inl (fun _ => 0)))) (N' := N) hx hb harr rfl hK hP hD hS hA (fun cA => rfl) (by rw [Int32.lt_iff_toInt_lt, iI_toInt hb2, Int32.toInt_zero]; omega) (by rw [iI_clamp (by omega) (by omega)]; omega) (by simp [componentBytes]; omega) hcells hslots hd (fun q cB H1 hK1 hP1 hD1 hS1 => ?_)
  have hA1 := (hK1.2 tys.length (cB, .long) (by simp)).2
  have e1 : cB = cA := sr_sameA (by intro C hC; cases hC) hK ht hA1
  subst e1
  exact kk q H1 hP1 hD1 hS1
theorem sr_eql {x z : Int64} (h : x = z) (k : W p l e R s m args below meth c H locs cells slots Q (F0 m pc ls (.long z :: rest))) : W p l e R s m args below meth c H locs cells slots Q (F0 m pc ls (.long x :: rest)) := by rw [h]; exact k
theorem sr_mmax (hx : p.tables.exec = Jvm.exec) (hb : c.code = cc) (hml : c.maxLocals = ls.size) {own : String} {index : Nat} (hown : s.vm.findClass own = some m.cls) (hlink : (Cond.methodLink own index Lib.Math.max.name).before args s = true) (hstat : (Cond.static Lib.Math.max.name).before args s = true) (hini : (Cond.initialized "java/lang/Math").before args s = true) (hcode : (Cond.code Lib.Math.max.name Lib.Math.max.code 2 (some .int)).before args s = true)
    (hframes : 1 ≤ R.frames) (hlocals : (rest.map fun v => v.category).sum + 13 ≤ R.locals) (hc : cells ≤ R.cells) (hs : slots ≤ R.slots) {a b : Int} (ha : bI a) (hb2 : bI b) (hd : decode cc pc = .ok (.invokestatic index, 3))
    (kk : W p l e R s m args below meth c H locs cells slots Q (F0 m (pc + 3) ls (.int (iI (max a b)) :: rest))) : W p l e R s m args below meth c H locs cells slots Q (F0 m pc ls (.int (iI b) :: .int (iI a) :: rest)) := by
  refine va_mmax hx hb hml hown hlink hstat hini hcode hframes hlocals hc hs hd ?_
  have h1 := iI_lt ha hb2
  have e1 : (if iI a < iI b then iI b else iI a) = iI (max a b) := by
    split
    · rename_i h2; have h3 := h1.mp h2; congr 1; omega
    · rename_i h2; have h3 := mt h1.mpr h2; congr 1; omega
  rw [e1]; exact kk
theorem sr_mmin (hx : p.tables.exec = Jvm.exec) (hb : c.code = cc) (hml : c.maxLocals = ls.size) {own : String} {index : Nat} (hown : s.vm.findClass own = some m.cls) (hlink : (Cond.methodLink own index Lib.Math.min.name).before args s = true) (hstat : (Cond.static Lib.Math.min.name).before args s = true) (hini : (Cond.initialized "java/lang/Math").before args s = true) (hcode : (Cond.code Lib.Math.min.name Lib.Math.min.code 2 (some .int)).before args s = true)
    (hframes : 1 ≤ R.frames) (hlocals : (rest.map fun v => v.category).sum + 13 ≤ R.locals) (hc : cells ≤ R.cells) (hs : slots ≤ R.slots) {a b : Int} (ha : bI a) (hb2 : bI b) (hd : decode cc pc = .ok (.invokestatic index, 3))
    (kk : W p l e R s m args below meth c H locs cells slots Q (F0 m (pc + 3) ls (.int (iI (min a b)) :: rest))) : W p l e R s m args below meth c H locs cells slots Q (F0 m pc ls (.int (iI b) :: .int (iI a) :: rest)) := by
  refine va_mmin hx hb hml hown hlink hstat hini hcode hframes hlocals hc hs hd ?_
  have h1 := iI_lt hb2 ha
  have e1 : (if iI b < iI a then iI b else iI a) = iI (min a b) := by
    split
    · rename_i h2; have h3 := h1.mp h2; congr 1; omega
    · rename_i h2; have h3 := mt h1.mpr h2; congr 1; omega
  rw [e1]; exact kk
theorem sr_mmax_long (hx : p.tables.exec = Jvm.exec) (hb : c.code = cc) (hml : c.maxLocals = ls.size) {own : String} {index : Nat} (hown : s.vm.findClass own = some m.cls) (hlink : (Cond.methodLink own index Lib.MathLoose.max_long.x).before args s = true) (hstat : (Cond.static Lib.MathLoose.max_long.x).before args s = true) (hini : (Cond.initialized "java/lang/Math").before args s = true) (hcode : (Cond.code Lib.MathLoose.max_long.x Lib.MathLoose.max_long.code 4 (some .long)).before args s = true)
    (hframes : 1 ≤ R.frames) (hlocals : (rest.map fun v => v.category).sum + 15 ≤ R.locals) (hc : cells ≤ R.cells) (hs : slots ≤ R.slots) {a b : Int} (ha : bL a) (hb2 : bL b) (hd : decode cc pc = .ok (.invokestatic index, 3))
    (kk : W p l e R s m args below meth c H locs cells slots Q (F0 m (pc + 3) ls (.long (lI (max a b)) :: rest))) : W p l e R s m args below meth c H locs cells slots Q (F0 m pc ls (.long (lI b) :: .long (lI a) :: rest)) := by
  refine va_mmax_long hx hb hml hown hlink hstat hini hcode hframes hlocals hc hs hd ?_
  have h1 := lI_lt hb2 ha
  have e1 : (if lI b < lI a then lI a else lI b) = lI (max a b) := by
    split
    · rename_i h2; have h3 := h1.mp h2; congr 1; omega
    · rename_i h2; have h3 := mt h1.mpr h2; congr 1; omega
  rw [e1]; exact kk
theorem sr_mmin_long (hx : p.tables.exec = Jvm.exec) (hb : c.code = cc) (hml : c.maxLocals = ls.size) {own : String} {index : Nat} (hown : s.vm.findClass own = some m.cls) (hlink : (Cond.methodLink own index Lib.MathLoose.min_long.x).before args s = true) (hstat : (Cond.static Lib.MathLoose.min_long.x).before args s = true) (hini : (Cond.initialized "java/lang/Math").before args s = true) (hcode : (Cond.code Lib.MathLoose.min_long.x Lib.MathLoose.min_long.code 4 (some .long)).before args s = true)
    (hframes : 1 ≤ R.frames) (hlocals : (rest.map fun v => v.category).sum + 15 ≤ R.locals) (hc : cells ≤ R.cells) (hs : slots ≤ R.slots) {a b : Int} (ha : bL a) (hb2 : bL b) (hd : decode cc pc = .ok (.invokestatic index, 3))
    (kk : W p l e R s m args below meth c H locs cells slots Q (F0 m (pc + 3) ls (.long (lI (min a b)) :: rest))) : W p l e R s m args below meth c H locs cells slots Q (F0 m pc ls (.long (lI b) :: .long (lI a) :: rest)) := by
  refine va_mmin_long hx hb hml hown hlink hstat hini hcode hframes hlocals hc hs hd ?_
  have h1 := lI_lt hb2 ha
  have e1 : (if lI b < lI a then lI b else lI a) = lI (min a b) := by
    split
    · rename_i h2; have h3 := h1.mp h2; congr 1; omega
    · rename_i h2; have h3 := mt h1.mpr h2; congr 1; omega
  rw [e1]; exact kk
end SrRows
end
section
/-! entry, returns and calls of methods, all over one list of words 'allw' and one list of nest words 'ns' -/
/-- the nest words, as facts of a state -/
def sr_N (ns : List Cond) (U : State) : Prop := ∀ w ∈ ns, va_Nw w U
theorem sr_N.warm {ns : List Cond} (hn : ∀ w ∈ ns, sr_isN w = true) {s U : State} (hW : s.WarmedH U.vm) (h : sr_N ns s) : sr_N ns U := by
  intro w hw
  have h1 := hn w hw
  have h2 := h w hw
  cases w <;> first | (simp [sr_isN] at h1; done) | exact va_Nw.warmF hW h2 | exact va_Nw.warmM hW h2
theorem sr_N.same {ns : List Cond} (hn : ∀ w ∈ ns, sr_isN w = true) {s U : State} (hW : s.vm = U.vm) (h : sr_N ns s) : sr_N ns U := by
  intro w hw
  have h1 := hn w hw
  have h2 := h w hw
  cases w <;> first | (simp [sr_isN] at h1; done) | exact va_Nw.same rfl hW h2
/-- what a method finds: its cells w0 in a heap of sz cells, the classes' numbers, the nest words -/
def sr_U (D : va_G) (cl : List vw_C) (tys : List (ClassId × FieldType)) (ns : List Cond) (w0 : va_W) (sz : Nat) (U : State) : Prop :=
  U.heap.size = sz ∧ va_P D cl w0 U.heap ∧ va_K D cl tys U ∧ va_D (fun _ => True) w0 ∧ sr_N ns U
/-- what it leaves -/
abbrev sr_B (D : va_G) (cl : List vw_C) (A : Nat → Prop) {S : Type} (w1 : S → va_W) : S → State → Prop := fun u t => va_P D cl (w1 u) t.heap ∧ va_D A (w1 u)
theorem sr_blind {D : va_G} {cl : List vw_C} {tys : List (ClassId × FieldType)} {ns : List Cond} (hns : ∀ w ∈ ns, sr_isN w = true) {w0 : va_W} {sz : Nat} {av : List Value} : FrameBlind (va_Pc av (sr_U D cl tys ns w0 sz)) := by
  intro a U g mk q
  obtain ⟨q0, q1, qP, qK, qD, qN⟩ := q
  exact ⟨q0, q1, qP, va_K.moved (u := U) (U := U.calling g mk a) (Vm.Alike.refl U.vm) qK, qD, sr_N.same (s := U) (U := U.calling g mk a) hns rfl qN⟩
theorem sr_fm {ws wc : va_W} {is : List Nat} (h : is.map (fun i => ws[i]?) = wc.map some) : is.filterMap (fun i => ws[i]?) = wc := by
  have e : is.filterMap (fun i => ws[i]?) = (is.map (fun i => ws[i]?)).filterMap id := by rw [List.filterMap_map]; rfl
  rw [e, h, List.filterMap_map]
  simp
theorem sr_enter {l : Launch} {y : MethodName} {ws ws' : List Cond} {rm : Room} {cc : ByteArray} {maxL : Nat} {ret : Option FieldType} {D : va_G} {cl : List vw_C} {tys : List (ClassId × FieldType)} {ns : List Cond} {av : List Value} {sz : Nat} {w0 : va_W} {Qf : (Nat → Prop) → Array Value → State → Outcome → State → Prop} {mc ms : Nat}
    (hy : plainName y.cls = true) (hw : ws = Cond.code y cc maxL ret :: ws') (hlen : (lg_sl av).length ≤ maxL)
    (body : ∀ (p : Program) (e : Env) (s : State) (m : MethodId) (below : List Frame) (meth : Method) (c : Code) (A : Nat → Prop) (ls : Array Slot), p.tables.exec = Jvm.exec → c.code = cc → meth.sig.returnType = ret → c.maxLocals = maxL → s.vm.findClass y.cls = some m.cls → meth.locks = false → meth.name = y.name → (∀ w ∈ ws, w.before av.toArray s = true) → s.heap.size = sz → va_P D cl w0 s.heap → va_K D cl tys s → va_D A w0 → sr_N ns s → (∀ q, s.heap.size ≤ q → A q) → va_S A s.heap s.heap [] → lv_has ls maxL (lv_args 0 av) → W p l e rm s m av.toArray below meth c s.heap [] 0 0 (MQ below (Qf A) av.toArray s mc ms A) (F0 m 0 ls [])) :
    Met l y ws rm (va_Pc av (sr_U D cl tys ns w0 sz)) (Qf (va_A w0 sz)) mc ms (va_A w0 sz) := by
  refine Met.ofW (cc := cc) (maxL := maxL) (ret := ret) hy hw ?_
  intro p e s m args below meth c s₁ B hml hv
  obtain ⟨rfl, hsz, hP, hK, hD0, hN⟩ := hv
  have hts := atoms_spec (ws := ws) B.pre
  have hown : s.vm.findClass y.cls = some m.cls := findClass_of_methodNamed B.named
  have hin : meth.name = y.name := (name_of_methodNamed B.named B.method).1
  subst hsz
  have hD := hD0.self (sz := s.heap.size)
  have hl := lv_entry av (n := maxL) hlen
  rw [lg_entry_eq]
  exact body p e s m below meth c _ _ B.exec B.bytes B.returns hml hown B.notSynchronized hin hts rfl hP hK hD hN (fun q h => Or.inr h) va_S.rf hl
section SrRet
variable {p : Program} {l : Launch} {e : Env} {R : Room} {s : State} {m : MethodId} {args : Array Value} {below : List Frame} {meth : Method} {c : Code} {H : Heap} {locs : List Loc} {cells slots : Nat} {Q : State → Prop}
variable {cc : ByteArray} {pc : Nat} {ls : Array Slot} {rest : List Value} {D : va_G} {cl : List vw_C} {A : Nat → Prop} {tys : List (ClassId × FieldType)} {ws : va_W} {H0 : Heap}
theorem sr_iret {S : Type} {post : Int32 → S → Prop} {w1 : S → va_W} {v : Int32} (u : S) (hx : p.tables.exec = Jvm.exec) (hb : c.code = cc) (hr : meth.sig.returnType = some .int) (hlocks : meth.locks = false) (hP : va_P D cl (w1 u) H) (hD : va_D A (w1 u)) (hS : va_S A s.heap H locs) (hd : decode cc pc = .ok (.ireturn, 1)) (hp : post v u) : W p l e R s m args below meth c H locs cells slots (MQ below (va_Qi post (sr_B D cl A w1) A) args s cells slots A) (F0 m pc ls [.int v]) :=
  W.iret hx hb hr (fun t ht hW => ⟨⟨v, u, rfl, hp, by rw [ht]; exact hP, hD⟩, hS.F ht⟩) hS.2.2 hd hlocks
theorem sr_zret {S : Type} {post : Int32 → S → Prop} {w1 : S → va_W} {v : Int32} (u : S) (hx : p.tables.exec = Jvm.exec) (hb : c.code = cc) (hr : meth.sig.returnType = some .boolean) (hlocks : meth.locks = false) (hn : narrow .boolean (.int v) = .int v) (hP : va_P D cl (w1 u) H) (hD : va_D A (w1 u)) (hS : va_S A s.heap H locs) (hd : decode cc pc = .ok (.ireturn, 1)) (hp : post v u) : W p l e R s m args below meth c H locs cells slots (MQ below (va_Qi post (sr_B D cl A w1) A) args s cells slots A) (F0 m pc ls [.int v]) :=
  W.zret hx hb hr hn (fun t ht hW => ⟨⟨v, u, rfl, hp, by rw [ht]; exact hP, hD⟩, hS.F ht⟩) hS.2.2 hd hlocks
theorem sr_lret {S : Type} {post : Int64 → S → Prop} {w1 : S → va_W} {v : Int64} (u : S) (hx : p.tables.exec = Jvm.exec) (hb : c.code = cc) (hr : meth.sig.returnType = some .long) (hlocks : meth.locks = false) (hP : va_P D cl (w1 u) H) (hD : va_D A (w1 u)) (hS : va_S A s.heap H locs) (hd : decode cc pc = .ok (.lreturn, 1)) (hp : post v u) : W p l e R s m args below meth c H locs cells slots (MQ below (va_Ql post (sr_B D cl A w1) A) args s cells slots A) (F0 m pc ls [.long v]) :=
  W.lret hx hb hr (fun t ht hW => ⟨⟨v, u, rfl, hp, by rw [ht]; exact hP, hD⟩, hS.F ht⟩) hS.2.2 hd hlocks
theorem sr_vret {S : Type} {post : S → Prop} {w1 : S → va_W} (u : S) (hx : p.tables.exec = Jvm.exec) (hb : c.code = cc) (hr : meth.sig.returnType = none) (hlocks : meth.locks = false) (hP : va_P D cl (w1 u) H) (hD : va_D A (w1 u)) (hS : va_S A s.heap H locs) (hd : decode cc pc = .ok (.return_, 1)) (hp : post u) : W p l e R s m args below meth c H locs cells slots (MQ below (va_Qv post (sr_B D cl A w1) A) args s cells slots A) (F0 m pc ls []) :=
  W.vret hx hb hr (fun t ht hW => ⟨⟨u, rfl, hp, by rw [ht]; exact hP, hD⟩, hS.F ht⟩) hS.2.2 hd hlocks
end SrRet
section SrCall
variable {p : Program} {l : Launch} {e : Env} {R : Room} {s : State} {m : MethodId} {args : Array Value} {below : List Frame} {meth : Method} {c : Code} {H : Heap} {locs : List Loc} {cells slots : Nat} {Q : State → Prop}
variable {cc : ByteArray} {pc nL n mc ms maxL index : Nat} {ls : Array Slot} {rest st0 As : List Value} {D : va_G} {cl : List vw_C} {A : Nat → Prop} {tys : List (ClassId × FieldType)} {ws wc wr : va_W} {H0 : Heap} {ns Ts wy : List Cond} {own C host : String} {y : MethodName} {bytes : ByteArray} {ret : Option FieldType} {rm : Room} {b : Nat}
theorem sr_preS {av : List Value} (hns : ∀ w ∈ ns, sr_isN w = true) (hK : va_K D cl tys s) (hN : sr_N ns s) (hP : va_P D cl ws H) (hD : va_D A ws) (isC : List Nat) (hC : isC.map (fun i => ws[i]?) = wc.map some) (hnC : va_nd isC = true) : PreS s H (va_Pc av (sr_U D cl tys ns wc H.size)) av :=
  ⟨sr_blind hns, fun U hU hW => ⟨rfl, by rw [hU], by rw [hU]; exact hP.sub isC (sr_fm hC), va_K.moved hW.alike hK, (hD.sub isC hnC hC).weaken (fun _ _ _ _ => trivial), hN.warm hns hW⟩⟩

theorem sr_aft_v {S : Type} {post : S → Prop} {w1 : S → va_W} {a : Array Value}
    (hr : va_Run p l e R s m args below meth c H locs cells slots mc ms (F0 m pc ls st0) rest (va_Qv post (sr_B D cl (va_A wc H.size) w1) (va_A wc H.size) a) (va_A wc H.size))
    (hP : va_P D cl ws H) (hD : va_D A ws) (hS : va_S A H0 H locs) (hA : ∀ q, H0.size ≤ q → A q) (isC isR : List Nat) (hC : isC.map (fun i => ws[i]?) = wc.map some) (hR : isR.map (fun i => ws[i]?) = wr.map some) (hnR : va_nd isR = true) (hdis : ∀ i ∈ isR, i ∉ isC)
    (kk : ∀ (u : S) (H1 : Heap) (locs1 : List Loc), post u → va_P D cl (wr ++ w1 u) H1 → va_D A (wr ++ w1 u) → va_S A H0 H1 locs1 → W p l e R s m args below meth c H1 locs1 (cells + mc) (slots + ms) Q (F0 m (pc + 3) ls rest)) : W p l e R s m args below meth c H locs cells slots Q (F0 m pc ls st0) := by
  have hFc := va_free hD hS hA isC hC
  refine va_callv hr hS (fun q _ h => hFc q h) hFc (fun u t H1 locs1 ht hvm hw hB hz1 hk1 hS1 => ?_)
  obtain ⟨hP1, hD1⟩ := hB
  rw [ht] at hP1
  obtain ⟨hP2, hD2⟩ := va_join hP hD isC isR hC hR hnR hdis hk1 hFc hP1 hD1
  exact kk u H1 locs1 hw hP2 hD2 hS1
theorem sr_aft_i {S : Type} {post : Int32 → S → Prop} {w1 : S → va_W} {a : Array Value}
    (hr : va_Run p l e R s m args below meth c H locs cells slots mc ms (F0 m pc ls st0) rest (va_Qi post (sr_B D cl (va_A wc H.size) w1) (va_A wc H.size) a) (va_A wc H.size))
    (hP : va_P D cl ws H) (hD : va_D A ws) (hS : va_S A H0 H locs) (hA : ∀ q, H0.size ≤ q → A q) (isC isR : List Nat) (hC : isC.map (fun i => ws[i]?) = wc.map some) (hR : isR.map (fun i => ws[i]?) = wr.map some) (hnR : va_nd isR = true) (hdis : ∀ i ∈ isR, i ∉ isC)
    (kk : ∀ (r : Int32) (u : S) (H1 : Heap) (locs1 : List Loc), post r u → va_P D cl (wr ++ w1 u) H1 → va_D A (wr ++ w1 u) → va_S A H0 H1 locs1 → W p l e R s m args below meth c H1 locs1 (cells + mc) (slots + ms) Q (F0 m (pc + 3) ls (.int r :: rest))) : W p l e R s m args below meth c H locs cells slots Q (F0 m pc ls st0) := by
  have hFc := va_free hD hS hA isC hC
  refine va_calli hr hS (fun q _ h => hFc q h) hFc (fun r u t H1 locs1 ht hvm hw hB hz1 hk1 hS1 => ?_)
  obtain ⟨hP1, hD1⟩ := hB
  rw [ht] at hP1
  obtain ⟨hP2, hD2⟩ := va_join hP hD isC isR hC hR hnR hdis hk1 hFc hP1 hD1
  exact kk r u H1 locs1 hw hP2 hD2 hS1
theorem sr_aft_l {S : Type} {post : Int64 → S → Prop} {w1 : S → va_W} {a : Array Value}
    (hr : va_Run p l e R s m args below meth c H locs cells slots mc ms (F0 m pc ls st0) rest (va_Ql post (sr_B D cl (va_A wc H.size) w1) (va_A wc H.size) a) (va_A wc H.size))
    (hP : va_P D cl ws H) (hD : va_D A ws) (hS : va_S A H0 H locs) (hA : ∀ q, H0.size ≤ q → A q) (isC isR : List Nat) (hC : isC.map (fun i => ws[i]?) = wc.map some) (hR : isR.map (fun i => ws[i]?) = wr.map some) (hnR : va_nd isR = true) (hdis : ∀ i ∈ isR, i ∉ isC)
    (kk : ∀ (r : Int64) (u : S) (H1 : Heap) (locs1 : List Loc), post r u → va_P D cl (wr ++ w1 u) H1 → va_D A (wr ++ w1 u) → va_S A H0 H1 locs1 → W p l e R s m args below meth c H1 locs1 (cells + mc) (slots + ms) Q (F0 m (pc + 3) ls (.long r :: rest))) : W p l e R s m args below meth c H locs cells slots Q (F0 m pc ls st0) := by
  have hFc := va_free hD hS hA isC hC
  refine va_calll hr hS (fun q _ h => hFc q h) hFc (fun r u t H1 locs1 ht hvm hw hB hz1 hk1 hS1 => ?_)
  obtain ⟨hP1, hD1⟩ := hB
  rw [ht] at hP1
  obtain ⟨hP2, hD2⟩ := va_join hP hD isC isR hC hR hnR hdis hk1 hFc hP1 hD1
  exact kk r u H1 locs1 hw hP2 hD2 hS1
theorem sr_cV_v {S : Type} {post : S → Prop} {w1 : S → va_W} (hx : p.tables.exec = Jvm.exec) (hb : c.code = cc) (hml : c.maxLocals = nL) (hown : s.vm.findClass own = some m.cls) (hts : ∀ w ∈ Ts, w.before args s = true)
    (hM : Met l y wy rm (va_Pc (.ref b :: As) (sr_U D cl tys ns wc H.size)) (va_Qv post (sr_B D cl (va_A wc H.size) w1) (va_A wc H.size)) mc ms (va_A wc H.size)) (cw : CallW R s args own C index y bytes maxL ret wy rm mc ms n)
    (hns : ∀ w ∈ ns, sr_isN w = true) (hK : va_K D cl tys s) (hN : sr_N ns s) (hP : va_P D cl ws H) (hD : va_D A ws) (hS : va_S A H0 H locs) (hA : ∀ q, H0.size ≤ q → A q) (isC isR : List Nat) (hC : isC.map (fun i => ws[i]?) = wc.map some) (hnC : va_nd isC = true) (hR : isR.map (fun i => ws[i]?) = wr.map some) (hnR : va_nd isR = true) (hdis : ∀ i ∈ isR, i ∉ isC) {T : u_T} {N ci q0 : Nat} {fs : List Value} (he : ws[q0]? = some (b, .inr (ci, fs))) (hc : cl[ci]? = some (C, T, N))
    (hn : As.length = n) (hsz : ls.size = nL) (hst : st0 = As.reverse ++ .ref b :: rest) (hroom : (rest.map fun v => v.category).sum ≤ 8) (hd : decode cc pc = .ok (.invokevirtual index, 3)) (hf : cells + mc ≤ R.cells ∧ slots + ms ≤ R.slots)
    (kk : ∀ (u : S) (H1 : Heap) (locs1 : List Loc), post u → va_P D cl (wr ++ w1 u) H1 → va_D A (wr ++ w1 u) → va_S A H0 H1 locs1 → W p l e R s m args below meth c H1 locs1 (cells + mc) (slots + ms) Q (F0 m (pc + 3) ls rest)) : W p l e R s m args below meth c H locs cells slots Q (F0 m pc ls st0) :=
  sr_aft_v (va_runV (As := As) (rest := rest) (g := F0 m pc ls st0) ⟨hx, hb, hml, hown, hts⟩ hM cw ⟨(sr_preS (av := (.ref b :: As)) hns hK hN hP hD isC hC hnC).1, va_recv hK hP hc he, (sr_preS (av := (.ref b :: As)) hns hK hN hP hD isC hC hnC).2⟩ rfl hn hsz hst (lv_room hroom) hd hf) hP hD hS hA isC isR hC hR hnR hdis kk
theorem sr_cV_i {S : Type} {post : Int32 → S → Prop} {w1 : S → va_W} (hx : p.tables.exec = Jvm.exec) (hb : c.code = cc) (hml : c.maxLocals = nL) (hown : s.vm.findClass own = some m.cls) (hts : ∀ w ∈ Ts, w.before args s = true)
    (hM : Met l y wy rm (va_Pc (.ref b :: As) (sr_U D cl tys ns wc H.size)) (va_Qi post (sr_B D cl (va_A wc H.size) w1) (va_A wc H.size)) mc ms (va_A wc H.size)) (cw : CallW R s args own C index y bytes maxL ret wy rm mc ms n)
    (hns : ∀ w ∈ ns, sr_isN w = true) (hK : va_K D cl tys s) (hN : sr_N ns s) (hP : va_P D cl ws H) (hD : va_D A ws) (hS : va_S A H0 H locs) (hA : ∀ q, H0.size ≤ q → A q) (isC isR : List Nat) (hC : isC.map (fun i => ws[i]?) = wc.map some) (hnC : va_nd isC = true) (hR : isR.map (fun i => ws[i]?) = wr.map some) (hnR : va_nd isR = true) (hdis : ∀ i ∈ isR, i ∉ isC) {T : u_T} {N ci q0 : Nat} {fs : List Value} (he : ws[q0]? = some (b, .inr (ci, fs))) (hc : cl[ci]? = some (C, T, N))
    (hn : As.length = n) (hsz : ls.size = nL) (hst : st0 = As.reverse ++ .ref b :: rest) (hroom : (rest.map fun v => v.category).sum ≤ 8) (hd : decode cc pc = .ok (.invokevirtual index, 3)) (hf : cells + mc ≤ R.cells ∧ slots + ms ≤ R.slots)
    (kk : ∀ (r : Int32) (u : S) (H1 : Heap) (locs1 : List Loc), post r u → va_P D cl (wr ++ w1 u) H1 → va_D A (wr ++ w1 u) → va_S A H0 H1 locs1 → W p l e R s m args below meth c H1 locs1 (cells + mc) (slots + ms) Q (F0 m (pc + 3) ls (.int r :: rest))) : W p l e R s m args below meth c H locs cells slots Q (F0 m pc ls st0) :=
  sr_aft_i (va_runV (As := As) (rest := rest) (g := F0 m pc ls st0) ⟨hx, hb, hml, hown, hts⟩ hM cw ⟨(sr_preS (av := (.ref b :: As)) hns hK hN hP hD isC hC hnC).1, va_recv hK hP hc he, (sr_preS (av := (.ref b :: As)) hns hK hN hP hD isC hC hnC).2⟩ rfl hn hsz hst (lv_room hroom) hd hf) hP hD hS hA isC isR hC hR hnR hdis kk
theorem sr_cV_l {S : Type} {post : Int64 → S → Prop} {w1 : S → va_W} (hx : p.tables.exec = Jvm.exec) (hb : c.code = cc) (hml : c.maxLocals = nL) (hown : s.vm.findClass own = some m.cls) (hts : ∀ w ∈ Ts, w.before args s = true)
    (hM : Met l y wy rm (va_Pc (.ref b :: As) (sr_U D cl tys ns wc H.size)) (va_Ql post (sr_B D cl (va_A wc H.size) w1) (va_A wc H.size)) mc ms (va_A wc H.size)) (cw : CallW R s args own C index y bytes maxL ret wy rm mc ms n)
    (hns : ∀ w ∈ ns, sr_isN w = true) (hK : va_K D cl tys s) (hN : sr_N ns s) (hP : va_P D cl ws H) (hD : va_D A ws) (hS : va_S A H0 H locs) (hA : ∀ q, H0.size ≤ q → A q) (isC isR : List Nat) (hC : isC.map (fun i => ws[i]?) = wc.map some) (hnC : va_nd isC = true) (hR : isR.map (fun i => ws[i]?) = wr.map some) (hnR : va_nd isR = true) (hdis : ∀ i ∈ isR, i ∉ isC) {T : u_T} {N ci q0 : Nat} {fs : List Value} (he : ws[q0]? = some (b, .inr (ci, fs))) (hc : cl[ci]? = some (C, T, N))
    (hn : As.length = n) (hsz : ls.size = nL) (hst : st0 = As.reverse ++ .ref b :: rest) (hroom : (rest.map fun v => v.category).sum ≤ 8) (hd : decode cc pc = .ok (.invokevirtual index, 3)) (hf : cells + mc ≤ R.cells ∧ slots + ms ≤ R.slots)
    (kk : ∀ (r : Int64) (u : S) (H1 : Heap) (locs1 : List Loc), post r u → va_P D cl (wr ++ w1 u) H1 → va_D A (wr ++ w1 u) → va_S A H0 H1 locs1 → W p l e R s m args below meth c H1 locs1 (cells + mc) (slots + ms) Q (F0 m (pc + 3) ls (.long r :: rest))) : W p l e R s m args below meth c H locs cells slots Q (F0 m pc ls st0) :=
  sr_aft_l (va_runV (As := As) (rest := rest) (g := F0 m pc ls st0) ⟨hx, hb, hml, hown, hts⟩ hM cw ⟨(sr_preS (av := (.ref b :: As)) hns hK hN hP hD isC hC hnC).1, va_recv hK hP hc he, (sr_preS (av := (.ref b :: As)) hns hK hN hP hD isC hC hnC).2⟩ rfl hn hsz hst (lv_room hroom) hd hf) hP hD hS hA isC isR hC hR hnR hdis kk
theorem sr_cS_v {S : Type} {post : S → Prop} {w1 : S → va_W} (hx : p.tables.exec = Jvm.exec) (hb : c.code = cc) (hml : c.maxLocals = nL) (hown : s.vm.findClass own = some m.cls) (hts : ∀ w ∈ Ts, w.before args s = true)
    (hM : Met l y wy rm (va_Pc As (sr_U D cl tys ns wc H.size)) (va_Qv post (sr_B D cl (va_A wc H.size) w1) (va_A wc H.size)) mc ms (va_A wc H.size)) (cw : CallB R s args own index y bytes maxL ret wy rm mc ms n ∧ (Cond.static y).before args s = true)
    (hns : ∀ w ∈ ns, sr_isN w = true) (hK : va_K D cl tys s) (hN : sr_N ns s) (hP : va_P D cl ws H) (hD : va_D A ws) (hS : va_S A H0 H locs) (hA : ∀ q, H0.size ≤ q → A q) (isC isR : List Nat) (hC : isC.map (fun i => ws[i]?) = wc.map some) (hnC : va_nd isC = true) (hR : isR.map (fun i => ws[i]?) = wr.map some) (hnR : va_nd isR = true) (hdis : ∀ i ∈ isR, i ∉ isC)
    (hn : As.length = n) (hsz : ls.size = nL) (hst : st0 = As.reverse ++ rest) (hroom : (rest.map fun v => v.category).sum ≤ 8) (hd : decode cc pc = .ok (.invokestatic index, 3)) (hf : cells + mc ≤ R.cells ∧ slots + ms ≤ R.slots)
    (kk : ∀ (u : S) (H1 : Heap) (locs1 : List Loc), post u → va_P D cl (wr ++ w1 u) H1 → va_D A (wr ++ w1 u) → va_S A H0 H1 locs1 → W p l e R s m args below meth c H1 locs1 (cells + mc) (slots + ms) Q (F0 m (pc + 3) ls rest)) : W p l e R s m args below meth c H locs cells slots Q (F0 m pc ls st0) :=
  sr_aft_v (va_runS (As := As) (rest := rest) (g := F0 m pc ls st0) ⟨hx, hb, hml, hown, hts⟩ hM cw (sr_preS (av := As) hns hK hN hP hD isC hC hnC) rfl hn hsz hst (lv_room hroom) hd hf) hP hD hS hA isC isR hC hR hnR hdis kk
theorem sr_cS_i {S : Type} {post : Int32 → S → Prop} {w1 : S → va_W} (hx : p.tables.exec = Jvm.exec) (hb : c.code = cc) (hml : c.maxLocals = nL) (hown : s.vm.findClass own = some m.cls) (hts : ∀ w ∈ Ts, w.before args s = true)
    (hM : Met l y wy rm (va_Pc As (sr_U D cl tys ns wc H.size)) (va_Qi post (sr_B D cl (va_A wc H.size) w1) (va_A wc H.size)) mc ms (va_A wc H.size)) (cw : CallB R s args own index y bytes maxL ret wy rm mc ms n ∧ (Cond.static y).before args s = true)
    (hns : ∀ w ∈ ns, sr_isN w = true) (hK : va_K D cl tys s) (hN : sr_N ns s) (hP : va_P D cl ws H) (hD : va_D A ws) (hS : va_S A H0 H locs) (hA : ∀ q, H0.size ≤ q → A q) (isC isR : List Nat) (hC : isC.map (fun i => ws[i]?) = wc.map some) (hnC : va_nd isC = true) (hR : isR.map (fun i => ws[i]?) = wr.map some) (hnR : va_nd isR = true) (hdis : ∀ i ∈ isR, i ∉ isC)
    (hn : As.length = n) (hsz : ls.size = nL) (hst : st0 = As.reverse ++ rest) (hroom : (rest.map fun v => v.category).sum ≤ 8) (hd : decode cc pc = .ok (.invokestatic index, 3)) (hf : cells + mc ≤ R.cells ∧ slots + ms ≤ R.slots)
    (kk : ∀ (r : Int32) (u : S) (H1 : Heap) (locs1 : List Loc), post r u → va_P D cl (wr ++ w1 u) H1 → va_D A (wr ++ w1 u) → va_S A H0 H1 locs1 → W p l e R s m args below meth c H1 locs1 (cells + mc) (slots + ms) Q (F0 m (pc + 3) ls (.int r :: rest))) : W p l e R s m args below meth c H locs cells slots Q (F0 m pc ls st0) :=
  sr_aft_i (va_runS (As := As) (rest := rest) (g := F0 m pc ls st0) ⟨hx, hb, hml, hown, hts⟩ hM cw (sr_preS (av := As) hns hK hN hP hD isC hC hnC) rfl hn hsz hst (lv_room hroom) hd hf) hP hD hS hA isC isR hC hR hnR hdis kk
theorem sr_cS_l {S : Type} {post : Int64 → S → Prop} {w1 : S → va_W} (hx : p.tables.exec = Jvm.exec) (hb : c.code = cc) (hml : c.maxLocals = nL) (hown : s.vm.findClass own = some m.cls) (hts : ∀ w ∈ Ts, w.before args s = true)
    (hM : Met l y wy rm (va_Pc As (sr_U D cl tys ns wc H.size)) (va_Ql post (sr_B D cl (va_A wc H.size) w1) (va_A wc H.size)) mc ms (va_A wc H.size)) (cw : CallB R s args own index y bytes maxL ret wy rm mc ms n ∧ (Cond.static y).before args s = true)
    (hns : ∀ w ∈ ns, sr_isN w = true) (hK : va_K D cl tys s) (hN : sr_N ns s) (hP : va_P D cl ws H) (hD : va_D A ws) (hS : va_S A H0 H locs) (hA : ∀ q, H0.size ≤ q → A q) (isC isR : List Nat) (hC : isC.map (fun i => ws[i]?) = wc.map some) (hnC : va_nd isC = true) (hR : isR.map (fun i => ws[i]?) = wr.map some) (hnR : va_nd isR = true) (hdis : ∀ i ∈ isR, i ∉ isC)
    (hn : As.length = n) (hsz : ls.size = nL) (hst : st0 = As.reverse ++ rest) (hroom : (rest.map fun v => v.category).sum ≤ 8) (hd : decode cc pc = .ok (.invokestatic index, 3)) (hf : cells + mc ≤ R.cells ∧ slots + ms ≤ R.slots)
    (kk : ∀ (r : Int64) (u : S) (H1 : Heap) (locs1 : List Loc), post r u → va_P D cl (wr ++ w1 u) H1 → va_D A (wr ++ w1 u) → va_S A H0 H1 locs1 → W p l e R s m args below meth c H1 locs1 (cells + mc) (slots + ms) Q (F0 m (pc + 3) ls (.long r :: rest))) : W p l e R s m args below meth c H locs cells slots Q (F0 m pc ls st0) :=
  sr_aft_l (va_runS (As := As) (rest := rest) (g := F0 m pc ls st0) ⟨hx, hb, hml, hown, hts⟩ hM cw (sr_preS (av := As) hns hK hN hP hD isC hC hnC) rfl hn hsz hst (lv_room hroom) hd hf) hP hD hS hA isC isR hC hR hnR hdis kk
theorem sr_cI_v {S : Type} {post : S → Prop} {w1 : S → va_W} (hx : p.tables.exec = Jvm.exec) (hb : c.code = cc) (hml : c.maxLocals = nL) (hown : s.vm.findClass own = some m.cls) (hts : ∀ w ∈ Ts, w.before args s = true)
    (hM : Met l y wy rm (va_Pc (.ref b :: As) (sr_U D cl tys ns wc H.size)) (va_Qv post (sr_B D cl (va_A wc H.size) w1) (va_A wc H.size)) mc ms (va_A wc H.size)) (cw : CallB R s args own index y bytes maxL none wy rm mc ms n ∧ y.name = "<init>" ∧ (Cond.instanceMethod y).before args s = true)
    (hns : ∀ w ∈ ns, sr_isN w = true) (hK : va_K D cl tys s) (hN : sr_N ns s) (hP : va_P D cl ws H) (hD : va_D A ws) (hS : va_S A H0 H locs) (hA : ∀ q, H0.size ≤ q → A q) (isC isR : List Nat) (hC : isC.map (fun i => ws[i]?) = wc.map some) (hnC : va_nd isC = true) (hR : isR.map (fun i => ws[i]?) = wr.map some) (hnR : va_nd isR = true) (hdis : ∀ i ∈ isR, i ∉ isC)
    (hn : As.length = n) (hsz : ls.size = nL) (hst : st0 = As.reverse ++ .ref b :: rest) (hroom : (rest.map fun v => v.category).sum ≤ 8) (hd : decode cc pc = .ok (.invokespecial index, 3)) (hf : cells + mc ≤ R.cells ∧ slots + ms ≤ R.slots)
    (kk : ∀ (u : S) (H1 : Heap) (locs1 : List Loc), post u → va_P D cl (wr ++ w1 u) H1 → va_D A (wr ++ w1 u) → va_S A H0 H1 locs1 → W p l e R s m args below meth c H1 locs1 (cells + mc) (slots + ms) Q (F0 m (pc + 3) ls rest)) : W p l e R s m args below meth c H locs cells slots Q (F0 m pc ls st0) :=
  sr_aft_v (va_runI (As := As) (rest := rest) (g := F0 m pc ls st0) ⟨hx, hb, hml, hown, hts⟩ hM cw (sr_preS (av := (.ref b :: As)) hns hK hN hP hD isC hC hnC) rfl hn hsz hst (lv_room hroom) hd hf) hP hD hS hA isC isR hC hR hnR hdis kk
theorem sr_cVN_v {S : Type} {post : S → Prop} {w1 : S → va_W} (hx : p.tables.exec = Jvm.exec) (hb : c.code = cc) (hml : c.maxLocals = nL) (hown : s.vm.findClass own = some m.cls) (hts : ∀ w ∈ Ts, w.before args s = true)
    (hM : Met l y wy rm (va_Pc (.ref b :: As) (sr_U D cl tys ns wc H.size)) (va_Qv post (sr_B D cl (va_A wc H.size) w1) (va_A wc H.size)) mc ms (va_A wc H.size)) (cw : va_CN R s args own index y host bytes maxL ret wy rm mc ms n ∧ (Cond.instanceMethod y).before args s = true ∧ (Cond.selects C y y).before args s = true)
    (hns : ∀ w ∈ ns, sr_isN w = true) (hK : va_K D cl tys s) (hN : sr_N ns s) (hP : va_P D cl ws H) (hD : va_D A ws) (hS : va_S A H0 H locs) (hA : ∀ q, H0.size ≤ q → A q) (isC isR : List Nat) (hC : isC.map (fun i => ws[i]?) = wc.map some) (hnC : va_nd isC = true) (hR : isR.map (fun i => ws[i]?) = wr.map some) (hnR : va_nd isR = true) (hdis : ∀ i ∈ isR, i ∉ isC) {T : u_T} {N ci q0 : Nat} {fs : List Value} (he : ws[q0]? = some (b, .inr (ci, fs))) (hc : cl[ci]? = some (C, T, N))
    (hn : As.length = n) (hsz : ls.size = nL) (hst : st0 = As.reverse ++ .ref b :: rest) (hroom : (rest.map fun v => v.category).sum ≤ 8) (hd : decode cc pc = .ok (.invokevirtual index, 3)) (hf : cells + mc ≤ R.cells ∧ slots + ms ≤ R.slots)
    (kk : ∀ (u : S) (H1 : Heap) (locs1 : List Loc), post u → va_P D cl (wr ++ w1 u) H1 → va_D A (wr ++ w1 u) → va_S A H0 H1 locs1 → W p l e R s m args below meth c H1 locs1 (cells + mc) (slots + ms) Q (F0 m (pc + 3) ls rest)) : W p l e R s m args below meth c H locs cells slots Q (F0 m pc ls st0) :=
  sr_aft_v (va_runVN (As := As) (rest := rest) (g := F0 m pc ls st0) ⟨hx, hb, hml, hown, hts⟩ hM cw ⟨(sr_preS (av := (.ref b :: As)) hns hK hN hP hD isC hC hnC).1, va_recv hK hP hc he, (sr_preS (av := (.ref b :: As)) hns hK hN hP hD isC hC hnC).2⟩ rfl hn hsz hst (lv_room hroom) hd hf) hP hD hS hA isC isR hC hR hnR hdis kk
theorem sr_cVN_i {S : Type} {post : Int32 → S → Prop} {w1 : S → va_W} (hx : p.tables.exec = Jvm.exec) (hb : c.code = cc) (hml : c.maxLocals = nL) (hown : s.vm.findClass own = some m.cls) (hts : ∀ w ∈ Ts, w.before args s = true)
    (hM : Met l y wy rm (va_Pc (.ref b :: As) (sr_U D cl tys ns wc H.size)) (va_Qi post (sr_B D cl (va_A wc H.size) w1) (va_A wc H.size)) mc ms (va_A wc H.size)) (cw : va_CN R s args own index y host bytes maxL ret wy rm mc ms n ∧ (Cond.instanceMethod y).before args s = true ∧ (Cond.selects C y y).before args s = true)
    (hns : ∀ w ∈ ns, sr_isN w = true) (hK : va_K D cl tys s) (hN : sr_N ns s) (hP : va_P D cl ws H) (hD : va_D A ws) (hS : va_S A H0 H locs) (hA : ∀ q, H0.size ≤ q → A q) (isC isR : List Nat) (hC : isC.map (fun i => ws[i]?) = wc.map some) (hnC : va_nd isC = true) (hR : isR.map (fun i => ws[i]?) = wr.map some) (hnR : va_nd isR = true) (hdis : ∀ i ∈ isR, i ∉ isC) {T : u_T} {N ci q0 : Nat} {fs : List Value} (he : ws[q0]? = some (b, .inr (ci, fs))) (hc : cl[ci]? = some (C, T, N))
    (hn : As.length = n) (hsz : ls.size = nL) (hst : st0 = As.reverse ++ .ref b :: rest) (hroom : (rest.map fun v => v.category).sum ≤ 8) (hd : decode cc pc = .ok (.invokevirtual index, 3)) (hf : cells + mc ≤ R.cells ∧ slots + ms ≤ R.slots)
    (kk : ∀ (r : Int32) (u : S) (H1 : Heap) (locs1 : List Loc), post r u → va_P D cl (wr ++ w1 u) H1 → va_D A (wr ++ w1 u) → va_S A H0 H1 locs1 → W p l e R s m args below meth c H1 locs1 (cells + mc) (slots + ms) Q (F0 m (pc + 3) ls (.int r :: rest))) : W p l e R s m args below meth c H locs cells slots Q (F0 m pc ls st0) :=
  sr_aft_i (va_runVN (As := As) (rest := rest) (g := F0 m pc ls st0) ⟨hx, hb, hml, hown, hts⟩ hM cw ⟨(sr_preS (av := (.ref b :: As)) hns hK hN hP hD isC hC hnC).1, va_recv hK hP hc he, (sr_preS (av := (.ref b :: As)) hns hK hN hP hD isC hC hnC).2⟩ rfl hn hsz hst (lv_room hroom) hd hf) hP hD hS hA isC isR hC hR hnR hdis kk
theorem sr_cVN_l {S : Type} {post : Int64 → S → Prop} {w1 : S → va_W} (hx : p.tables.exec = Jvm.exec) (hb : c.code = cc) (hml : c.maxLocals = nL) (hown : s.vm.findClass own = some m.cls) (hts : ∀ w ∈ Ts, w.before args s = true)
    (hM : Met l y wy rm (va_Pc (.ref b :: As) (sr_U D cl tys ns wc H.size)) (va_Ql post (sr_B D cl (va_A wc H.size) w1) (va_A wc H.size)) mc ms (va_A wc H.size)) (cw : va_CN R s args own index y host bytes maxL ret wy rm mc ms n ∧ (Cond.instanceMethod y).before args s = true ∧ (Cond.selects C y y).before args s = true)
    (hns : ∀ w ∈ ns, sr_isN w = true) (hK : va_K D cl tys s) (hN : sr_N ns s) (hP : va_P D cl ws H) (hD : va_D A ws) (hS : va_S A H0 H locs) (hA : ∀ q, H0.size ≤ q → A q) (isC isR : List Nat) (hC : isC.map (fun i => ws[i]?) = wc.map some) (hnC : va_nd isC = true) (hR : isR.map (fun i => ws[i]?) = wr.map some) (hnR : va_nd isR = true) (hdis : ∀ i ∈ isR, i ∉ isC) {T : u_T} {N ci q0 : Nat} {fs : List Value} (he : ws[q0]? = some (b, .inr (ci, fs))) (hc : cl[ci]? = some (C, T, N))
    (hn : As.length = n) (hsz : ls.size = nL) (hst : st0 = As.reverse ++ .ref b :: rest) (hroom : (rest.map fun v => v.category).sum ≤ 8) (hd : decode cc pc = .ok (.invokevirtual index, 3)) (hf : cells + mc ≤ R.cells ∧ slots + ms ≤ R.slots)
    (kk : ∀ (r : Int64) (u : S) (H1 : Heap) (locs1 : List Loc), post r u → va_P D cl (wr ++ w1 u) H1 → va_D A (wr ++ w1 u) → va_S A H0 H1 locs1 → W p l e R s m args below meth c H1 locs1 (cells + mc) (slots + ms) Q (F0 m (pc + 3) ls (.long r :: rest))) : W p l e R s m args below meth c H locs cells slots Q (F0 m pc ls st0) :=
  sr_aft_l (va_runVN (As := As) (rest := rest) (g := F0 m pc ls st0) ⟨hx, hb, hml, hown, hts⟩ hM cw ⟨(sr_preS (av := (.ref b :: As)) hns hK hN hP hD isC hC hnC).1, va_recv hK hP hc he, (sr_preS (av := (.ref b :: As)) hns hK hN hP hD isC hC hnC).2⟩ rfl hn hsz hst (lv_room hroom) hd hf) hP hD hS hA isC isR hC hR hnR hdis kk
theorem sr_cSN_v {S : Type} {post : S → Prop} {w1 : S → va_W} (hx : p.tables.exec = Jvm.exec) (hb : c.code = cc) (hml : c.maxLocals = nL) (hown : s.vm.findClass own = some m.cls) (hts : ∀ w ∈ Ts, w.before args s = true)
    (hM : Met l y wy rm (va_Pc As (sr_U D cl tys ns wc H.size)) (va_Qv post (sr_B D cl (va_A wc H.size) w1) (va_A wc H.size)) mc ms (va_A wc H.size)) (cw : va_CN R s args own index y host bytes maxL ret wy rm mc ms n ∧ (Cond.static y).before args s = true ∧ True)
    (hns : ∀ w ∈ ns, sr_isN w = true) (hK : va_K D cl tys s) (hN : sr_N ns s) (hP : va_P D cl ws H) (hD : va_D A ws) (hS : va_S A H0 H locs) (hA : ∀ q, H0.size ≤ q → A q) (isC isR : List Nat) (hC : isC.map (fun i => ws[i]?) = wc.map some) (hnC : va_nd isC = true) (hR : isR.map (fun i => ws[i]?) = wr.map some) (hnR : va_nd isR = true) (hdis : ∀ i ∈ isR, i ∉ isC)
    (hn : As.length = n) (hsz : ls.size = nL) (hst : st0 = As.reverse ++ rest) (hroom : (rest.map fun v => v.category).sum ≤ 8) (hd : decode cc pc = .ok (.invokestatic index, 3)) (hf : cells + mc ≤ R.cells ∧ slots + ms ≤ R.slots)
    (kk : ∀ (u : S) (H1 : Heap) (locs1 : List Loc), post u → va_P D cl (wr ++ w1 u) H1 → va_D A (wr ++ w1 u) → va_S A H0 H1 locs1 → W p l e R s m args below meth c H1 locs1 (cells + mc) (slots + ms) Q (F0 m (pc + 3) ls rest)) : W p l e R s m args below meth c H locs cells slots Q (F0 m pc ls st0) :=
  sr_aft_v (va_runSN (As := As) (rest := rest) (g := F0 m pc ls st0) ⟨hx, hb, hml, hown, hts⟩ hM cw (sr_preS (av := As) hns hK hN hP hD isC hC hnC) rfl hn hsz hst (lv_room hroom) hd hf) hP hD hS hA isC isR hC hR hnR hdis kk
theorem sr_cSN_i {S : Type} {post : Int32 → S → Prop} {w1 : S → va_W} (hx : p.tables.exec = Jvm.exec) (hb : c.code = cc) (hml : c.maxLocals = nL) (hown : s.vm.findClass own = some m.cls) (hts : ∀ w ∈ Ts, w.before args s = true)
    (hM : Met l y wy rm (va_Pc As (sr_U D cl tys ns wc H.size)) (va_Qi post (sr_B D cl (va_A wc H.size) w1) (va_A wc H.size)) mc ms (va_A wc H.size)) (cw : va_CN R s args own index y host bytes maxL ret wy rm mc ms n ∧ (Cond.static y).before args s = true ∧ True)
    (hns : ∀ w ∈ ns, sr_isN w = true) (hK : va_K D cl tys s) (hN : sr_N ns s) (hP : va_P D cl ws H) (hD : va_D A ws) (hS : va_S A H0 H locs) (hA : ∀ q, H0.size ≤ q → A q) (isC isR : List Nat) (hC : isC.map (fun i => ws[i]?) = wc.map some) (hnC : va_nd isC = true) (hR : isR.map (fun i => ws[i]?) = wr.map some) (hnR : va_nd isR = true) (hdis : ∀ i ∈ isR, i ∉ isC)
    (hn : As.length = n) (hsz : ls.size = nL) (hst : st0 = As.reverse ++ rest) (hroom : (rest.map fun v => v.category).sum ≤ 8) (hd : decode cc pc = .ok (.invokestatic index, 3)) (hf : cells + mc ≤ R.cells ∧ slots + ms ≤ R.slots)
    (kk : ∀ (r : Int32) (u : S) (H1 : Heap) (locs1 : List Loc), post r u → va_P D cl (wr ++ w1 u) H1 → va_D A (wr ++ w1 u) → va_S A H0 H1 locs1 → W p l e R s m args below meth c H1 locs1 (cells + mc) (slots + ms) Q (F0 m (pc + 3) ls (.int r :: rest))) : W p l e R s m args below meth c H locs cells slots Q (F0 m pc ls st0) :=
  sr_aft_i (va_runSN (As := As) (rest := rest) (g := F0 m pc ls st0) ⟨hx, hb, hml, hown, hts⟩ hM cw (sr_preS (av := As) hns hK hN hP hD isC hC hnC) rfl hn hsz hst (lv_room hroom) hd hf) hP hD hS hA isC isR hC hR hnR hdis kk
theorem sr_cSN_l {S : Type} {post : Int64 → S → Prop} {w1 : S → va_W} (hx : p.tables.exec = Jvm.exec) (hb : c.code = cc) (hml : c.maxLocals = nL) (hown : s.vm.findClass own = some m.cls) (hts : ∀ w ∈ Ts, w.before args s = true)
    (hM : Met l y wy rm (va_Pc As (sr_U D cl tys ns wc H.size)) (va_Ql post (sr_B D cl (va_A wc H.size) w1) (va_A wc H.size)) mc ms (va_A wc H.size)) (cw : va_CN R s args own index y host bytes maxL ret wy rm mc ms n ∧ (Cond.static y).before args s = true ∧ True)
    (hns : ∀ w ∈ ns, sr_isN w = true) (hK : va_K D cl tys s) (hN : sr_N ns s) (hP : va_P D cl ws H) (hD : va_D A ws) (hS : va_S A H0 H locs) (hA : ∀ q, H0.size ≤ q → A q) (isC isR : List Nat) (hC : isC.map (fun i => ws[i]?) = wc.map some) (hnC : va_nd isC = true) (hR : isR.map (fun i => ws[i]?) = wr.map some) (hnR : va_nd isR = true) (hdis : ∀ i ∈ isR, i ∉ isC)
    (hn : As.length = n) (hsz : ls.size = nL) (hst : st0 = As.reverse ++ rest) (hroom : (rest.map fun v => v.category).sum ≤ 8) (hd : decode cc pc = .ok (.invokestatic index, 3)) (hf : cells + mc ≤ R.cells ∧ slots + ms ≤ R.slots)
    (kk : ∀ (r : Int64) (u : S) (H1 : Heap) (locs1 : List Loc), post r u → va_P D cl (wr ++ w1 u) H1 → va_D A (wr ++ w1 u) → va_S A H0 H1 locs1 → W p l e R s m args below meth c H1 locs1 (cells + mc) (slots + ms) Q (F0 m (pc + 3) ls (.long r :: rest))) : W p l e R s m args below meth c H locs cells slots Q (F0 m pc ls st0) :=
  sr_aft_l (va_runSN (As := As) (rest := rest) (g := F0 m pc ls st0) ⟨hx, hb, hml, hown, hts⟩ hM cw (sr_preS (av := As) hns hK hN hP hD isC hC hnC) rfl hn hsz hst (lv_room hroom) hd hf) hP hD hS hA isC isR hC hR hnR hdis kk
theorem sr_cIN_v {S : Type} {post : S → Prop} {w1 : S → va_W} (hx : p.tables.exec = Jvm.exec) (hb : c.code = cc) (hml : c.maxLocals = nL) (hown : s.vm.findClass own = some m.cls) (hts : ∀ w ∈ Ts, w.before args s = true)
    (hM : Met l y wy rm (va_Pc (.ref b :: As) (sr_U D cl tys ns wc H.size)) (va_Qv post (sr_B D cl (va_A wc H.size) w1) (va_A wc H.size)) mc ms (va_A wc H.size)) (cw : va_CN R s args own index y host bytes maxL none wy rm mc ms n ∧ y.name = "<init>" ∧ (Cond.instanceMethod y).before args s = true)
    (hns : ∀ w ∈ ns, sr_isN w = true) (hK : va_K D cl tys s) (hN : sr_N ns s) (hP : va_P D cl ws H) (hD : va_D A ws) (hS : va_S A H0 H locs) (hA : ∀ q, H0.size ≤ q → A q) (isC isR : List Nat) (hC : isC.map (fun i => ws[i]?) = wc.map some) (hnC : va_nd isC = true) (hR : isR.map (fun i => ws[i]?) = wr.map some) (hnR : va_nd isR = true) (hdis : ∀ i ∈ isR, i ∉ isC)
    (hn : As.length = n) (hsz : ls.size = nL) (hst : st0 = As.reverse ++ .ref b :: rest) (hroom : (rest.map fun v => v.category).sum ≤ 8) (hd : decode cc pc = .ok (.invokespecial index, 3)) (hf : cells + mc ≤ R.cells ∧ slots + ms ≤ R.slots)
    (kk : ∀ (u : S) (H1 : Heap) (locs1 : List Loc), post u → va_P D cl (wr ++ w1 u) H1 → va_D A (wr ++ w1 u) → va_S A H0 H1 locs1 → W p l e R s m args below meth c H1 locs1 (cells + mc) (slots + ms) Q (F0 m (pc + 3) ls rest)) : W p l e R s m args below meth c H locs cells slots Q (F0 m pc ls st0) :=
  sr_aft_v (va_runIN (As := As) (rest := rest) (g := F0 m pc ls st0) ⟨hx, hb, hml, hown, hts⟩ hM cw (sr_preS (av := (.ref b :: As)) hns hK hN hP hD isC hC hnC) rfl hn hsz hst (lv_room hroom) hd hf) hP hD hS hA isC isR hC hR hnR hdis kk
theorem sr_good {x : Cond} (h : Cond.code y bytes maxL ret ∈ allw) {Ts : List Cond} (hsub : ∀ w ∈ allw, w ∈ Ts) : GoodIn Ts (Cond.code y bytes maxL ret :: allw) := by
  intro w hw
  rcases List.mem_cons.mp hw with rfl | hw
  · exact ⟨hsub _ h, Or.inl rfl⟩
  · exact ⟨hsub _ hw, good_of_word (allw_good w hw)⟩
theorem sr_cwB (hsub : ∀ w ∈ allw, w ∈ Ts) (hts : ∀ w ∈ Ts, w.before args s = true) (hcode : Cond.code y bytes maxL ret ∈ allw) (hini : Cond.initialized y.cls ∈ allw) (hl : Cond.methodLink own index y ∈ allw) (hd : sr_d y n) (hR : rm.frames + 1 ≤ R.frames ∧ 8 + (maxL + 11) + rm.locals ≤ R.locals) : CallB R s args own index y bytes maxL ret (Cond.code y bytes maxL ret :: allw) rm rm.cells rm.slots n :=
  callB_of n hts (sr_good (x := .returned) hcode hsub) rfl rfl rfl (hts _ (hsub _ hini)) (hts _ (hsub _ hl)) hd hR
theorem sr_cwV (hsub : ∀ w ∈ allw, w ∈ Ts) (hts : ∀ w ∈ Ts, w.before args s = true) (hcode : Cond.code y bytes maxL ret ∈ allw) (hini : Cond.initialized y.cls ∈ allw) (hl : Cond.methodLink own index y ∈ allw) (hin : Cond.instanceMethod y ∈ allw) (hse : Cond.selects C y y ∈ allw) (hd : sr_d y n) (hR : rm.frames + 1 ≤ R.frames ∧ 8 + (maxL + 11) + rm.locals ≤ R.locals) : CallW R s args own C index y bytes maxL ret (Cond.code y bytes maxL ret :: allw) rm rm.cells rm.slots n :=
  ⟨sr_cwB hsub hts hcode hini hl hd hR, hts _ (hsub _ hin), hts _ (hsub _ hse)⟩
theorem sr_cwS (hsub : ∀ w ∈ allw, w ∈ Ts) (hts : ∀ w ∈ Ts, w.before args s = true) (hcode : Cond.code y bytes maxL ret ∈ allw) (hini : Cond.initialized y.cls ∈ allw) (hl : Cond.methodLink own index y ∈ allw) (hst : Cond.static y ∈ allw) (hd : sr_d y n) (hR : rm.frames + 1 ≤ R.frames ∧ 8 + (maxL + 11) + rm.locals ≤ R.locals) : CallB R s args own index y bytes maxL ret (Cond.code y bytes maxL ret :: allw) rm rm.cells rm.slots n ∧ (Cond.static y).before args s = true :=
  ⟨sr_cwB hsub hts hcode hini hl hd hR, hts _ (hsub _ hst)⟩
theorem sr_cwI (hsub : ∀ w ∈ allw, w ∈ Ts) (hts : ∀ w ∈ Ts, w.before args s = true) (hcode : Cond.code y bytes maxL none ∈ allw) (hini : Cond.initialized y.cls ∈ allw) (hl : Cond.methodLink own index y ∈ allw) (hin : Cond.instanceMethod y ∈ allw) (hy : y.name = "<init>") (hd : sr_d y n) (hR : rm.frames + 1 ≤ R.frames ∧ 8 + (maxL + 11) + rm.locals ≤ R.locals) : CallB R s args own index y bytes maxL none (Cond.code y bytes maxL none :: allw) rm rm.cells rm.slots n ∧ y.name = "<init>" ∧ (Cond.instanceMethod y).before args s = true :=
  ⟨sr_cwB hsub hts hcode hini hl hd hR, hy, hts _ (hsub _ hin)⟩
theorem sr_cwBN (hsub : ∀ w ∈ allw, w ∈ Ts) (hts : ∀ w ∈ Ts, w.before args s = true) (hcode : Cond.code y bytes maxL ret ∈ allw) (hini : Cond.initialized y.cls ∈ allw) (hl : va_Nw (.methodLinkNest own index y host) s) (hd : sr_d y n) (hR : rm.frames + 1 ≤ R.frames ∧ 8 + (maxL + 11) + rm.locals ≤ R.locals) : va_CN R s args own index y host bytes maxL ret (Cond.code y bytes maxL ret :: allw) rm rm.cells rm.slots n :=
  va_cnB n hts (sr_good (x := .returned) hcode hsub) rfl rfl rfl hl (hts _ (hsub _ hini)) hd hR
theorem sr_cwVN (hsub : ∀ w ∈ allw, w ∈ Ts) (hts : ∀ w ∈ Ts, w.before args s = true) (hcode : Cond.code y bytes maxL ret ∈ allw) (hini : Cond.initialized y.cls ∈ allw) (hl : va_Nw (.methodLinkNest own index y host) s) (hin : Cond.instanceMethod y ∈ allw) (hse : Cond.selects C y y ∈ allw) (hd : sr_d y n) (hR : rm.frames + 1 ≤ R.frames ∧ 8 + (maxL + 11) + rm.locals ≤ R.locals) : va_CN R s args own index y host bytes maxL ret (Cond.code y bytes maxL ret :: allw) rm rm.cells rm.slots n ∧ (Cond.instanceMethod y).before args s = true ∧ (Cond.selects C y y).before args s = true :=
  ⟨sr_cwBN hsub hts hcode hini hl hd hR, hts _ (hsub _ hin), hts _ (hsub _ hse)⟩
theorem sr_cwSN (hsub : ∀ w ∈ allw, w ∈ Ts) (hts : ∀ w ∈ Ts, w.before args s = true) (hcode : Cond.code y bytes maxL ret ∈ allw) (hini : Cond.initialized y.cls ∈ allw) (hl : va_Nw (.methodLinkNest own index y host) s) (hst : Cond.static y ∈ allw) (hd : sr_d y n) (hR : rm.frames + 1 ≤ R.frames ∧ 8 + (maxL + 11) + rm.locals ≤ R.locals) : va_CN R s args own index y host bytes maxL ret (Cond.code y bytes maxL ret :: allw) rm rm.cells rm.slots n ∧ (Cond.static y).before args s = true ∧ True :=
  ⟨sr_cwBN hsub hts hcode hini hl hd hR, hts _ (hsub _ hst), trivial⟩
theorem sr_cwIN (hsub : ∀ w ∈ allw, w ∈ Ts) (hts : ∀ w ∈ Ts, w.before args s = true) (hcode : Cond.code y bytes maxL none ∈ allw) (hini : Cond.initialized y.cls ∈ allw) (hl : va_Nw (.methodLinkNest own index y host) s) (hin : Cond.instanceMethod y ∈ allw) (hy : y.name = "<init>") (hd : sr_d y n) (hR : rm.frames + 1 ≤ R.frames ∧ 8 + (maxL + 11) + rm.locals ≤ R.locals) : va_CN R s args own index y host bytes maxL none (Cond.code y bytes maxL none :: allw) rm rm.cells rm.slots n ∧ y.name = "<init>" ∧ (Cond.instanceMethod y).before args s = true :=
  ⟨sr_cwBN hsub hts hcode hini hl hd hR, hy, hts _ (hsub _ hin)⟩
theorem sr_dflt {N : Nat} {ty : Nat → FieldType} {fs : List Value} (h : (List.range N).all (fun j => decide (defaultValue (ty j) = vp_V fs j)) = true) : ∀ j, j < N → defaultValue (ty j) = vp_V fs j := fun j hj => by
  have h1 := List.all_eq_true.mp h j (List.mem_range.mpr hj)
  simpa using h1
end SrCall
end
section
/-! how many bits are set: Long.bitCount's way, by bytes -/
def pcN : Nat → Nat → Nat
  | 0, _ => 0
  | k + 1, n => n % 2 + pcN k (n / 2)
theorem pc_and8 (b h m M : Nat) (hb : b < 256) (hm : m < 256) : (b + 256 * h) &&& (m + 256 * M) = (b &&& m) + 256 * (h &&& M) := by
  have e1 : ((b + 256 * h) &&& (m + 256 * M)) % 2 ^ 8 = (b + 256 * h) % 2 ^ 8 &&& (m + 256 * M) % 2 ^ 8 := Nat.and_mod_two_pow
  have e2 : ((b + 256 * h) &&& (m + 256 * M)) / 2 ^ 8 = (b + 256 * h) / 2 ^ 8 &&& (m + 256 * M) / 2 ^ 8 := Nat.and_div_two_pow
  have b1 : (b + 256 * h) % 2 ^ 8 = b := by omega
  have b2 : (b + 256 * h) / 2 ^ 8 = h := by omega
  have m1 : (m + 256 * M) % 2 ^ 8 = m := by omega
  have m2 : (m + 256 * M) / 2 ^ 8 = M := by omega
  rw [b1, m1] at e1
  rw [b2, m2] at e2
  have h3 := Nat.mod_add_div ((b + 256 * h) &&& (m + 256 * M)) (2 ^ 8)
  rw [e1, e2] at h3
  omega
theorem pc_t1 : ∀ b, b < 256 → ∀ t, t < 2 → ((b / 2 + 128 * t) &&& 85) = (b / 2 &&& 85) ∧ (b / 2 &&& 85) ≤ b := by decide +kernel
theorem pc_t2 : ∀ b, b < 256 → ∀ t, t < 4 → ((b / 4 + 64 * t) &&& 51) = (b / 4 &&& 51) := by decide +kernel
def pc_1 (n M : Nat) : Nat := n - ((n / 2) &&& M)
def pc_2 (n M : Nat) : Nat := (n &&& M) + ((n / 4) &&& M)
def pc_3 (n M : Nat) : Nat := (n + n / 16) &&& M
theorem pc_le (h M : Nat) : ((h / 2) &&& M) ≤ h := Nat.le_trans Nat.and_le_left (Nat.div_le_self _ _)
theorem pc_1s (b h M : Nat) (hb : b < 256) : pc_1 (b + 256 * h) (85 + 256 * M) = pc_1 b 85 + 256 * pc_1 h M := by
  unfold pc_1
  have e1 : (b + 256 * h) / 2 = (b / 2 + 128 * (h % 2)) + 256 * (h / 2) := by omega
  rw [e1, pc_and8 _ _ _ _ (by omega) (by decide)]
  have h1 := pc_t1 b hb (h % 2) (by omega)
  rw [h1.1]
  have h2 := pc_le h M
  have h3 := h1.2
  omega
theorem pc_1lt : ∀ b, b < 256 → pc_1 b 85 < 256 := by decide +kernel
theorem pc_2s (b h M : Nat) (hb : b < 256) : pc_2 (b + 256 * h) (51 + 256 * M) = pc_2 b 51 + 256 * pc_2 h M := by
  unfold pc_2
  have e1 : (b + 256 * h) / 4 = (b / 4 + 64 * (h % 4)) + 256 * (h / 4) := by omega
  rw [e1, pc_and8 b h 51 M hb (by decide), pc_and8 (b / 4 + 64 * (h % 4)) (h / 4) 51 M (by omega) (by decide), pc_t2 b hb (h % 4) (by omega)]
  omega
theorem pc_12 : ∀ b, b < 256 → pc_2 (pc_1 b 85) 51 ≤ 68 ∧ pc_2 (pc_1 b 85) 51 % 16 ≤ 4 ∧ pc_3 (pc_2 (pc_1 b 85) 51) 15 = pcN 8 b ∧ pcN 8 b ≤ 8 := by decide +kernel
theorem pc_t3 : ∀ y, y ≤ 68 → ∀ t, t < 5 → ((y + y / 16 + 16 * t) &&& 15) = ((y + y / 16) &&& 15) := by decide +kernel
theorem pc_3s (y h M : Nat) (hy : y ≤ 68) (hh : h % 16 ≤ 4) : pc_3 (y + 256 * h) (15 + 256 * M) = pc_3 y 15 + 256 * pc_3 h M := by
  unfold pc_3
  have e1 : (y + 256 * h) + (y + 256 * h) / 16 = (y + y / 16 + 16 * (h % 16)) + 256 * (h + h / 16) := by omega
  rw [e1, pc_and8 _ _ _ _ (by omega) (by decide), pc_t3 y hy (h % 16) (by omega)]
/-- the masks, by so many bytes -/
def pc_m (m : Nat) : Nat → Nat
  | 0 => 0
  | k + 1 => m + 256 * pc_m m k
/-- all three steps, byte by byte -/
def pc_by : Nat → Nat → Nat
  | 0, _ => 0
  | k + 1, n => pcN 8 (n % 256) + 256 * pc_by k (n / 256)
theorem pc_all : ∀ k n, n < 256 ^ k → pc_2 (pc_1 n (pc_m 85 k)) (pc_m 51 k) % 16 ≤ 4 ∧ pc_3 (pc_2 (pc_1 n (pc_m 85 k)) (pc_m 51 k)) (pc_m 15 k) = pc_by k n := by
  intro k
  induction k with
  | zero =>
    intro n hn
    have : n = 0 := by simp at hn; omega
    subst this
    decide
  | succ k ih =>
    intro n hn
    have hq : n / 256 < 256 ^ k := by
      have : n < 256 * 256 ^ k := by rw [Nat.pow_succ] at hn; omega
      omega
    obtain ⟨i1, i2⟩ := ih (n / 256) hq
    have hb : n % 256 < 256 := by omega
    have en : n = n % 256 + 256 * (n / 256) := by omega
    have e1 : pc_1 n (pc_m 85 (k + 1)) = pc_1 (n % 256) 85 + 256 * pc_1 (n / 256) (pc_m 85 k) := by
      rw [← pc_1s _ _ _ hb, ← en]; rfl
    have e2 : pc_2 (pc_1 n (pc_m 85 (k + 1))) (pc_m 51 (k + 1)) = pc_2 (pc_1 (n % 256) 85) 51 + 256 * pc_2 (pc_1 (n / 256) (pc_m 85 k)) (pc_m 51 k) := by
      rw [e1, ← pc_2s _ _ _ (pc_1lt _ hb)]; rfl
    obtain ⟨t1, t2, t3, t4⟩ := pc_12 (n % 256) hb
    rw [e2]
    refine ⟨by omega, ?_⟩
    show pc_3 _ (15 + 256 * pc_m 15 k) = _
    rw [pc_3s _ _ _ t1 i1, t3, i2]
    rfl
theorem pcN_8 (k b h : Nat) (hb : b < 256) : pcN (k + 8) (b + 256 * h) = pcN 8 b + pcN k h := by
  simp only [pcN]
  have e : (b + 256 * h) / 2 / 2 / 2 / 2 / 2 / 2 / 2 / 2 = h := by omega
  rw [e]
  omega
theorem pc_8 (n : Nat) (hn : n < 2 ^ 64) : ∃ t0 t1 t2 t3 t4 t5 t6 t7 : Nat, t0 ≤ 8 ∧ t1 ≤ 8 ∧ t2 ≤ 8 ∧ t3 ≤ 8 ∧ t4 ≤ 8 ∧ t5 ≤ 8 ∧ t6 ≤ 8 ∧ t7 ≤ 8 ∧ pc_by 8 n = t0 + 256 * (t1 + 256 * (t2 + 256 * (t3 + 256 * (t4 + 256 * (t5 + 256 * (t6 + 256 * t7)))))) ∧ pcN 64 n = t0 + t1 + t2 + t3 + t4 + t5 + t6 + t7 := by
  have h8 : ∀ b, pcN 8 (b % 256) ≤ 8 := fun b => (pc_12 (b % 256) (by omega)).2.2.2
  have st : ∀ k m, pcN (k + 8) m = pcN 8 (m % 256) + pcN k (m / 256) := fun k m => by
    have h := pcN_8 k (m % 256) (m / 256) (by omega)
    rw [show m % 256 + 256 * (m / 256) = m by omega] at h
    exact h
  refine ⟨_, _, _, _, _, _, _, _, h8 n, h8 (n / 256), h8 (n / 256 / 256), h8 (n / 256 / 256 / 256), h8 (n / 256 / 256 / 256 / 256), h8 (n / 256 / 256 / 256 / 256 / 256), h8 (n / 256 / 256 / 256 / 256 / 256 / 256), h8 (n / 256 / 256 / 256 / 256 / 256 / 256 / 256), ?_, ?_⟩
  · simp only [pc_by, Nat.mul_zero, Nat.add_zero]
  · have s0 : pcN 64 (n) = pcN 8 ((n) % 256) + pcN 56 ((n) / 256) := st 56 _
    have s1 : pcN 56 (n / 256) = pcN 8 ((n / 256) % 256) + pcN 48 ((n / 256) / 256) := st 48 _
    have s2 : pcN 48 (n / 256 / 256) = pcN 8 ((n / 256 / 256) % 256) + pcN 40 ((n / 256 / 256) / 256) := st 40 _
    have s3 : pcN 40 (n / 256 / 256 / 256) = pcN 8 ((n / 256 / 256 / 256) % 256) + pcN 32 ((n / 256 / 256 / 256) / 256) := st 32 _
    have s4 : pcN 32 (n / 256 / 256 / 256 / 256) = pcN 8 ((n / 256 / 256 / 256 / 256) % 256) + pcN 24 ((n / 256 / 256 / 256 / 256) / 256) := st 24 _
    have s5 : pcN 24 (n / 256 / 256 / 256 / 256 / 256) = pcN 8 ((n / 256 / 256 / 256 / 256 / 256) % 256) + pcN 16 ((n / 256 / 256 / 256 / 256 / 256) / 256) := st 16 _
    have s6 : pcN 16 (n / 256 / 256 / 256 / 256 / 256 / 256) = pcN 8 ((n / 256 / 256 / 256 / 256 / 256 / 256) % 256) + pcN 8 ((n / 256 / 256 / 256 / 256 / 256 / 256) / 256) := st 8 _
    have s7 : pcN 8 (n / 256 / 256 / 256 / 256 / 256 / 256 / 256) = pcN 8 ((n / 256 / 256 / 256 / 256 / 256 / 256 / 256) % 256) + pcN 0 ((n / 256 / 256 / 256 / 256 / 256 / 256 / 256) / 256) := st 0 _
    have s8 : ∀ m, pcN 0 m = 0 := fun _ => rfl
    have s9 := s8 ((n / 256 / 256 / 256 / 256 / 256 / 256 / 256) / 256)
    omega
end
section
/-! bits of a long -/
def btL (x : Int64) (k : Int) : Prop := x.toBitVec.getLsbD k.toNat = true
theorem btL_ext {x y : Int64} (h : ∀ k : Int, 0 ≤ k → k < 64 → (btL x k ↔ btL y k)) : x = y := by
  apply Int64.toBitVec_inj.mp
  apply BitVec.eq_of_getLsbD_eq
  intro i hi
  have h1 := h (i : Int) (by omega) (by omega)
  unfold btL at h1
  rw [Int.toNat_natCast] at h1
  cases hx : x.toBitVec.getLsbD i <;> cases hy : y.toBitVec.getLsbD i <;> simp [hx, hy] at h1 ⊢
theorem btL_or (x y : Int64) (k : Int) : btL (x ||| y) k ↔ btL x k ∨ btL y k := by
  unfold btL
  rw [Int64.toBitVec_or, BitVec.getLsbD_or, Bool.or_eq_true]
theorem btL_and (x y : Int64) (k : Int) : btL (x &&& y) k ↔ btL x k ∧ btL y k := by
  unfold btL
  rw [Int64.toBitVec_and, BitVec.getLsbD_and, Bool.and_eq_true]
theorem btL_0 (k : Int) : ¬ btL (lI 0) k := by
  unfold btL
  rw [show (lI 0).toBitVec = 0#64 from rfl]
  simp
theorem bt_shl : ∀ a, a < 64 → ∀ k, k < 64 → ((lI (-1)) <<< ((iI ((a : Nat) : Int)).toInt64 &&& 63)).toBitVec.getLsbD k = decide (a ≤ k) := by decide +kernel
theorem bt_shr : ∀ b, b < 64 → ∀ k, k < 64 → (((lI (-1)).toUInt64 >>> ((iI (63 - ((b : Nat) : Int))).toInt64.toUInt64 &&& Int64.toUInt64 63)).toInt64).toBitVec.getLsbD k = decide (k ≤ b) := by decide +kernel
theorem bt_ft {a b : Int} (h0 : 0 ≤ a) (hab : a ≤ b) (hb : b ≤ 63) (k : Int) (k0 : 0 ≤ k) (k1 : k < 64) : btL ((lI (-1)) <<< ((iI a).toInt64 &&& 63) &&& ((lI (-1)).toUInt64 >>> ((iI (63 - b)).toInt64.toUInt64 &&& Int64.toUInt64 63)).toInt64) k ↔ a ≤ k ∧ k ≤ b := by
  rw [btL_and]
  unfold btL
  have e1 := bt_shl a.toNat (by omega) k.toNat (by omega)
  have e2 := bt_shr b.toNat (by omega) k.toNat (by omega)
  rw [Int.toNat_of_nonneg h0] at e1
  rw [Int.toNat_of_nonneg (by omega)] at e2
  rw [e1, e2, decide_eq_true_eq, decide_eq_true_eq]
  omega
end
