section
-- ===== PART A: goes FIRST, ahead of the names: the tables' words, and 'selects' of the private methods out of them =====
/-- a private method of a class that the tables say can be made, by its rows of tables_1 -/
def lw_okq (q : MethodName × Nat) : Prop := (q.1.cls ≠ "java/lang/invoke/MethodHandle" ∧ q.1.cls ≠ "java/lang/invoke/VarHandle") ∧ Cond.instantiable q.1.cls q.2 ∈ tables_1 ∧ Cond.privateMethod q.1 ∈ tables_1 ∧ Cond.instanceMethod q.1 ∈ tables_1
theorem lw_p0 : lw_okq (⟨"GraveOrder", "isGrave", "(I)Z"⟩, 8) := ⟨⟨by decide +kernel, by decide +kernel⟩, List.mem_of_getElem? (i := 13) (by decide +kernel), List.mem_of_getElem? (i := 255) (by decide +kernel), List.mem_of_getElem? (i := 256) (by decide +kernel)⟩
theorem lw_p1 : lw_okq (⟨"GraveOrder", "isPair", "(II)Z"⟩, 8) := ⟨⟨by decide +kernel, by decide +kernel⟩, List.mem_of_getElem? (i := 13) (by decide +kernel), List.mem_of_getElem? (i := 284) (by decide +kernel), List.mem_of_getElem? (i := 285) (by decide +kernel)⟩
theorem lw_p2 : lw_okq (⟨"GraveOrder", "canTellAt", "(I)Z"⟩, 8) := ⟨⟨by decide +kernel, by decide +kernel⟩, List.mem_of_getElem? (i := 13) (by decide +kernel), List.mem_of_getElem? (i := 311) (by decide +kernel), List.mem_of_getElem? (i := 312) (by decide +kernel)⟩
theorem lw_p3 : lw_okq (⟨"GraveOrder", "tellLine", "(I)I"⟩, 8) := ⟨⟨by decide +kernel, by decide +kernel⟩, List.mem_of_getElem? (i := 13) (by decide +kernel), List.mem_of_getElem? (i := 319) (by decide +kernel), List.mem_of_getElem? (i := 320) (by decide +kernel)⟩
theorem lw_p4 : lw_okq (⟨"GraveOrder", "findsChanged", "()V"⟩, 8) := ⟨⟨by decide +kernel, by decide +kernel⟩, List.mem_of_getElem? (i := 13) (by decide +kernel), List.mem_of_getElem? (i := 328) (by decide +kernel), List.mem_of_getElem? (i := 329) (by decide +kernel)⟩
theorem lw_p5 : lw_okq (⟨"GraveOrder", "finding", "(I)I"⟩, 8) := ⟨⟨by decide +kernel, by decide +kernel⟩, List.mem_of_getElem? (i := 13) (by decide +kernel), List.mem_of_getElem? (i := 343) (by decide +kernel), List.mem_of_getElem? (i := 344) (by decide +kernel)⟩
theorem lw_p6 : lw_okq (⟨"GraveOrder", "tellSheet", "(LGraveOrder$Sheet;II)I"⟩, 8) := ⟨⟨by decide +kernel, by decide +kernel⟩, List.mem_of_getElem? (i := 13) (by decide +kernel), List.mem_of_getElem? (i := 347) (by decide +kernel), List.mem_of_getElem? (i := 348) (by decide +kernel)⟩
theorem lw_p7 : lw_okq (⟨"GraveOrder$FirstRow", "gapsAsLaid", "(II)I"⟩, 4) := ⟨⟨by decide +kernel, by decide +kernel⟩, List.mem_of_getElem? (i := 172) (by decide +kernel), List.mem_of_getElem? (i := 371) (by decide +kernel), List.mem_of_getElem? (i := 372) (by decide +kernel)⟩
theorem lw_p8 : lw_okq (⟨"GraveOrder$Orders", "fillSets", "()V"⟩, 16) := ⟨⟨by decide +kernel, by decide +kernel⟩, List.mem_of_getElem? (i := 113) (by decide +kernel), List.mem_of_getElem? (i := 394) (by decide +kernel), List.mem_of_getElem? (i := 395) (by decide +kernel)⟩
theorem lw_p9 : lw_okq (⟨"GraveOrder$Orders", "allGraves", "()I"⟩, 16) := ⟨⟨by decide +kernel, by decide +kernel⟩, List.mem_of_getElem? (i := 113) (by decide +kernel), List.mem_of_getElem? (i := 398) (by decide +kernel), List.mem_of_getElem? (i := 399) (by decide +kernel)⟩
theorem lw_p10 : lw_okq (⟨"GraveOrder$Orders", "fillSteps", "()V"⟩, 16) := ⟨⟨by decide +kernel, by decide +kernel⟩, List.mem_of_getElem? (i := 113) (by decide +kernel), List.mem_of_getElem? (i := 407) (by decide +kernel), List.mem_of_getElem? (i := 408) (by decide +kernel)⟩
theorem lw_p11 : lw_okq (⟨"GraveOrder$Orders", "canFollow", "(II)Z"⟩, 16) := ⟨⟨by decide +kernel, by decide +kernel⟩, List.mem_of_getElem? (i := 113) (by decide +kernel), List.mem_of_getElem? (i := 411) (by decide +kernel), List.mem_of_getElem? (i := 412) (by decide +kernel)⟩
theorem lw_p12 : lw_okq (⟨"GraveOrder$Orders", "gapsAt", "(II)I"⟩, 16) := ⟨⟨by decide +kernel, by decide +kernel⟩, List.mem_of_getElem? (i := 113) (by decide +kernel), List.mem_of_getElem? (i := 415) (by decide +kernel), List.mem_of_getElem? (i := 416) (by decide +kernel)⟩
theorem lw_p13 : lw_okq (⟨"GraveOrder$Orders", "fillAhead", "()V"⟩, 16) := ⟨⟨by decide +kernel, by decide +kernel⟩, List.mem_of_getElem? (i := 113) (by decide +kernel), List.mem_of_getElem? (i := 419) (by decide +kernel), List.mem_of_getElem? (i := 420) (by decide +kernel)⟩
theorem lw_p14 : lw_okq (⟨"GraveOrder$Orders", "fillBehind", "()V"⟩, 16) := ⟨⟨by decide +kernel, by decide +kernel⟩, List.mem_of_getElem? (i := 113) (by decide +kernel), List.mem_of_getElem? (i := 428) (by decide +kernel), List.mem_of_getElem? (i := 429) (by decide +kernel)⟩
theorem lw_p15 : lw_okq (⟨"GraveOrder$Orders", "tryNext", "(II)V"⟩, 16) := ⟨⟨by decide +kernel, by decide +kernel⟩, List.mem_of_getElem? (i := 113) (by decide +kernel), List.mem_of_getElem? (i := 432) (by decide +kernel), List.mem_of_getElem? (i := 433) (by decide +kernel)⟩
def lw_privs_1 : List (MethodName × Nat) := [(⟨"GraveOrder", "isGrave", "(I)Z"⟩, 8), (⟨"GraveOrder", "isPair", "(II)Z"⟩, 8), (⟨"GraveOrder", "canTellAt", "(I)Z"⟩, 8), (⟨"GraveOrder", "tellLine", "(I)I"⟩, 8), (⟨"GraveOrder", "findsChanged", "()V"⟩, 8), (⟨"GraveOrder", "finding", "(I)I"⟩, 8), (⟨"GraveOrder", "tellSheet", "(LGraveOrder$Sheet;II)I"⟩, 8), (⟨"GraveOrder$FirstRow", "gapsAsLaid", "(II)I"⟩, 4), (⟨"GraveOrder$Orders", "fillSets", "()V"⟩, 16), (⟨"GraveOrder$Orders", "allGraves", "()I"⟩, 16), (⟨"GraveOrder$Orders", "fillSteps", "()V"⟩, 16), (⟨"GraveOrder$Orders", "canFollow", "(II)Z"⟩, 16), (⟨"GraveOrder$Orders", "gapsAt", "(II)I"⟩, 16), (⟨"GraveOrder$Orders", "fillAhead", "()V"⟩, 16), (⟨"GraveOrder$Orders", "fillBehind", "()V"⟩, 16), (⟨"GraveOrder$Orders", "tryNext", "(II)V"⟩, 16)]
theorem lw_r1 : ∀ q ∈ lw_privs_1, lw_okq q := List.forall_mem_cons.mpr ⟨lw_p0, List.forall_mem_cons.mpr ⟨lw_p1, List.forall_mem_cons.mpr ⟨lw_p2, List.forall_mem_cons.mpr ⟨lw_p3, List.forall_mem_cons.mpr ⟨lw_p4, List.forall_mem_cons.mpr ⟨lw_p5, List.forall_mem_cons.mpr ⟨lw_p6, List.forall_mem_cons.mpr ⟨lw_p7, List.forall_mem_cons.mpr ⟨lw_p8, List.forall_mem_cons.mpr ⟨lw_p9, List.forall_mem_cons.mpr ⟨lw_p10, List.forall_mem_cons.mpr ⟨lw_p11, List.forall_mem_cons.mpr ⟨lw_p12, List.forall_mem_cons.mpr ⟨lw_p13, List.forall_mem_cons.mpr ⟨lw_p14, List.forall_mem_cons.mpr ⟨lw_p15, fun _ h => absurd h List.not_mem_nil⟩⟩⟩⟩⟩⟩⟩⟩⟩⟩⟩⟩⟩⟩⟩⟩
theorem lw_p16 : lw_okq (⟨"GraveOrder$Orders", "fillRow", "()V"⟩, 16) := ⟨⟨by decide +kernel, by decide +kernel⟩, List.mem_of_getElem? (i := 113) (by decide +kernel), List.mem_of_getElem? (i := 436) (by decide +kernel), List.mem_of_getElem? (i := 437) (by decide +kernel)⟩
theorem lw_p17 : lw_okq (⟨"GraveOrder$Orders", "leastNext", "(I)I"⟩, 16) := ⟨⟨by decide +kernel, by decide +kernel⟩, List.mem_of_getElem? (i := 113) (by decide +kernel), List.mem_of_getElem? (i := 440) (by decide +kernel), List.mem_of_getElem? (i := 441) (by decide +kernel)⟩
theorem lw_p18 : lw_okq (⟨"GraveOrder$Orders", "joinHalves", "(II)V"⟩, 16) := ⟨⟨by decide +kernel, by decide +kernel⟩, List.mem_of_getElem? (i := 113) (by decide +kernel), List.mem_of_getElem? (i := 481) (by decide +kernel), List.mem_of_getElem? (i := 482) (by decide +kernel)⟩
theorem lw_p19 : lw_okq (⟨"GraveOrder$Orders", "searchLeftOut", "()I"⟩, 16) := ⟨⟨by decide +kernel, by decide +kernel⟩, List.mem_of_getElem? (i := 113) (by decide +kernel), List.mem_of_getElem? (i := 520) (by decide +kernel), List.mem_of_getElem? (i := 521) (by decide +kernel)⟩
theorem lw_p20 : lw_okq (⟨"GraveOrder$Orders", "kindsWithGaps", "()I"⟩, 16) := ⟨⟨by decide +kernel, by decide +kernel⟩, List.mem_of_getElem? (i := 113) (by decide +kernel), List.mem_of_getElem? (i := 524) (by decide +kernel), List.mem_of_getElem? (i := 525) (by decide +kernel)⟩
theorem lw_p21 : lw_okq (⟨"GraveOrder$Orders", "reachesAllWithout", "(I)Z"⟩, 16) := ⟨⟨by decide +kernel, by decide +kernel⟩, List.mem_of_getElem? (i := 113) (by decide +kernel), List.mem_of_getElem? (i := 528) (by decide +kernel), List.mem_of_getElem? (i := 529) (by decide +kernel)⟩
theorem lw_p22 : lw_okq (⟨"GraveOrder$FirstRow", "hasAt", "(II)Z"⟩, 4) := ⟨⟨by decide +kernel, by decide +kernel⟩, List.mem_of_getElem? (i := 172) (by decide +kernel), List.mem_of_getElem? (i := 540) (by decide +kernel), List.mem_of_getElem? (i := 541) (by decide +kernel)⟩
theorem lw_p23 : lw_okq (⟨"GraveOrder$FirstRow", "mendingFrom", "(III)I"⟩, 4) := ⟨⟨by decide +kernel, by decide +kernel⟩, List.mem_of_getElem? (i := 172) (by decide +kernel), List.mem_of_getElem? (i := 544) (by decide +kernel), List.mem_of_getElem? (i := 545) (by decide +kernel)⟩
theorem lw_p24 : lw_okq (⟨"GraveOrder$FirstRow", "robbedAt", "(I)Z"⟩, 4) := ⟨⟨by decide +kernel, by decide +kernel⟩, List.mem_of_getElem? (i := 172) (by decide +kernel), List.mem_of_getElem? (i := 549) (by decide +kernel), List.mem_of_getElem? (i := 550) (by decide +kernel)⟩
theorem lw_p25 : lw_okq (⟨"GraveOrder$FirstRow", "isCutAhead", "(II)Z"⟩, 4) := ⟨⟨by decide +kernel, by decide +kernel⟩, List.mem_of_getElem? (i := 172) (by decide +kernel), List.mem_of_getElem? (i := 568) (by decide +kernel), List.mem_of_getElem? (i := 569) (by decide +kernel)⟩
theorem lw_p26 : lw_okq (⟨"GraveOrder$FirstRow", "placeOf", "(I)I"⟩, 4) := ⟨⟨by decide +kernel, by decide +kernel⟩, List.mem_of_getElem? (i := 172) (by decide +kernel), List.mem_of_getElem? (i := 581) (by decide +kernel), List.mem_of_getElem? (i := 582) (by decide +kernel)⟩
theorem lw_p27 : lw_okq (⟨"GraveOrder$FirstRow", "gapsWith", "(II)I"⟩, 4) := ⟨⟨by decide +kernel, by decide +kernel⟩, List.mem_of_getElem? (i := 172) (by decide +kernel), List.mem_of_getElem? (i := 607) (by decide +kernel), List.mem_of_getElem? (i := 608) (by decide +kernel)⟩
theorem lw_p28 : lw_okq (⟨"GraveOrder", "digestOfGraves", "(J)J"⟩, 8) := ⟨⟨by decide +kernel, by decide +kernel⟩, List.mem_of_getElem? (i := 13) (by decide +kernel), List.mem_of_getElem? (i := 698) (by decide +kernel), List.mem_of_getElem? (i := 699) (by decide +kernel)⟩
theorem lw_p29 : lw_okq (⟨"GraveOrder", "digestOfOrders", "(J)J"⟩, 8) := ⟨⟨by decide +kernel, by decide +kernel⟩, List.mem_of_getElem? (i := 13) (by decide +kernel), List.mem_of_getElem? (i := 707) (by decide +kernel), List.mem_of_getElem? (i := 708) (by decide +kernel)⟩
theorem lw_p30 : lw_okq (⟨"GraveOrderModel", "isGrave", "(I)Z"⟩, 40) := ⟨⟨by decide +kernel, by decide +kernel⟩, List.mem_of_getElem? (i := 717) (by decide +kernel), List.mem_of_getElem? (i := 855) (by decide +kernel), List.mem_of_getElem? (i := 856) (by decide +kernel)⟩
theorem lw_p31 : lw_okq (⟨"GraveOrderModel", "faultNow", "()I"⟩, 40) := ⟨⟨by decide +kernel, by decide +kernel⟩, List.mem_of_getElem? (i := 717) (by decide +kernel), List.mem_of_getElem? (i := 882) (by decide +kernel), List.mem_of_getElem? (i := 883) (by decide +kernel)⟩
def lw_privs_2 : List (MethodName × Nat) := [(⟨"GraveOrder$Orders", "fillRow", "()V"⟩, 16), (⟨"GraveOrder$Orders", "leastNext", "(I)I"⟩, 16), (⟨"GraveOrder$Orders", "joinHalves", "(II)V"⟩, 16), (⟨"GraveOrder$Orders", "searchLeftOut", "()I"⟩, 16), (⟨"GraveOrder$Orders", "kindsWithGaps", "()I"⟩, 16), (⟨"GraveOrder$Orders", "reachesAllWithout", "(I)Z"⟩, 16), (⟨"GraveOrder$FirstRow", "hasAt", "(II)Z"⟩, 4), (⟨"GraveOrder$FirstRow", "mendingFrom", "(III)I"⟩, 4), (⟨"GraveOrder$FirstRow", "robbedAt", "(I)Z"⟩, 4), (⟨"GraveOrder$FirstRow", "isCutAhead", "(II)Z"⟩, 4), (⟨"GraveOrder$FirstRow", "placeOf", "(I)I"⟩, 4), (⟨"GraveOrder$FirstRow", "gapsWith", "(II)I"⟩, 4), (⟨"GraveOrder", "digestOfGraves", "(J)J"⟩, 8), (⟨"GraveOrder", "digestOfOrders", "(J)J"⟩, 8), (⟨"GraveOrderModel", "isGrave", "(I)Z"⟩, 40), (⟨"GraveOrderModel", "faultNow", "()I"⟩, 40)]
theorem lw_r2 : ∀ q ∈ lw_privs_2, lw_okq q := List.forall_mem_cons.mpr ⟨lw_p16, List.forall_mem_cons.mpr ⟨lw_p17, List.forall_mem_cons.mpr ⟨lw_p18, List.forall_mem_cons.mpr ⟨lw_p19, List.forall_mem_cons.mpr ⟨lw_p20, List.forall_mem_cons.mpr ⟨lw_p21, List.forall_mem_cons.mpr ⟨lw_p22, List.forall_mem_cons.mpr ⟨lw_p23, List.forall_mem_cons.mpr ⟨lw_p24, List.forall_mem_cons.mpr ⟨lw_p25, List.forall_mem_cons.mpr ⟨lw_p26, List.forall_mem_cons.mpr ⟨lw_p27, List.forall_mem_cons.mpr ⟨lw_p28, List.forall_mem_cons.mpr ⟨lw_p29, List.forall_mem_cons.mpr ⟨lw_p30, List.forall_mem_cons.mpr ⟨lw_p31, fun _ h => absurd h List.not_mem_nil⟩⟩⟩⟩⟩⟩⟩⟩⟩⟩⟩⟩⟩⟩⟩⟩
theorem lw_p32 : lw_okq (⟨"GraveOrderModel", "byteAt", "(I)I"⟩, 40) := ⟨⟨by decide +kernel, by decide +kernel⟩, List.mem_of_getElem? (i := 717) (by decide +kernel), List.mem_of_getElem? (i := 886) (by decide +kernel), List.mem_of_getElem? (i := 887) (by decide +kernel)⟩
theorem lw_p33 : lw_okq (⟨"GraveOrderModel", "lastTime", "()I"⟩, 40) := ⟨⟨by decide +kernel, by decide +kernel⟩, List.mem_of_getElem? (i := 717) (by decide +kernel), List.mem_of_getElem? (i := 894) (by decide +kernel), List.mem_of_getElem? (i := 895) (by decide +kernel)⟩
theorem lw_p34 : lw_okq (⟨"GraveOrderModel", "tells", "(IIII)V"⟩, 40) := ⟨⟨by decide +kernel, by decide +kernel⟩, List.mem_of_getElem? (i := 717) (by decide +kernel), List.mem_of_getElem? (i := 898) (by decide +kernel), List.mem_of_getElem? (i := 899) (by decide +kernel)⟩
theorem lw_p35 : lw_okq (⟨"GraveOrderModel", "meets", "(I)I"⟩, 40) := ⟨⟨by decide +kernel, by decide +kernel⟩, List.mem_of_getElem? (i := 717) (by decide +kernel), List.mem_of_getElem? (i := 909) (by decide +kernel), List.mem_of_getElem? (i := 910) (by decide +kernel)⟩
theorem lw_p36 : lw_okq (⟨"GraveOrderModel", "lays", "()V"⟩, 40) := ⟨⟨by decide +kernel, by decide +kernel⟩, List.mem_of_getElem? (i := 717) (by decide +kernel), List.mem_of_getElem? (i := 921) (by decide +kernel), List.mem_of_getElem? (i := 922) (by decide +kernel)⟩
theorem lw_p37 : lw_okq (⟨"GraveOrderModel", "gapsNow", "()I"⟩, 40) := ⟨⟨by decide +kernel, by decide +kernel⟩, List.mem_of_getElem? (i := 717) (by decide +kernel), List.mem_of_getElem? (i := 932) (by decide +kernel), List.mem_of_getElem? (i := 933) (by decide +kernel)⟩
theorem lw_p38 : lw_okq (⟨"GraveOrderModel", "gapsOf", "(I)I"⟩, 40) := ⟨⟨by decide +kernel, by decide +kernel⟩, List.mem_of_getElem? (i := 717) (by decide +kernel), List.mem_of_getElem? (i := 936) (by decide +kernel), List.mem_of_getElem? (i := 937) (by decide +kernel)⟩
theorem lw_p39 : lw_okq (⟨"GraveOrderModel", "canBe", "()Z"⟩, 40) := ⟨⟨by decide +kernel, by decide +kernel⟩, List.mem_of_getElem? (i := 717) (by decide +kernel), List.mem_of_getElem? (i := 940) (by decide +kernel), List.mem_of_getElem? (i := 941) (by decide +kernel)⟩
theorem lw_p40 : lw_okq (⟨"GraveOrderModel", "bestNow", "(I)I"⟩, 40) := ⟨⟨by decide +kernel, by decide +kernel⟩, List.mem_of_getElem? (i := 717) (by decide +kernel), List.mem_of_getElem? (i := 948) (by decide +kernel), List.mem_of_getElem? (i := 949) (by decide +kernel)⟩
theorem lw_p41 : lw_okq (⟨"GraveOrderModel", "areAny", "()Z"⟩, 40) := ⟨⟨by decide +kernel, by decide +kernel⟩, List.mem_of_getElem? (i := 717) (by decide +kernel), List.mem_of_getElem? (i := 952) (by decide +kernel), List.mem_of_getElem? (i := 953) (by decide +kernel)⟩
theorem lw_p42 : lw_okq (⟨"GraveOrderModel", "works", "()V"⟩, 40) := ⟨⟨by decide +kernel, by decide +kernel⟩, List.mem_of_getElem? (i := 717) (by decide +kernel), List.mem_of_getElem? (i := 956) (by decide +kernel), List.mem_of_getElem? (i := 957) (by decide +kernel)⟩
theorem lw_p43 : lw_okq (⟨"GraveOrderModel", "plain", "()V"⟩, 40) := ⟨⟨by decide +kernel, by decide +kernel⟩, List.mem_of_getElem? (i := 717) (by decide +kernel), List.mem_of_getElem? (i := 961) (by decide +kernel), List.mem_of_getElem? (i := 962) (by decide +kernel)⟩
theorem lw_p44 : lw_okq (⟨"GraveOrderModel", "counts", "()V"⟩, 40) := ⟨⟨by decide +kernel, by decide +kernel⟩, List.mem_of_getElem? (i := 717) (by decide +kernel), List.mem_of_getElem? (i := 965) (by decide +kernel), List.mem_of_getElem? (i := 966) (by decide +kernel)⟩
theorem lw_p45 : lw_okq (⟨"GraveOrderModel", "turns", "()Z"⟩, 40) := ⟨⟨by decide +kernel, by decide +kernel⟩, List.mem_of_getElem? (i := 717) (by decide +kernel), List.mem_of_getElem? (i := 972) (by decide +kernel), List.mem_of_getElem? (i := 973) (by decide +kernel)⟩
theorem lw_p46 : lw_okq (⟨"GraveOrderModel", "turnedNow", "()I"⟩, 40) := ⟨⟨by decide +kernel, by decide +kernel⟩, List.mem_of_getElem? (i := 717) (by decide +kernel), List.mem_of_getElem? (i := 976) (by decide +kernel), List.mem_of_getElem? (i := 977) (by decide +kernel)⟩
theorem lw_p47 : lw_okq (⟨"GraveOrderModel", "firstNow", "(I)I"⟩, 40) := ⟨⟨by decide +kernel, by decide +kernel⟩, List.mem_of_getElem? (i := 717) (by decide +kernel), List.mem_of_getElem? (i := 984) (by decide +kernel), List.mem_of_getElem? (i := 985) (by decide +kernel)⟩
def lw_privs_3 : List (MethodName × Nat) := [(⟨"GraveOrderModel", "byteAt", "(I)I"⟩, 40), (⟨"GraveOrderModel", "lastTime", "()I"⟩, 40), (⟨"GraveOrderModel", "tells", "(IIII)V"⟩, 40), (⟨"GraveOrderModel", "meets", "(I)I"⟩, 40), (⟨"GraveOrderModel", "lays", "()V"⟩, 40), (⟨"GraveOrderModel", "gapsNow", "()I"⟩, 40), (⟨"GraveOrderModel", "gapsOf", "(I)I"⟩, 40), (⟨"GraveOrderModel", "canBe", "()Z"⟩, 40), (⟨"GraveOrderModel", "bestNow", "(I)I"⟩, 40), (⟨"GraveOrderModel", "areAny", "()Z"⟩, 40), (⟨"GraveOrderModel", "works", "()V"⟩, 40), (⟨"GraveOrderModel", "plain", "()V"⟩, 40), (⟨"GraveOrderModel", "counts", "()V"⟩, 40), (⟨"GraveOrderModel", "turns", "()Z"⟩, 40), (⟨"GraveOrderModel", "turnedNow", "()I"⟩, 40), (⟨"GraveOrderModel", "firstNow", "(I)I"⟩, 40)]
theorem lw_r3 : ∀ q ∈ lw_privs_3, lw_okq q := List.forall_mem_cons.mpr ⟨lw_p32, List.forall_mem_cons.mpr ⟨lw_p33, List.forall_mem_cons.mpr ⟨lw_p34, List.forall_mem_cons.mpr ⟨lw_p35, List.forall_mem_cons.mpr ⟨lw_p36, List.forall_mem_cons.mpr ⟨lw_p37, List.forall_mem_cons.mpr ⟨lw_p38, List.forall_mem_cons.mpr ⟨lw_p39, List.forall_mem_cons.mpr ⟨lw_p40, List.forall_mem_cons.mpr ⟨lw_p41, List.forall_mem_cons.mpr ⟨lw_p42, List.forall_mem_cons.mpr ⟨lw_p43, List.forall_mem_cons.mpr ⟨lw_p44, List.forall_mem_cons.mpr ⟨lw_p45, List.forall_mem_cons.mpr ⟨lw_p46, List.forall_mem_cons.mpr ⟨lw_p47, fun _ h => absurd h List.not_mem_nil⟩⟩⟩⟩⟩⟩⟩⟩⟩⟩⟩⟩⟩⟩⟩⟩
theorem lw_p48 : lw_okq (⟨"GraveOrderModel", "placesNow", "(I)I"⟩, 40) := ⟨⟨by decide +kernel, by decide +kernel⟩, List.mem_of_getElem? (i := 717) (by decide +kernel), List.mem_of_getElem? (i := 996) (by decide +kernel), List.mem_of_getElem? (i := 997) (by decide +kernel)⟩
theorem lw_p49 : lw_okq (⟨"GraveOrderModel", "spreadNow", "(II)I"⟩, 40) := ⟨⟨by decide +kernel, by decide +kernel⟩, List.mem_of_getElem? (i := 717) (by decide +kernel), List.mem_of_getElem? (i := 1004) (by decide +kernel), List.mem_of_getElem? (i := 1005) (by decide +kernel)⟩
theorem lw_p50 : lw_okq (⟨"GraveOrderModel", "meanNow", "(I)J"⟩, 40) := ⟨⟨by decide +kernel, by decide +kernel⟩, List.mem_of_getElem? (i := 717) (by decide +kernel), List.mem_of_getElem? (i := 1012) (by decide +kernel), List.mem_of_getElem? (i := 1013) (by decide +kernel)⟩
theorem lw_p51 : lw_okq (⟨"GraveOrderModel", "leftNow", "()I"⟩, 40) := ⟨⟨by decide +kernel, by decide +kernel⟩, List.mem_of_getElem? (i := 717) (by decide +kernel), List.mem_of_getElem? (i := 1027) (by decide +kernel), List.mem_of_getElem? (i := 1028) (by decide +kernel)⟩
theorem lw_p52 : lw_okq (⟨"GraveOrderModel", "mendedNow", "(I)I"⟩, 40) := ⟨⟨by decide +kernel, by decide +kernel⟩, List.mem_of_getElem? (i := 717) (by decide +kernel), List.mem_of_getElem? (i := 1035) (by decide +kernel), List.mem_of_getElem? (i := 1036) (by decide +kernel)⟩
theorem lw_p53 : lw_okq (⟨"GraveOrderModel", "phasesNow", "(II)I"⟩, 40) := ⟨⟨by decide +kernel, by decide +kernel⟩, List.mem_of_getElem? (i := 717) (by decide +kernel), List.mem_of_getElem? (i := 1043) (by decide +kernel), List.mem_of_getElem? (i := 1044) (by decide +kernel)⟩
theorem lw_p54 : lw_okq (⟨"GraveOrderModel", "straddles", "()I"⟩, 40) := ⟨⟨by decide +kernel, by decide +kernel⟩, List.mem_of_getElem? (i := 717) (by decide +kernel), List.mem_of_getElem? (i := 1047) (by decide +kernel), List.mem_of_getElem? (i := 1048) (by decide +kernel)⟩
theorem lw_p55 : lw_okq (⟨"GraveOrderModel", "isEarlier", "()Z"⟩, 40) := ⟨⟨by decide +kernel, by decide +kernel⟩, List.mem_of_getElem? (i := 717) (by decide +kernel), List.mem_of_getElem? (i := 1051) (by decide +kernel), List.mem_of_getElem? (i := 1052) (by decide +kernel)⟩
theorem lw_p56 : lw_okq (⟨"GraveOrderModel", "graveYear", "(II)I"⟩, 40) := ⟨⟨by decide +kernel, by decide +kernel⟩, List.mem_of_getElem? (i := 717) (by decide +kernel), List.mem_of_getElem? (i := 1059) (by decide +kernel), List.mem_of_getElem? (i := 1060) (by decide +kernel)⟩
theorem lw_p57 : lw_okq (⟨"GraveOrderModel", "yearOf", "(II)I"⟩, 40) := ⟨⟨by decide +kernel, by decide +kernel⟩, List.mem_of_getElem? (i := 717) (by decide +kernel), List.mem_of_getElem? (i := 1063) (by decide +kernel), List.mem_of_getElem? (i := 1064) (by decide +kernel)⟩
theorem lw_p58 : lw_okq (⟨"GraveOrderModel", "gapsWith", "(IIZ)I"⟩, 40) := ⟨⟨by decide +kernel, by decide +kernel⟩, List.mem_of_getElem? (i := 717) (by decide +kernel), List.mem_of_getElem? (i := 1071) (by decide +kernel), List.mem_of_getElem? (i := 1072) (by decide +kernel)⟩
theorem lw_p59 : lw_okq (⟨"GraveOrderModel", "weightOf", "(I)I"⟩, 40) := ⟨⟨by decide +kernel, by decide +kernel⟩, List.mem_of_getElem? (i := 717) (by decide +kernel), List.mem_of_getElem? (i := 1079) (by decide +kernel), List.mem_of_getElem? (i := 1080) (by decide +kernel)⟩
theorem lw_p60 : lw_okq (⟨"GraveOrderModel", "nearestNow", "(I)I"⟩, 40) := ⟨⟨by decide +kernel, by decide +kernel⟩, List.mem_of_getElem? (i := 717) (by decide +kernel), List.mem_of_getElem? (i := 1087) (by decide +kernel), List.mem_of_getElem? (i := 1088) (by decide +kernel)⟩
theorem lw_p61 : lw_okq (⟨"GraveOrderModel", "lacks", "(III)I"⟩, 40) := ⟨⟨by decide +kernel, by decide +kernel⟩, List.mem_of_getElem? (i := 717) (by decide +kernel), List.mem_of_getElem? (i := 1103) (by decide +kernel), List.mem_of_getElem? (i := 1104) (by decide +kernel)⟩
theorem lw_p62 : lw_okq (⟨"GraveOrderModel", "keep", "(III)V"⟩, 40) := ⟨⟨by decide +kernel, by decide +kernel⟩, List.mem_of_getElem? (i := 717) (by decide +kernel), List.mem_of_getElem? (i := 1107) (by decide +kernel), List.mem_of_getElem? (i := 1108) (by decide +kernel)⟩
theorem lw_p63 : lw_okq (⟨"GraveOrderModel", "countNow", "(I)I"⟩, 40) := ⟨⟨by decide +kernel, by decide +kernel⟩, List.mem_of_getElem? (i := 717) (by decide +kernel), List.mem_of_getElem? (i := 1128) (by decide +kernel), List.mem_of_getElem? (i := 1129) (by decide +kernel)⟩
def lw_privs_4 : List (MethodName × Nat) := [(⟨"GraveOrderModel", "placesNow", "(I)I"⟩, 40), (⟨"GraveOrderModel", "spreadNow", "(II)I"⟩, 40), (⟨"GraveOrderModel", "meanNow", "(I)J"⟩, 40), (⟨"GraveOrderModel", "leftNow", "()I"⟩, 40), (⟨"GraveOrderModel", "mendedNow", "(I)I"⟩, 40), (⟨"GraveOrderModel", "phasesNow", "(II)I"⟩, 40), (⟨"GraveOrderModel", "straddles", "()I"⟩, 40), (⟨"GraveOrderModel", "isEarlier", "()Z"⟩, 40), (⟨"GraveOrderModel", "graveYear", "(II)I"⟩, 40), (⟨"GraveOrderModel", "yearOf", "(II)I"⟩, 40), (⟨"GraveOrderModel", "gapsWith", "(IIZ)I"⟩, 40), (⟨"GraveOrderModel", "weightOf", "(I)I"⟩, 40), (⟨"GraveOrderModel", "nearestNow", "(I)I"⟩, 40), (⟨"GraveOrderModel", "lacks", "(III)I"⟩, 40), (⟨"GraveOrderModel", "keep", "(III)V"⟩, 40), (⟨"GraveOrderModel", "countNow", "(I)I"⟩, 40)]
theorem lw_r4 : ∀ q ∈ lw_privs_4, lw_okq q := List.forall_mem_cons.mpr ⟨lw_p48, List.forall_mem_cons.mpr ⟨lw_p49, List.forall_mem_cons.mpr ⟨lw_p50, List.forall_mem_cons.mpr ⟨lw_p51, List.forall_mem_cons.mpr ⟨lw_p52, List.forall_mem_cons.mpr ⟨lw_p53, List.forall_mem_cons.mpr ⟨lw_p54, List.forall_mem_cons.mpr ⟨lw_p55, List.forall_mem_cons.mpr ⟨lw_p56, List.forall_mem_cons.mpr ⟨lw_p57, List.forall_mem_cons.mpr ⟨lw_p58, List.forall_mem_cons.mpr ⟨lw_p59, List.forall_mem_cons.mpr ⟨lw_p60, List.forall_mem_cons.mpr ⟨lw_p61, List.forall_mem_cons.mpr ⟨lw_p62, List.forall_mem_cons.mpr ⟨lw_p63, fun _ h => absurd h List.not_mem_nil⟩⟩⟩⟩⟩⟩⟩⟩⟩⟩⟩⟩⟩⟩⟩⟩
def lw_privs : List (MethodName × Nat) := lw_privs_1 ++ (lw_privs_2 ++ (lw_privs_3 ++ (lw_privs_4)))
def lw_tbl : List Cond := k2_sels lw_privs ++ tables_1
theorem lw_privs_ok : ∀ q ∈ lw_privs, lw_okq q := by
  show ∀ q ∈ lw_privs_1 ++ (lw_privs_2 ++ (lw_privs_3 ++ (lw_privs_4))), lw_okq q
  exact List.forall_mem_append.mpr ⟨lw_r1, List.forall_mem_append.mpr ⟨lw_r2, List.forall_mem_append.mpr ⟨lw_r3, lw_r4⟩⟩⟩
-- ===== end of PART A; then your names; then what follows =====
end
section
def RX0 : String := "GraveOrder$Finds"
def TX0 : u_T := fun k => match k with
  | 0 => ("GraveOrder$Finds", "times", "[I", true)
  | 1 => ("GraveOrder$Finds", "graves", "[I", true)
  | 2 => ("GraveOrder$Finds", "kinds", "[I", true)
  | 3 => ("GraveOrder$Finds", "there", "[Z", true)
  | _ => ("GraveOrder$Finds", "size", "I", false)
def tyX0 : Nat → FieldType := fun k => match k with
  | 0 => .array .int
  | 1 => .array .int
  | 2 => .array .int
  | 3 => .array .boolean
  | _ => .int
theorem nmX0 : ∀ a, a < 5 → ∀ b, b < 5 → a ≠ b → (TX0 a).2.1 ≠ (TX0 b).2.1 := by decide +kernel
theorem tyX0_ok : ∀ k, k < 5 → parseFieldDescriptor (TX0 k).2.2.1 = some (tyX0 k) := by decide +kernel
abbrev cX0_init : ByteArray := prog_2_method_1_code
def yX0_init : MethodName := ⟨RX0, "<init>", "()V"⟩
abbrev cX0_timeBefore : ByteArray := prog_2_method_2_code
def yX0_timeBefore : MethodName := ⟨RX0, "timeBefore", "()I"⟩
abbrev cX0_keep : ByteArray := prog_2_method_3_code
def yX0_keep : MethodName := ⟨RX0, "keep", "(IIIZ)Z"⟩
abbrev cX0_layInto : ByteArray := prog_2_method_4_code
def yX0_layInto : MethodName := ⟨RX0, "layInto", "([II)V"⟩
def RX1 : String := "GraveOrder$FirstRow"
def TX1 : u_T := fun k => match k with
  | 0 => ("GraveOrder$FirstRow", "yard", "LGraveOrder$Yard;", true)
  | 1 => ("GraveOrder$FirstRow", "row", "[I", true)
  | 2 => ("GraveOrder$FirstRow", "turned", "[I", true)
  | _ => ("GraveOrder$FirstRow", "laid", "[I", true)
def tyX1 : Nat → FieldType := fun k => match k with
  | 0 => .object "GraveOrder$Yard"
  | 1 => .array .int
  | 2 => .array .int
  | _ => .array .int
theorem nmX1 : ∀ a, a < 4 → ∀ b, b < 4 → a ≠ b → (TX1 a).2.1 ≠ (TX1 b).2.1 := by decide +kernel
theorem tyX1_ok : ∀ k, k < 4 → parseFieldDescriptor (TX1 k).2.2.1 = some (tyX1 k) := by decide +kernel
abbrev cX1_init : ByteArray := prog_3_method_1_code
def yX1_init : MethodName := ⟨RX1, "<init>", "(LGraveOrder$Yard;[I)V"⟩
abbrev cX1_hasAt : ByteArray := prog_3_method_2_code
def yX1_hasAt : MethodName := ⟨RX1, "hasAt", "(II)Z"⟩
abbrev cX1_robbedAt : ByteArray := prog_3_method_3_code
def yX1_robbedAt : MethodName := ⟨RX1, "robbedAt", "(I)Z"⟩
abbrev cX1_placeOf : ByteArray := prog_3_method_4_code
def yX1_placeOf : MethodName := ⟨RX1, "placeOf", "(I)I"⟩
abbrev cX1_turnedCanBe : ByteArray := prog_3_method_5_code
def yX1_turnedCanBe : MethodName := ⟨RX1, "turnedCanBe", "()Z"⟩
abbrev cX1_gapsOfOrder : ByteArray := prog_3_method_6_code
def yX1_gapsOfOrder : MethodName := ⟨RX1, "gapsOfOrder", "([I)I"⟩
abbrev cX1_gapsAsLaid : ByteArray := prog_3_method_7_code
def yX1_gapsAsLaid : MethodName := ⟨RX1, "gapsAsLaid", "(II)I"⟩
abbrev cX1_gapsWith : ByteArray := prog_3_method_8_code
def yX1_gapsWith : MethodName := ⟨RX1, "gapsWith", "(II)I"⟩
abbrev cX1_fewestGapsWith : ByteArray := prog_3_method_9_code
def yX1_fewestGapsWith : MethodName := ⟨RX1, "fewestGapsWith", "(I)I"⟩
abbrev cX1_placesWith : ByteArray := prog_3_method_10_code
def yX1_placesWith : MethodName := ⟨RX1, "placesWith", "(II)I"⟩
abbrev cX1_mending : ByteArray := prog_3_method_11_code
def yX1_mending : MethodName := ⟨RX1, "mending", "(I)I"⟩
abbrev cX1_mendingFrom : ByteArray := prog_3_method_12_code
def yX1_mendingFrom : MethodName := ⟨RX1, "mendingFrom", "(III)I"⟩
abbrev cX1_bestCuts : ByteArray := prog_3_method_13_code
def yX1_bestCuts : MethodName := ⟨RX1, "bestCuts", "(I)I"⟩
abbrev cX1_isCutAhead : ByteArray := prog_3_method_14_code
def yX1_isCutAhead : MethodName := ⟨RX1, "isCutAhead", "(II)Z"⟩
abbrev cX1_straddles : ByteArray := prog_3_method_15_code
def yX1_straddles : MethodName := ⟨RX1, "straddles", "(I)I"⟩
abbrev cX1_partOf : ByteArray := prog_3_method_16_code
def yX1_partOf : MethodName := ⟨RX1, "partOf", "(II)I"⟩
abbrev cX1_yearOfGrave : ByteArray := prog_3_method_17_code
def yX1_yearOfGrave : MethodName := ⟨RX1, "yearOfGrave", "(II)I"⟩
abbrev cX1_yearOfKind : ByteArray := prog_3_method_18_code
def yX1_yearOfKind : MethodName := ⟨RX1, "yearOfKind", "(II)I"⟩
def RX2 : String := "GraveOrder$Line"
def TX2 : u_T := fun k => match k with
  | 0 => ("GraveOrder$Line", "bytes", "[I", true)
  | _ => ("GraveOrder$Line", "length", "I", false)
def tyX2 : Nat → FieldType := fun k => match k with
  | 0 => .array .int
  | _ => .int
theorem nmX2 : ∀ a, a < 2 → ∀ b, b < 2 → a ≠ b → (TX2 a).2.1 ≠ (TX2 b).2.1 := by decide +kernel
theorem tyX2_ok : ∀ k, k < 2 → parseFieldDescriptor (TX2 k).2.2.1 = some (tyX2 k) := by decide +kernel
abbrev cX2_init : ByteArray := prog_4_method_1_code
def yX2_init : MethodName := ⟨RX2, "<init>", "()V"⟩
abbrev cX2_follow : ByteArray := prog_4_method_2_code
def yX2_follow : MethodName := ⟨RX2, "follow", "(III)I"⟩
abbrev cX2_firstFault : ByteArray := prog_4_method_3_code
def yX2_firstFault : MethodName := ⟨RX2, "firstFault", "(I)I"⟩
def RX3 : String := "GraveOrder$Orders"
def TX3 : u_T := fun k => match k with
  | 0 => ("GraveOrder$Orders", "yard", "LGraveOrder$Yard;", true)
  | 1 => ("GraveOrder$Orders", "seen", "[I", true)
  | 2 => ("GraveOrder$Orders", "year", "[I", true)
  | 3 => ("GraveOrder$Orders", "steps", "[I", true)
  | 4 => ("GraveOrder$Orders", "ahead", "[I", true)
  | 5 => ("GraveOrder$Orders", "behind", "[I", true)
  | 6 => ("GraveOrder$Orders", "ways", "[I", true)
  | 7 => ("GraveOrder$Orders", "row", "[I", true)
  | 8 => ("GraveOrder$Orders", "withGapsRow", "[I", true)
  | 9 => ("GraveOrder$Orders", "firstHalf", "[I", true)
  | 10 => ("GraveOrder$Orders", "secondHalf", "[I", true)
  | 11 => ("GraveOrder$Orders", "reached", "[Z", true)
  | 12 => ("GraveOrder$Orders", "stale", "Z", false)
  | 13 => ("GraveOrder$Orders", "spreadStale", "Z", false)
  | 14 => ("GraveOrder$Orders", "leftOutStale", "Z", false)
  | _ => ("GraveOrder$Orders", "leftOutBits", "I", false)
def tyX3 : Nat → FieldType := fun k => match k with
  | 0 => .object "GraveOrder$Yard"
  | 1 => .array .int
  | 2 => .array .int
  | 3 => .array .int
  | 4 => .array .int
  | 5 => .array .int
  | 6 => .array .int
  | 7 => .array .int
  | 8 => .array .int
  | 9 => .array .int
  | 10 => .array .int
  | 11 => .array .boolean
  | 12 => .boolean
  | 13 => .boolean
  | 14 => .boolean
  | _ => .int
theorem nmX3 : ∀ a, a < 16 → ∀ b, b < 16 → a ≠ b → (TX3 a).2.1 ≠ (TX3 b).2.1 := by decide +kernel
theorem tyX3_ok : ∀ k, k < 16 → parseFieldDescriptor (TX3 k).2.2.1 = some (tyX3 k) := by decide +kernel
abbrev cX3_init : ByteArray := prog_5_method_1_code
def yX3_init : MethodName := ⟨RX3, "<init>", "(LGraveOrder$Yard;)V"⟩
abbrev cX3_settle : ByteArray := prog_5_method_2_code
def yX3_settle : MethodName := ⟨RX3, "settle", "()Z"⟩
abbrev cX3_allGraves : ByteArray := prog_5_method_3_code
def yX3_allGraves : MethodName := ⟨RX3, "allGraves", "()I"⟩
abbrev cX3_fillSets : ByteArray := prog_5_method_4_code
def yX3_fillSets : MethodName := ⟨RX3, "fillSets", "()V"⟩
abbrev cX3_fillSteps : ByteArray := prog_5_method_5_code
def yX3_fillSteps : MethodName := ⟨RX3, "fillSteps", "()V"⟩
abbrev cX3_canFollow : ByteArray := prog_5_method_6_code
def yX3_canFollow : MethodName := ⟨RX3, "canFollow", "(II)Z"⟩
abbrev cX3_gapsAt : ByteArray := prog_5_method_7_code
def yX3_gapsAt : MethodName := ⟨RX3, "gapsAt", "(II)I"⟩
abbrev cX3_fillAhead : ByteArray := prog_5_method_8_code
def yX3_fillAhead : MethodName := ⟨RX3, "fillAhead", "()V"⟩
abbrev cX3_fillBehind : ByteArray := prog_5_method_9_code
def yX3_fillBehind : MethodName := ⟨RX3, "fillBehind", "()V"⟩
abbrev cX3_tryNext : ByteArray := prog_5_method_10_code
def yX3_tryNext : MethodName := ⟨RX3, "tryNext", "(II)V"⟩
abbrev cX3_fillRow : ByteArray := prog_5_method_11_code
def yX3_fillRow : MethodName := ⟨RX3, "fillRow", "()V"⟩
abbrev cX3_leastNext : ByteArray := prog_5_method_12_code
def yX3_leastNext : MethodName := ⟨RX3, "leastNext", "(I)I"⟩
abbrev cX3_alwaysAhead : ByteArray := prog_5_method_13_code
def yX3_alwaysAhead : MethodName := ⟨RX3, "alwaysAhead", "(II)Z"⟩
abbrev cX3_placesInBest : ByteArray := prog_5_method_14_code
def yX3_placesInBest : MethodName := ⟨RX3, "placesInBest", "(I)I"⟩
abbrev cX3_settleSpread : ByteArray := prog_5_method_15_code
def yX3_settleSpread : MethodName := ⟨RX3, "settleSpread", "()V"⟩
abbrev cX3_gather : ByteArray := prog_5_method_16_code
def yX3_gather : MethodName := ⟨RX3, "gather", "(LGraveOrder$Orders;III[II)I"⟩
abbrev cX3_joinHalves : ByteArray := prog_5_method_17_code
def yX3_joinHalves : MethodName := ⟨RX3, "joinHalves", "(II)V"⟩
abbrev cX3_withGaps : ByteArray := prog_5_method_18_code
def yX3_withGaps : MethodName := ⟨RX3, "withGaps", "(I)I"⟩
abbrev cX3_withGapsUpTo : ByteArray := prog_5_method_19_code
def yX3_withGapsUpTo : MethodName := ⟨RX3, "withGapsUpTo", "(I)I"⟩
abbrev cX3_gapsOfAll : ByteArray := prog_5_method_20_code
def yX3_gapsOfAll : MethodName := ⟨RX3, "gapsOfAll", "()I"⟩
abbrev cX3_fewestLeftOut : ByteArray := prog_5_method_21_code
def yX3_fewestLeftOut : MethodName := ⟨RX3, "fewestLeftOut", "()I"⟩
abbrev cX3_searchLeftOut : ByteArray := prog_5_method_22_code
def yX3_searchLeftOut : MethodName := ⟨RX3, "searchLeftOut", "()I"⟩
abbrev cX3_kindsWithGaps : ByteArray := prog_5_method_23_code
def yX3_kindsWithGaps : MethodName := ⟨RX3, "kindsWithGaps", "()I"⟩
abbrev cX3_reachesAllWithout : ByteArray := prog_5_method_24_code
def yX3_reachesAllWithout : MethodName := ⟨RX3, "reachesAllWithout", "(I)Z"⟩
def RX4 : String := "GraveOrder$Sheet"
def TX4 : u_T := fun k => match k with
  | 0 => ("GraveOrder$Sheet", "items", "[I", true)
  | 1 => ("GraveOrder$Sheet", "lost", "Z", false)
  | 2 => ("GraveOrder$Sheet", "form", "I", false)
  | _ => ("GraveOrder$Sheet", "size", "I", false)
def tyX4 : Nat → FieldType := fun k => match k with
  | 0 => .array .int
  | 1 => .boolean
  | 2 => .int
  | _ => .int
theorem nmX4 : ∀ a, a < 4 → ∀ b, b < 4 → a ≠ b → (TX4 a).2.1 ≠ (TX4 b).2.1 := by decide +kernel
theorem tyX4_ok : ∀ k, k < 4 → parseFieldDescriptor (TX4 k).2.2.1 = some (tyX4 k) := by decide +kernel
abbrev cX4_init : ByteArray := prog_6_method_1_code
def yX4_init : MethodName := ⟨RX4, "<init>", "()V"⟩
abbrev cX4_renew : ByteArray := prog_6_method_2_code
def yX4_renew : MethodName := ⟨RX4, "renew", "(II)V"⟩
abbrev cX4_findingAt : ByteArray := prog_6_method_3_code
def yX4_findingAt : MethodName := ⟨RX4, "findingAt", "(II)I"⟩
abbrev cX4_holdsRun : ByteArray := prog_6_method_4_code
def yX4_holdsRun : MethodName := ⟨RX4, "holdsRun", "(II)Z"⟩
abbrev cX4_store : ByteArray := prog_6_method_5_code
def yX4_store : MethodName := ⟨RX4, "store", "(II)V"⟩
def RX5 : String := "GraveOrder$Yard"
def TX5 : u_T := fun k => match k with
  | 0 => ("GraveOrder$Yard", "from", "[I", true)
  | 1 => ("GraveOrder$Yard", "to", "[I", true)
  | 2 => ("GraveOrder$Yard", "below", "[I", true)
  | 3 => ("GraveOrder$Yard", "kinds", "[I", true)
  | 4 => ("GraveOrder$Yard", "graves", "I", false)
  | 5 => ("GraveOrder$Yard", "robbedBits", "I", false)
  | 6 => ("GraveOrder$Yard", "overs", "I", false)
  | 7 => ("GraveOrder$Yard", "weightOnes", "I", false)
  | _ => ("GraveOrder$Yard", "weightTwos", "I", false)
def tyX5 : Nat → FieldType := fun k => match k with
  | 0 => .array .int
  | 1 => .array .int
  | 2 => .array .int
  | 3 => .array .int
  | 4 => .int
  | 5 => .int
  | 6 => .int
  | 7 => .int
  | _ => .int
theorem nmX5 : ∀ a, a < 9 → ∀ b, b < 9 → a ≠ b → (TX5 a).2.1 ≠ (TX5 b).2.1 := by decide +kernel
theorem tyX5_ok : ∀ k, k < 9 → parseFieldDescriptor (TX5 k).2.2.1 = some (tyX5 k) := by decide +kernel
abbrev cX5_init : ByteArray := prog_7_method_1_code
def yX5_init : MethodName := ⟨RX5, "<init>", "()V"⟩
abbrev cX5_dig : ByteArray := prog_7_method_2_code
def yX5_dig : MethodName := ⟨RX5, "dig", "(II)I"⟩
abbrev cX5_reweigh : ByteArray := prog_7_method_3_code
def yX5_reweigh : MethodName := ⟨RX5, "reweigh", "(II)I"⟩
abbrev cX5_weigh : ByteArray := prog_7_method_4_code
def yX5_weigh : MethodName := ⟨RX5, "weigh", "(I)I"⟩
abbrev cX5_kindsOfAll : ByteArray := prog_7_method_5_code
def yX5_kindsOfAll : MethodName := ⟨RX5, "kindsOfAll", "()I"⟩
abbrev cX5_allFinds : ByteArray := prog_7_method_6_code
def yX5_allFinds : MethodName := ⟨RX5, "allFinds", "()I"⟩
abbrev cX5_isOrder : ByteArray := prog_7_method_7_code
def yX5_isOrder : MethodName := ⟨RX5, "isOrder", "([II)Z"⟩
abbrev cX5_canBe : ByteArray := prog_7_method_8_code
def yX5_canBe : MethodName := ⟨RX5, "canBe", "([I)Z"⟩
abbrev cX5_weightOfBoth : ByteArray := prog_7_method_9_code
def yX5_weightOfBoth : MethodName := ⟨RX5, "weightOfBoth", "(II)I"⟩
abbrev cX5_weightOfEither : ByteArray := prog_7_method_10_code
def yX5_weightOfEither : MethodName := ⟨RX5, "weightOfEither", "(II)I"⟩
abbrev cX5_mostAlike : ByteArray := prog_7_method_11_code
def yX5_mostAlike : MethodName := ⟨RX5, "mostAlike", "(I)I"⟩
def RX6 : String := "GraveOrder"
def TX6 : u_T := fun k => match k with
  | 0 => ("GraveOrder", "yard", "LGraveOrder$Yard;", true)
  | 1 => ("GraveOrder", "line", "LGraveOrder$Line;", true)
  | 2 => ("GraveOrder", "finds", "LGraveOrder$Finds;", true)
  | 3 => ("GraveOrder", "orders", "LGraveOrder$Orders;", true)
  | 4 => ("GraveOrder", "firstRow", "LGraveOrder$FirstRow;", true)
  | 5 => ("GraveOrder", "sheets", "[LGraveOrder$Sheet;", true)
  | 6 => ("GraveOrder", "asOfTime", "I", false)
  | _ => ("GraveOrder", "latestFinding", "I", false)
def tyX6 : Nat → FieldType := fun k => match k with
  | 0 => .object "GraveOrder$Yard"
  | 1 => .object "GraveOrder$Line"
  | 2 => .object "GraveOrder$Finds"
  | 3 => .object "GraveOrder$Orders"
  | 4 => .object "GraveOrder$FirstRow"
  | 5 => .array (.object "GraveOrder$Sheet")
  | 6 => .int
  | _ => .int
theorem nmX6 : ∀ a, a < 8 → ∀ b, b < 8 → a ≠ b → (TX6 a).2.1 ≠ (TX6 b).2.1 := by decide +kernel
theorem tyX6_ok : ∀ k, k < 8 → parseFieldDescriptor (TX6 k).2.2.1 = some (tyX6 k) := by decide +kernel
abbrev cX6_init : ByteArray := prog_1_method_1_code
def yX6_init : MethodName := ⟨RX6, "<init>", "()V"⟩
abbrev cX6_grave : ByteArray := prog_1_method_2_code
def yX6_grave : MethodName := ⟨RX6, "grave", "(II)I"⟩
abbrev cX6_robbed : ByteArray := prog_1_method_3_code
def yX6_robbed : MethodName := ⟨RX6, "robbed", "(II)I"⟩
abbrev cX6_weight : ByteArray := prog_1_method_4_code
def yX6_weight : MethodName := ⟨RX6, "weight", "(II)I"⟩
abbrev cX6_over : ByteArray := prog_1_method_5_code
def yX6_over : MethodName := ⟨RX6, "over", "(II)I"⟩
abbrev cX6_type : ByteArray := prog_1_method_6_code
def yX6_type : MethodName := ⟨RX6, "type", "(I)I"⟩
abbrev cX6_wipe : ByteArray := prog_1_method_7_code
def yX6_wipe : MethodName := ⟨RX6, "wipe", "()I"⟩
abbrev cX6_fault : ByteArray := prog_1_method_8_code
def yX6_fault : MethodName := ⟨RX6, "fault", "()I"⟩
abbrev cX6_tell : ByteArray := prog_1_method_9_code
def yX6_tell : MethodName := ⟨RX6, "tell", "(I)I"⟩
abbrev cX6_read : ByteArray := prog_1_method_10_code
def yX6_read : MethodName := ⟨RX6, "read", "(III)I"⟩
abbrev cX6_asOf : ByteArray := prog_1_method_11_code
def yX6_asOf : MethodName := ⟨RX6, "asOf", "(I)I"⟩
abbrev cX6_has : ByteArray := prog_1_method_12_code
def yX6_has : MethodName := ⟨RX6, "has", "(I)I"⟩
abbrev cX6_gaps : ByteArray := prog_1_method_13_code
def yX6_gaps : MethodName := ⟨RX6, "gaps", "(II)I"⟩
abbrev cX6_best : ByteArray := prog_1_method_14_code
def yX6_best : MethodName := ⟨RX6, "best", "(I)I"⟩
abbrev cX6_first : ByteArray := prog_1_method_15_code
def yX6_first : MethodName := ⟨RX6, "first", "(I)I"⟩
abbrev cX6_sure : ByteArray := prog_1_method_16_code
def yX6_sure : MethodName := ⟨RX6, "sure", "(II)I"⟩
abbrev cX6_places : ByteArray := prog_1_method_17_code
def yX6_places : MethodName := ⟨RX6, "places", "(I)I"⟩
abbrev cX6_spread : ByteArray := prog_1_method_18_code
def yX6_spread : MethodName := ⟨RX6, "spread", "(II)I"⟩
abbrev cX6_mean : ByteArray := prog_1_method_19_code
def yX6_mean : MethodName := ⟨RX6, "mean", "(I)J"⟩
abbrev cX6_leftOut : ByteArray := prog_1_method_20_code
def yX6_leftOut : MethodName := ⟨RX6, "leftOut", "()I"⟩
abbrev cX6_mended : ByteArray := prog_1_method_21_code
def yX6_mended : MethodName := ⟨RX6, "mended", "(I)I"⟩
abbrev cX6_phases : ByteArray := prog_1_method_22_code
def yX6_phases : MethodName := ⟨RX6, "phases", "(II)I"⟩
abbrev cX6_years : ByteArray := prog_1_method_23_code
def yX6_years : MethodName := ⟨RX6, "years", "(III)I"⟩
abbrev cX6_fresh : ByteArray := prog_1_method_24_code
def yX6_fresh : MethodName := ⟨RX6, "fresh", "(II)I"⟩
abbrev cX6_alike : ByteArray := prog_1_method_25_code
def yX6_alike : MethodName := ⟨RX6, "alike", "(III)J"⟩
abbrev cX6_nearest : ByteArray := prog_1_method_26_code
def yX6_nearest : MethodName := ⟨RX6, "nearest", "(I)I"⟩
abbrev cX6_sheet : ByteArray := prog_1_method_27_code
def yX6_sheet : MethodName := ⟨RX6, "sheet", "(III)I"⟩
abbrev cX6_lose : ByteArray := prog_1_method_28_code
def yX6_lose : MethodName := ⟨RX6, "lose", "(I)I"⟩
abbrev cX6_put : ByteArray := prog_1_method_29_code
def yX6_put : MethodName := ⟨RX6, "put", "(IIII)I"⟩
abbrev cX6_get : ByteArray := prog_1_method_30_code
def yX6_get : MethodName := ⟨RX6, "get", "(III)I"⟩
abbrev cX6_copy : ByteArray := prog_1_method_31_code
def yX6_copy : MethodName := ⟨RX6, "copy", "(IIIII)I"⟩
abbrev cX6_write : ByteArray := prog_1_method_32_code
def yX6_write : MethodName := ⟨RX6, "write", "(I)I"⟩
abbrev cX6_count : ByteArray := prog_1_method_33_code
def yX6_count : MethodName := ⟨RX6, "count", "(I)I"⟩
abbrev cX6_digest : ByteArray := prog_1_method_34_code
def yX6_digest : MethodName := ⟨RX6, "digest", "()J"⟩
abbrev cX6_digestOfGraves : ByteArray := prog_1_method_35_code
def yX6_digestOfGraves : MethodName := ⟨RX6, "digestOfGraves", "(J)J"⟩
abbrev cX6_digestOfOrders : ByteArray := prog_1_method_36_code
def yX6_digestOfOrders : MethodName := ⟨RX6, "digestOfOrders", "(J)J"⟩
abbrev cX6_within : ByteArray := prog_1_method_37_code
def yX6_within : MethodName := ⟨RX6, "within", "(III)Z"⟩
abbrev cX6_bit : ByteArray := prog_1_method_38_code
def yX6_bit : MethodName := ⟨RX6, "bit", "(Z)I"⟩
abbrev cX6_longRefusal : ByteArray := prog_1_method_39_code
def yX6_longRefusal : MethodName := ⟨RX6, "longRefusal", "(I)J"⟩
abbrev cX6_inLowestTerms : ByteArray := prog_1_method_40_code
def yX6_inLowestTerms : MethodName := ⟨RX6, "inLowestTerms", "(III)J"⟩
abbrev cX6_commonDivisor : ByteArray := prog_1_method_41_code
def yX6_commonDivisor : MethodName := ⟨RX6, "commonDivisor", "(II)I"⟩
abbrev cX6_isGrave : ByteArray := prog_1_method_42_code
def yX6_isGrave : MethodName := ⟨RX6, "isGrave", "(I)Z"⟩
abbrev cX6_isPair : ByteArray := prog_1_method_43_code
def yX6_isPair : MethodName := ⟨RX6, "isPair", "(II)Z"⟩
abbrev cX6_isKind : ByteArray := prog_1_method_44_code
def yX6_isKind : MethodName := ⟨RX6, "isKind", "(I)Z"⟩
abbrev cX6_isSheet : ByteArray := prog_1_method_45_code
def yX6_isSheet : MethodName := ⟨RX6, "isSheet", "(I)Z"⟩
abbrev cX6_canTellAt : ByteArray := prog_1_method_46_code
def yX6_canTellAt : MethodName := ⟨RX6, "canTellAt", "(I)Z"⟩
abbrev cX6_finding : ByteArray := prog_1_method_47_code
def yX6_finding : MethodName := ⟨RX6, "finding", "(I)I"⟩
abbrev cX6_findsChanged : ByteArray := prog_1_method_48_code
def yX6_findsChanged : MethodName := ⟨RX6, "findsChanged", "()V"⟩
abbrev cX6_tellLine : ByteArray := prog_1_method_49_code
def yX6_tellLine : MethodName := ⟨RX6, "tellLine", "(I)I"⟩
abbrev cX6_tellSheet : ByteArray := prog_1_method_50_code
def yX6_tellSheet : MethodName := ⟨RX6, "tellSheet", "(LGraveOrder$Sheet;II)I"⟩
def RX7 : String := "GraveOrderModel"
def TX7 : u_T := fun k => match k with
  | 0 => ("GraveOrderModel", "graves", "I", false)
  | 1 => ("GraveOrderModel", "from", "[I", true)
  | 2 => ("GraveOrderModel", "to", "[I", true)
  | 3 => ("GraveOrderModel", "robbers", "I", false)
  | 4 => ("GraveOrderModel", "weights", "[I", true)
  | 5 => ("GraveOrderModel", "overs", "I", false)
  | 6 => ("GraveOrderModel", "upper", "[I", true)
  | 7 => ("GraveOrderModel", "lower", "[I", true)
  | 8 => ("GraveOrderModel", "tellings", "I", false)
  | 9 => ("GraveOrderModel", "toldGrave", "[I", true)
  | 10 => ("GraveOrderModel", "toldKind", "[I", true)
  | 11 => ("GraveOrderModel", "toldHas", "[I", true)
  | 12 => ("GraveOrderModel", "toldTime", "[I", true)
  | 13 => ("GraveOrderModel", "knownTo", "I", false)
  | 14 => ("GraveOrderModel", "isWorked", "Z", false)
  | 15 => ("GraveOrderModel", "typed", "I", false)
  | 16 => ("GraveOrderModel", "text", "[I", true)
  | 17 => ("GraveOrderModel", "said", "I", false)
  | 18 => ("GraveOrderModel", "saidGrave", "[I", true)
  | 19 => ("GraveOrderModel", "saidKind", "[I", true)
  | 20 => ("GraveOrderModel", "saidHas", "[I", true)
  | 21 => ("GraveOrderModel", "have", "[I", true)
  | 22 => ("GraveOrderModel", "order", "[I", true)
  | 23 => ("GraveOrderModel", "fewest", "I", false)
  | 24 => ("GraveOrderModel", "bestMany", "I", false)
  | 25 => ("GraveOrderModel", "canMany", "I", false)
  | 26 => ("GraveOrderModel", "gapSum", "J", false)
  | 27 => ("GraveOrderModel", "spreads", "[I", true)
  | 28 => ("GraveOrderModel", "firstOrder", "[I", true)
  | 29 => ("GraveOrderModel", "ahead", "[I", true)
  | 30 => ("GraveOrderModel", "placesOf", "[I", true)
  | 31 => ("GraveOrderModel", "out", "I", false)
  | 32 => ("GraveOrderModel", "partAt", "[I", true)
  | 33 => ("GraveOrderModel", "bestPart", "[I", true)
  | 34 => ("GraveOrderModel", "isThere", "[Z", true)
  | 35 => ("GraveOrderModel", "forms", "[I", true)
  | 36 => ("GraveOrderModel", "sizes", "[I", true)
  | 37 => ("GraveOrderModel", "items", "[I", true)
  | 38 => ("GraveOrderModel", "moved", "[I", true)
  | _ => ("GraveOrderModel", "finding", "I", false)
def tyX7 : Nat → FieldType := fun k => match k with
  | 0 => .int
  | 1 => .array .int
  | 2 => .array .int
  | 3 => .int
  | 4 => .array .int
  | 5 => .int
  | 6 => .array .int
  | 7 => .array .int
  | 8 => .int
  | 9 => .array .int
  | 10 => .array .int
  | 11 => .array .int
  | 12 => .array .int
  | 13 => .int
  | 14 => .boolean
  | 15 => .int
  | 16 => .array .int
  | 17 => .int
  | 18 => .array .int
  | 19 => .array .int
  | 20 => .array .int
  | 21 => .array .int
  | 22 => .array .int
  | 23 => .int
  | 24 => .int
  | 25 => .int
  | 26 => .long
  | 27 => .array .int
  | 28 => .array .int
  | 29 => .array .int
  | 30 => .array .int
  | 31 => .int
  | 32 => .array .int
  | 33 => .array .int
  | 34 => .array .boolean
  | 35 => .array .int
  | 36 => .array .int
  | 37 => .array .int
  | 38 => .array .int
  | _ => .int
theorem nmX7 : ∀ a, a < 40 → ∀ b, b < 40 → a ≠ b → (TX7 a).2.1 ≠ (TX7 b).2.1 := by decide +kernel
theorem tyX7_ok : ∀ k, k < 40 → parseFieldDescriptor (TX7 k).2.2.1 = some (tyX7 k) := by decide +kernel
abbrev cX7_init : ByteArray := prog_9_method_1_code
def yX7_init : MethodName := ⟨RX7, "<init>", "()V"⟩
abbrev cX7_in : ByteArray := prog_9_method_3_code
def yX7_in : MethodName := ⟨RX7, "in", "(III)Z"⟩
abbrev cX7_is : ByteArray := prog_9_method_4_code
def yX7_is : MethodName := ⟨RX7, "is", "(II)Z"⟩
abbrev cX7_ones : ByteArray := prog_9_method_5_code
def yX7_ones : MethodName := ⟨RX7, "ones", "(I)I"⟩
abbrev cX7_no : ByteArray := prog_9_method_6_code
def yX7_no : MethodName := ⟨RX7, "no", "(I)J"⟩
abbrev cX7_lowest : ByteArray := prog_9_method_7_code
def yX7_lowest : MethodName := ⟨RX7, "lowest", "(JJI)J"⟩
abbrev cX7_isGrave : ByteArray := prog_9_method_8_code
def yX7_isGrave : MethodName := ⟨RX7, "isGrave", "(I)Z"⟩
abbrev cX7_isKind : ByteArray := prog_9_method_9_code
def yX7_isKind : MethodName := ⟨RX7, "isKind", "(I)Z"⟩
abbrev cX7_grave : ByteArray := prog_9_method_10_code
def yX7_grave : MethodName := ⟨RX7, "grave", "(II)I"⟩
abbrev cX7_robbed : ByteArray := prog_9_method_11_code
def yX7_robbed : MethodName := ⟨RX7, "robbed", "(II)I"⟩
abbrev cX7_weight : ByteArray := prog_9_method_12_code
def yX7_weight : MethodName := ⟨RX7, "weight", "(II)I"⟩
abbrev cX7_over : ByteArray := prog_9_method_13_code
def yX7_over : MethodName := ⟨RX7, "over", "(II)I"⟩
abbrev cX7_type : ByteArray := prog_9_method_14_code
def yX7_type : MethodName := ⟨RX7, "type", "(I)I"⟩
abbrev cX7_wipe : ByteArray := prog_9_method_15_code
def yX7_wipe : MethodName := ⟨RX7, "wipe", "()I"⟩
abbrev cX7_byteAt : ByteArray := prog_9_method_16_code
def yX7_byteAt : MethodName := ⟨RX7, "byteAt", "(I)I"⟩
abbrev cX7_faultNow : ByteArray := prog_9_method_17_code
def yX7_faultNow : MethodName := ⟨RX7, "faultNow", "()I"⟩
abbrev cX7_fault : ByteArray := prog_9_method_18_code
def yX7_fault : MethodName := ⟨RX7, "fault", "()I"⟩
abbrev cX7_lastTime : ByteArray := prog_9_method_19_code
def yX7_lastTime : MethodName := ⟨RX7, "lastTime", "()I"⟩
abbrev cX7_tells : ByteArray := prog_9_method_20_code
def yX7_tells : MethodName := ⟨RX7, "tells", "(IIII)V"⟩
abbrev cX7_tell : ByteArray := prog_9_method_21_code
def yX7_tell : MethodName := ⟨RX7, "tell", "(I)I"⟩
abbrev cX7_read : ByteArray := prog_9_method_22_code
def yX7_read : MethodName := ⟨RX7, "read", "(III)I"⟩
abbrev cX7_asOf : ByteArray := prog_9_method_23_code
def yX7_asOf : MethodName := ⟨RX7, "asOf", "(I)I"⟩
abbrev cX7_lays : ByteArray := prog_9_method_24_code
def yX7_lays : MethodName := ⟨RX7, "lays", "()V"⟩
abbrev cX7_has : ByteArray := prog_9_method_25_code
def yX7_has : MethodName := ⟨RX7, "has", "(I)I"⟩
abbrev cX7_gapsOf : ByteArray := prog_9_method_26_code
def yX7_gapsOf : MethodName := ⟨RX7, "gapsOf", "(I)I"⟩
abbrev cX7_gapsNow : ByteArray := prog_9_method_27_code
def yX7_gapsNow : MethodName := ⟨RX7, "gapsNow", "()I"⟩
abbrev cX7_canBe : ByteArray := prog_9_method_28_code
def yX7_canBe : MethodName := ⟨RX7, "canBe", "()Z"⟩
abbrev cX7_turns : ByteArray := prog_9_method_29_code
def yX7_turns : MethodName := ⟨RX7, "turns", "()Z"⟩
abbrev cX7_plain : ByteArray := prog_9_method_30_code
def yX7_plain : MethodName := ⟨RX7, "plain", "()V"⟩
abbrev cX7_works : ByteArray := prog_9_method_31_code
def yX7_works : MethodName := ⟨RX7, "works", "()V"⟩
abbrev cX7_counts : ByteArray := prog_9_method_32_code
def yX7_counts : MethodName := ⟨RX7, "counts", "()V"⟩
abbrev cX7_areAny : ByteArray := prog_9_method_33_code
def yX7_areAny : MethodName := ⟨RX7, "areAny", "()Z"⟩
abbrev cX7_gaps : ByteArray := prog_9_method_34_code
def yX7_gaps : MethodName := ⟨RX7, "gaps", "(II)I"⟩
abbrev cX7_turnedNow : ByteArray := prog_9_method_35_code
def yX7_turnedNow : MethodName := ⟨RX7, "turnedNow", "()I"⟩
abbrev cX7_bestNow : ByteArray := prog_9_method_36_code
def yX7_bestNow : MethodName := ⟨RX7, "bestNow", "(I)I"⟩
abbrev cX7_best : ByteArray := prog_9_method_37_code
def yX7_best : MethodName := ⟨RX7, "best", "(I)I"⟩
abbrev cX7_firstNow : ByteArray := prog_9_method_38_code
def yX7_firstNow : MethodName := ⟨RX7, "firstNow", "(I)I"⟩
abbrev cX7_first : ByteArray := prog_9_method_39_code
def yX7_first : MethodName := ⟨RX7, "first", "(I)I"⟩
abbrev cX7_sure : ByteArray := prog_9_method_40_code
def yX7_sure : MethodName := ⟨RX7, "sure", "(II)I"⟩
abbrev cX7_placesNow : ByteArray := prog_9_method_41_code
def yX7_placesNow : MethodName := ⟨RX7, "placesNow", "(I)I"⟩
abbrev cX7_places : ByteArray := prog_9_method_42_code
def yX7_places : MethodName := ⟨RX7, "places", "(I)I"⟩
abbrev cX7_spreadNow : ByteArray := prog_9_method_43_code
def yX7_spreadNow : MethodName := ⟨RX7, "spreadNow", "(II)I"⟩
abbrev cX7_spread : ByteArray := prog_9_method_44_code
def yX7_spread : MethodName := ⟨RX7, "spread", "(II)I"⟩
abbrev cX7_meanNow : ByteArray := prog_9_method_45_code
def yX7_meanNow : MethodName := ⟨RX7, "meanNow", "(I)J"⟩
abbrev cX7_mean : ByteArray := prog_9_method_46_code
def yX7_mean : MethodName := ⟨RX7, "mean", "(I)J"⟩
abbrev cX7_leftNow : ByteArray := prog_9_method_47_code
def yX7_leftNow : MethodName := ⟨RX7, "leftNow", "()I"⟩
abbrev cX7_leftOut : ByteArray := prog_9_method_48_code
def yX7_leftOut : MethodName := ⟨RX7, "leftOut", "()I"⟩
abbrev cX7_mendedNow : ByteArray := prog_9_method_49_code
def yX7_mendedNow : MethodName := ⟨RX7, "mendedNow", "(I)I"⟩
abbrev cX7_mended : ByteArray := prog_9_method_50_code
def yX7_mended : MethodName := ⟨RX7, "mended", "(I)I"⟩
abbrev cX7_straddles : ByteArray := prog_9_method_51_code
def yX7_straddles : MethodName := ⟨RX7, "straddles", "()I"⟩
abbrev cX7_isEarlier : ByteArray := prog_9_method_52_code
def yX7_isEarlier : MethodName := ⟨RX7, "isEarlier", "()Z"⟩
abbrev cX7_phasesNow : ByteArray := prog_9_method_53_code
def yX7_phasesNow : MethodName := ⟨RX7, "phasesNow", "(II)I"⟩
abbrev cX7_phases : ByteArray := prog_9_method_54_code
def yX7_phases : MethodName := ⟨RX7, "phases", "(II)I"⟩
abbrev cX7_yearOf : ByteArray := prog_9_method_55_code
def yX7_yearOf : MethodName := ⟨RX7, "yearOf", "(II)I"⟩
abbrev cX7_graveYear : ByteArray := prog_9_method_56_code
def yX7_graveYear : MethodName := ⟨RX7, "graveYear", "(II)I"⟩
abbrev cX7_years : ByteArray := prog_9_method_57_code
def yX7_years : MethodName := ⟨RX7, "years", "(III)I"⟩
abbrev cX7_gapsWith : ByteArray := prog_9_method_58_code
def yX7_gapsWith : MethodName := ⟨RX7, "gapsWith", "(IIZ)I"⟩
abbrev cX7_fresh : ByteArray := prog_9_method_59_code
def yX7_fresh : MethodName := ⟨RX7, "fresh", "(II)I"⟩
abbrev cX7_weightOf : ByteArray := prog_9_method_60_code
def yX7_weightOf : MethodName := ⟨RX7, "weightOf", "(I)I"⟩
abbrev cX7_alike : ByteArray := prog_9_method_61_code
def yX7_alike : MethodName := ⟨RX7, "alike", "(III)J"⟩
abbrev cX7_nearestNow : ByteArray := prog_9_method_62_code
def yX7_nearestNow : MethodName := ⟨RX7, "nearestNow", "(I)I"⟩
abbrev cX7_nearest : ByteArray := prog_9_method_63_code
def yX7_nearest : MethodName := ⟨RX7, "nearest", "(I)I"⟩
abbrev cX7_meets : ByteArray := prog_9_method_64_code
def yX7_meets : MethodName := ⟨RX7, "meets", "(I)I"⟩
abbrev cX7_isSheet : ByteArray := prog_9_method_65_code
def yX7_isSheet : MethodName := ⟨RX7, "isSheet", "(I)Z"⟩
abbrev cX7_sheet : ByteArray := prog_9_method_66_code
def yX7_sheet : MethodName := ⟨RX7, "sheet", "(III)I"⟩
abbrev cX7_lose : ByteArray := prog_9_method_67_code
def yX7_lose : MethodName := ⟨RX7, "lose", "(I)I"⟩
abbrev cX7_lacks : ByteArray := prog_9_method_68_code
def yX7_lacks : MethodName := ⟨RX7, "lacks", "(III)I"⟩
abbrev cX7_keep : ByteArray := prog_9_method_69_code
def yX7_keep : MethodName := ⟨RX7, "keep", "(III)V"⟩
abbrev cX7_put : ByteArray := prog_9_method_70_code
def yX7_put : MethodName := ⟨RX7, "put", "(IIII)I"⟩
abbrev cX7_get : ByteArray := prog_9_method_71_code
def yX7_get : MethodName := ⟨RX7, "get", "(III)I"⟩
abbrev cX7_copy : ByteArray := prog_9_method_72_code
def yX7_copy : MethodName := ⟨RX7, "copy", "(IIIII)I"⟩
abbrev cX7_write : ByteArray := prog_9_method_73_code
def yX7_write : MethodName := ⟨RX7, "write", "(I)I"⟩
abbrev cX7_countNow : ByteArray := prog_9_method_74_code
def yX7_countNow : MethodName := ⟨RX7, "countNow", "(I)I"⟩
abbrev cX7_count : ByteArray := prog_9_method_75_code
def yX7_count : MethodName := ⟨RX7, "count", "(I)I"⟩
abbrev cX7_digest : ByteArray := prog_9_method_76_code
def yX7_digest : MethodName := ⟨RX7, "digest", "()J"⟩
def RJ6 : String := "java/lang/Integer"
def TJ6 : u_T := fun k => match k with
  | _ => ("", "", "", false)
def tyJ6 : Nat → FieldType := fun k => match k with
  | _ => .int
theorem nmJ6 : ∀ a, a < 0 → ∀ b, b < 0 → a ≠ b → (TJ6 a).2.1 ≠ (TJ6 b).2.1 := by decide +kernel
theorem tyJ6_ok : ∀ k, k < 0 → parseFieldDescriptor (TJ6 k).2.2.1 = some (tyJ6 k) := by decide +kernel
abbrev cJ6_numberOfTrailingZeros_0f7a4 : ByteArray := prog_10_method_48_code
def yJ6_numberOfTrailingZeros_0f7a4 : MethodName := ⟨RJ6, "numberOfTrailingZeros", "(I)I"⟩
abbrev cJ6_bitCount_0f7a4 : ByteArray := prog_10_method_49_code
def yJ6_bitCount_0f7a4 : MethodName := ⟨RJ6, "bitCount", "(I)I"⟩
def RJ9 : String := "java/lang/Math"
def TJ9 : u_T := fun k => match k with
  | _ => ("", "", "", false)
def tyJ9 : Nat → FieldType := fun k => match k with
  | _ => .int
theorem nmJ9 : ∀ a, a < 0 → ∀ b, b < 0 → a ≠ b → (TJ9 a).2.1 ≠ (TJ9 b).2.1 := by decide +kernel
theorem tyJ9_ok : ∀ k, k < 0 → parseFieldDescriptor (TJ9 k).2.2.1 = some (tyJ9 k) := by decide +kernel
abbrev cJ9_max_7cf53 : ByteArray := prog_11_method_65_code
def yJ9_max_7cf53 : MethodName := ⟨RJ9, "max", "(II)I"⟩
abbrev cJ9_min_7cf53 : ByteArray := prog_11_method_69_code
def yJ9_min_7cf53 : MethodName := ⟨RJ9, "min", "(II)I"⟩
def RJ10 : String := "java/lang/System"
def TJ10 : u_T := fun k => match k with
  | _ => ("", "", "", false)
def tyJ10 : Nat → FieldType := fun k => match k with
  | _ => .int
theorem nmJ10 : ∀ a, a < 0 → ∀ b, b < 0 → a ≠ b → (TJ10 a).2.1 ≠ (TJ10 b).2.1 := by decide +kernel
theorem tyJ10_ok : ∀ k, k < 0 → parseFieldDescriptor (TJ10 k).2.2.1 = some (tyJ10 k) := by decide +kernel
def RL : String := "GraveOrderLaw"
def yL_law : MethodName := ⟨RL, "law", "([I)Z"⟩
abbrev vwCl : List vw_C := [(RX0, TX0, 5), (RX1, TX1, 4), (RX2, TX2, 2), (RX3, TX3, 16), (RX4, TX4, 4), (RX5, TX5, 9), (RX6, TX6, 8), (RX7, TX7, 40)]
end
section
theorem dX0_init_0 : decode cX0_init 0 = .ok (.aload_n 0, 1) := by decide +kernel
theorem dX0_init_1 : decode cX0_init 1 = .ok (.invokespecial 3, 3) := by decide +kernel
theorem dX0_init_4 : decode cX0_init 4 = .ok (.aload_n 0, 1) := by decide +kernel
theorem dX0_init_5 : decode cX0_init 5 = .ok (.bipush 60, 2) := by decide +kernel
theorem dX0_init_7 : decode cX0_init 7 = .ok (.newarray .int, 2) := by decide +kernel
theorem dX0_init_9 : decode cX0_init 9 = .ok (.putfield 9, 3) := by decide +kernel
theorem dX0_init_12 : decode cX0_init 12 = .ok (.aload_n 0, 1) := by decide +kernel
theorem dX0_init_13 : decode cX0_init 13 = .ok (.bipush 60, 2) := by decide +kernel
theorem dX0_init_15 : decode cX0_init 15 = .ok (.newarray .int, 2) := by decide +kernel
theorem dX0_init_17 : decode cX0_init 17 = .ok (.putfield 15, 3) := by decide +kernel
theorem dX0_init_20 : decode cX0_init 20 = .ok (.aload_n 0, 1) := by decide +kernel
theorem dX0_init_21 : decode cX0_init 21 = .ok (.bipush 60, 2) := by decide +kernel
theorem dX0_init_23 : decode cX0_init 23 = .ok (.newarray .int, 2) := by decide +kernel
theorem dX0_init_25 : decode cX0_init 25 = .ok (.putfield 18, 3) := by decide +kernel
theorem dX0_init_28 : decode cX0_init 28 = .ok (.aload_n 0, 1) := by decide +kernel
theorem dX0_init_29 : decode cX0_init 29 = .ok (.bipush 60, 2) := by decide +kernel
theorem dX0_init_31 : decode cX0_init 31 = .ok (.newarray .boolean, 2) := by decide +kernel
theorem dX0_init_33 : decode cX0_init 33 = .ok (.putfield 21, 3) := by decide +kernel
theorem dX0_init_36 : decode cX0_init 36 = .ok (.aload_n 0, 1) := by decide +kernel
theorem dX0_init_37 : decode cX0_init 37 = .ok (.iconst 0, 1) := by decide +kernel
theorem dX0_init_38 : decode cX0_init 38 = .ok (.putfield 25, 3) := by decide +kernel
theorem dX0_init_41 : decode cX0_init 41 = .ok (.return_, 1) := by decide +kernel
theorem dX0_timeBefore_0 : decode cX0_timeBefore 0 = .ok (.aload_n 0, 1) := by decide +kernel
theorem dX0_timeBefore_1 : decode cX0_timeBefore 1 = .ok (.getfield 25, 3) := by decide +kernel
theorem dX0_timeBefore_4 : decode cX0_timeBefore 4 = .ok (.ifCond .le 17, 3) := by decide +kernel
theorem dX0_timeBefore_7 : decode cX0_timeBefore 7 = .ok (.aload_n 0, 1) := by decide +kernel
theorem dX0_timeBefore_8 : decode cX0_timeBefore 8 = .ok (.getfield 9, 3) := by decide +kernel
theorem dX0_timeBefore_11 : decode cX0_timeBefore 11 = .ok (.aload_n 0, 1) := by decide +kernel
theorem dX0_timeBefore_12 : decode cX0_timeBefore 12 = .ok (.getfield 25, 3) := by decide +kernel
theorem dX0_timeBefore_15 : decode cX0_timeBefore 15 = .ok (.iconst 1, 1) := by decide +kernel
theorem dX0_timeBefore_16 : decode cX0_timeBefore 16 = .ok (.isub, 1) := by decide +kernel
theorem dX0_timeBefore_17 : decode cX0_timeBefore 17 = .ok (.iaload, 1) := by decide +kernel
theorem dX0_timeBefore_18 : decode cX0_timeBefore 18 = .ok (.goto 4, 3) := by decide +kernel
theorem dX0_timeBefore_21 : decode cX0_timeBefore 21 = .ok (.iconst 0, 1) := by decide +kernel
theorem dX0_timeBefore_22 : decode cX0_timeBefore 22 = .ok (.ireturn, 1) := by decide +kernel
theorem dX0_keep_0 : decode cX0_keep 0 = .ok (.aload_n 0, 1) := by decide +kernel
theorem dX0_keep_1 : decode cX0_keep 1 = .ok (.getfield 25, 3) := by decide +kernel
theorem dX0_keep_4 : decode cX0_keep 4 = .ok (.bipush 60, 2) := by decide +kernel
theorem dX0_keep_6 : decode cX0_keep 6 = .ok (.if_icmp .lt 5, 3) := by decide +kernel
theorem dX0_keep_9 : decode cX0_keep 9 = .ok (.iconst 0, 1) := by decide +kernel
theorem dX0_keep_10 : decode cX0_keep 10 = .ok (.ireturn, 1) := by decide +kernel
theorem dX0_keep_11 : decode cX0_keep 11 = .ok (.aload_n 0, 1) := by decide +kernel
theorem dX0_keep_12 : decode cX0_keep 12 = .ok (.getfield 9, 3) := by decide +kernel
theorem dX0_keep_15 : decode cX0_keep 15 = .ok (.aload_n 0, 1) := by decide +kernel
theorem dX0_keep_16 : decode cX0_keep 16 = .ok (.getfield 25, 3) := by decide +kernel
theorem dX0_keep_19 : decode cX0_keep 19 = .ok (.iload_n 1, 1) := by decide +kernel
theorem dX0_keep_20 : decode cX0_keep 20 = .ok (.iastore, 1) := by decide +kernel
theorem dX0_keep_21 : decode cX0_keep 21 = .ok (.aload_n 0, 1) := by decide +kernel
theorem dX0_keep_22 : decode cX0_keep 22 = .ok (.getfield 15, 3) := by decide +kernel
theorem dX0_keep_25 : decode cX0_keep 25 = .ok (.aload_n 0, 1) := by decide +kernel
theorem dX0_keep_26 : decode cX0_keep 26 = .ok (.getfield 25, 3) := by decide +kernel
theorem dX0_keep_29 : decode cX0_keep 29 = .ok (.iload_n 2, 1) := by decide +kernel
theorem dX0_keep_30 : decode cX0_keep 30 = .ok (.iastore, 1) := by decide +kernel
theorem dX0_keep_31 : decode cX0_keep 31 = .ok (.aload_n 0, 1) := by decide +kernel
theorem dX0_keep_32 : decode cX0_keep 32 = .ok (.getfield 18, 3) := by decide +kernel
theorem dX0_keep_35 : decode cX0_keep 35 = .ok (.aload_n 0, 1) := by decide +kernel
theorem dX0_keep_36 : decode cX0_keep 36 = .ok (.getfield 25, 3) := by decide +kernel
theorem dX0_keep_39 : decode cX0_keep 39 = .ok (.iload_n 3, 1) := by decide +kernel
theorem dX0_keep_40 : decode cX0_keep 40 = .ok (.iastore, 1) := by decide +kernel
theorem dX0_keep_41 : decode cX0_keep 41 = .ok (.aload_n 0, 1) := by decide +kernel
theorem dX0_keep_42 : decode cX0_keep 42 = .ok (.getfield 21, 3) := by decide +kernel
theorem dX0_keep_45 : decode cX0_keep 45 = .ok (.aload_n 0, 1) := by decide +kernel
theorem dX0_keep_46 : decode cX0_keep 46 = .ok (.getfield 25, 3) := by decide +kernel
theorem dX0_keep_49 : decode cX0_keep 49 = .ok (.iload 4, 2) := by decide +kernel
theorem dX0_keep_51 : decode cX0_keep 51 = .ok (.bastore, 1) := by decide +kernel
theorem dX0_keep_52 : decode cX0_keep 52 = .ok (.aload_n 0, 1) := by decide +kernel
theorem dX0_keep_53 : decode cX0_keep 53 = .ok (.dup, 1) := by decide +kernel
theorem dX0_keep_54 : decode cX0_keep 54 = .ok (.getfield 25, 3) := by decide +kernel
theorem dX0_keep_57 : decode cX0_keep 57 = .ok (.iconst 1, 1) := by decide +kernel
theorem dX0_keep_58 : decode cX0_keep 58 = .ok (.iadd, 1) := by decide +kernel
theorem dX0_keep_59 : decode cX0_keep 59 = .ok (.putfield 25, 3) := by decide +kernel
theorem dX0_keep_62 : decode cX0_keep 62 = .ok (.iconst 1, 1) := by decide +kernel
theorem dX0_keep_63 : decode cX0_keep 63 = .ok (.ireturn, 1) := by decide +kernel
theorem dX0_layInto_0 : decode cX0_layInto 0 = .ok (.iconst 0, 1) := by decide +kernel
theorem dX0_layInto_1 : decode cX0_layInto 1 = .ok (.istore_n 3, 1) := by decide +kernel
theorem dX0_layInto_2 : decode cX0_layInto 2 = .ok (.iload_n 3, 1) := by decide +kernel
theorem dX0_layInto_3 : decode cX0_layInto 3 = .ok (.bipush 8, 2) := by decide +kernel
theorem dX0_layInto_5 : decode cX0_layInto 5 = .ok (.if_icmp .ge 13, 3) := by decide +kernel
theorem dX0_layInto_8 : decode cX0_layInto 8 = .ok (.aload_n 1, 1) := by decide +kernel
theorem dX0_layInto_9 : decode cX0_layInto 9 = .ok (.iload_n 3, 1) := by decide +kernel
theorem dX0_layInto_10 : decode cX0_layInto 10 = .ok (.iconst 0, 1) := by decide +kernel
theorem dX0_layInto_11 : decode cX0_layInto 11 = .ok (.iastore, 1) := by decide +kernel
theorem dX0_layInto_12 : decode cX0_layInto 12 = .ok (.iinc 3 1, 3) := by decide +kernel
theorem dX0_layInto_15 : decode cX0_layInto 15 = .ok (.goto (-13), 3) := by decide +kernel
theorem dX0_layInto_18 : decode cX0_layInto 18 = .ok (.iconst 0, 1) := by decide +kernel
theorem dX0_layInto_19 : decode cX0_layInto 19 = .ok (.istore_n 3, 1) := by decide +kernel
theorem dX0_layInto_20 : decode cX0_layInto 20 = .ok (.iload_n 3, 1) := by decide +kernel
theorem dX0_layInto_21 : decode cX0_layInto 21 = .ok (.aload_n 0, 1) := by decide +kernel
theorem dX0_layInto_22 : decode cX0_layInto 22 = .ok (.getfield 25, 3) := by decide +kernel
theorem dX0_layInto_25 : decode cX0_layInto 25 = .ok (.if_icmp .ge 71, 3) := by decide +kernel
theorem dX0_layInto_28 : decode cX0_layInto 28 = .ok (.aload_n 0, 1) := by decide +kernel
theorem dX0_layInto_29 : decode cX0_layInto 29 = .ok (.getfield 9, 3) := by decide +kernel
theorem dX0_layInto_32 : decode cX0_layInto 32 = .ok (.iload_n 3, 1) := by decide +kernel
theorem dX0_layInto_33 : decode cX0_layInto 33 = .ok (.iaload, 1) := by decide +kernel
theorem dX0_layInto_34 : decode cX0_layInto 34 = .ok (.iload_n 2, 1) := by decide +kernel
theorem dX0_layInto_35 : decode cX0_layInto 35 = .ok (.if_icmp .gt 61, 3) := by decide +kernel
theorem dX0_layInto_38 : decode cX0_layInto 38 = .ok (.iconst 1, 1) := by decide +kernel
theorem dX0_layInto_39 : decode cX0_layInto 39 = .ok (.aload_n 0, 1) := by decide +kernel
theorem dX0_layInto_40 : decode cX0_layInto 40 = .ok (.getfield 18, 3) := by decide +kernel
theorem dX0_layInto_43 : decode cX0_layInto 43 = .ok (.iload_n 3, 1) := by decide +kernel
theorem dX0_layInto_44 : decode cX0_layInto 44 = .ok (.iaload, 1) := by decide +kernel
theorem dX0_layInto_45 : decode cX0_layInto 45 = .ok (.ishl, 1) := by decide +kernel
theorem dX0_layInto_46 : decode cX0_layInto 46 = .ok (.istore 4, 2) := by decide +kernel
theorem dX0_layInto_48 : decode cX0_layInto 48 = .ok (.aload_n 1, 1) := by decide +kernel
theorem dX0_layInto_49 : decode cX0_layInto 49 = .ok (.aload_n 0, 1) := by decide +kernel
theorem dX0_layInto_50 : decode cX0_layInto 50 = .ok (.getfield 15, 3) := by decide +kernel
theorem dX0_layInto_53 : decode cX0_layInto 53 = .ok (.iload_n 3, 1) := by decide +kernel
theorem dX0_layInto_54 : decode cX0_layInto 54 = .ok (.iaload, 1) := by decide +kernel
theorem dX0_layInto_55 : decode cX0_layInto 55 = .ok (.iaload, 1) := by decide +kernel
theorem dX0_layInto_56 : decode cX0_layInto 56 = .ok (.istore 5, 2) := by decide +kernel
theorem dX0_layInto_58 : decode cX0_layInto 58 = .ok (.aload_n 1, 1) := by decide +kernel
theorem dX0_layInto_59 : decode cX0_layInto 59 = .ok (.aload_n 0, 1) := by decide +kernel
theorem dX0_layInto_60 : decode cX0_layInto 60 = .ok (.getfield 15, 3) := by decide +kernel
theorem dX0_layInto_63 : decode cX0_layInto 63 = .ok (.iload_n 3, 1) := by decide +kernel
theorem dX0_layInto_64 : decode cX0_layInto 64 = .ok (.iaload, 1) := by decide +kernel
theorem dX0_layInto_65 : decode cX0_layInto 65 = .ok (.aload_n 0, 1) := by decide +kernel
theorem dX0_layInto_66 : decode cX0_layInto 66 = .ok (.getfield 21, 3) := by decide +kernel
theorem dX0_layInto_69 : decode cX0_layInto 69 = .ok (.iload_n 3, 1) := by decide +kernel
theorem dX0_layInto_70 : decode cX0_layInto 70 = .ok (.baload, 1) := by decide +kernel
theorem dX0_layInto_71 : decode cX0_layInto 71 = .ok (.ifCond .eq 11, 3) := by decide +kernel
theorem dX0_layInto_74 : decode cX0_layInto 74 = .ok (.iload 5, 2) := by decide +kernel
theorem dX0_layInto_76 : decode cX0_layInto 76 = .ok (.iload 4, 2) := by decide +kernel
theorem dX0_layInto_78 : decode cX0_layInto 78 = .ok (.ior, 1) := by decide +kernel
theorem dX0_layInto_79 : decode cX0_layInto 79 = .ok (.goto 10, 3) := by decide +kernel
theorem dX0_layInto_82 : decode cX0_layInto 82 = .ok (.iload 5, 2) := by decide +kernel
theorem dX0_layInto_84 : decode cX0_layInto 84 = .ok (.iload 4, 2) := by decide +kernel
theorem dX0_layInto_86 : decode cX0_layInto 86 = .ok (.iconst (-1), 1) := by decide +kernel
theorem dX0_layInto_87 : decode cX0_layInto 87 = .ok (.ixor, 1) := by decide +kernel
theorem dX0_layInto_88 : decode cX0_layInto 88 = .ok (.iand, 1) := by decide +kernel
theorem dX0_layInto_89 : decode cX0_layInto 89 = .ok (.iastore, 1) := by decide +kernel
theorem dX0_layInto_90 : decode cX0_layInto 90 = .ok (.iinc 3 1, 3) := by decide +kernel
theorem dX0_layInto_93 : decode cX0_layInto 93 = .ok (.goto (-73), 3) := by decide +kernel
theorem dX0_layInto_96 : decode cX0_layInto 96 = .ok (.return_, 1) := by decide +kernel
theorem dX1_init_0 : decode cX1_init 0 = .ok (.aload_n 0, 1) := by decide +kernel
theorem dX1_init_1 : decode cX1_init 1 = .ok (.invokespecial 3, 3) := by decide +kernel
theorem dX1_init_4 : decode cX1_init 4 = .ok (.aload_n 0, 1) := by decide +kernel
theorem dX1_init_5 : decode cX1_init 5 = .ok (.bipush 8, 2) := by decide +kernel
theorem dX1_init_7 : decode cX1_init 7 = .ok (.newarray .int, 2) := by decide +kernel
theorem dX1_init_9 : decode cX1_init 9 = .ok (.putfield 9, 3) := by decide +kernel
theorem dX1_init_12 : decode cX1_init 12 = .ok (.aload_n 0, 1) := by decide +kernel
theorem dX1_init_13 : decode cX1_init 13 = .ok (.bipush 9, 2) := by decide +kernel
theorem dX1_init_15 : decode cX1_init 15 = .ok (.newarray .int, 2) := by decide +kernel
theorem dX1_init_17 : decode cX1_init 17 = .ok (.putfield 15, 3) := by decide +kernel
theorem dX1_init_20 : decode cX1_init 20 = .ok (.aload_n 0, 1) := by decide +kernel
theorem dX1_init_21 : decode cX1_init 21 = .ok (.aload_n 1, 1) := by decide +kernel
theorem dX1_init_22 : decode cX1_init 22 = .ok (.putfield 18, 3) := by decide +kernel
theorem dX1_init_25 : decode cX1_init 25 = .ok (.aload_n 0, 1) := by decide +kernel
theorem dX1_init_26 : decode cX1_init 26 = .ok (.aload_n 2, 1) := by decide +kernel
theorem dX1_init_27 : decode cX1_init 27 = .ok (.putfield 22, 3) := by decide +kernel
theorem dX1_init_30 : decode cX1_init 30 = .ok (.return_, 1) := by decide +kernel
theorem dX1_hasAt_0 : decode cX1_hasAt 0 = .ok (.aload_n 0, 1) := by decide +kernel
theorem dX1_hasAt_1 : decode cX1_hasAt 1 = .ok (.getfield 18, 3) := by decide +kernel
theorem dX1_hasAt_4 : decode cX1_hasAt 4 = .ok (.getfield 25, 3) := by decide +kernel
theorem dX1_hasAt_7 : decode cX1_hasAt 7 = .ok (.aload_n 0, 1) := by decide +kernel
theorem dX1_hasAt_8 : decode cX1_hasAt 8 = .ok (.getfield 22, 3) := by decide +kernel
theorem dX1_hasAt_11 : decode cX1_hasAt 11 = .ok (.iload_n 1, 1) := by decide +kernel
theorem dX1_hasAt_12 : decode cX1_hasAt 12 = .ok (.iaload, 1) := by decide +kernel
theorem dX1_hasAt_13 : decode cX1_hasAt 13 = .ok (.iaload, 1) := by decide +kernel
theorem dX1_hasAt_14 : decode cX1_hasAt 14 = .ok (.iload_n 2, 1) := by decide +kernel
theorem dX1_hasAt_15 : decode cX1_hasAt 15 = .ok (.ishr, 1) := by decide +kernel
theorem dX1_hasAt_16 : decode cX1_hasAt 16 = .ok (.iconst 1, 1) := by decide +kernel
theorem dX1_hasAt_17 : decode cX1_hasAt 17 = .ok (.iand, 1) := by decide +kernel
theorem dX1_hasAt_18 : decode cX1_hasAt 18 = .ok (.ifCond .eq 7, 3) := by decide +kernel
theorem dX1_hasAt_21 : decode cX1_hasAt 21 = .ok (.iconst 1, 1) := by decide +kernel
theorem dX1_hasAt_22 : decode cX1_hasAt 22 = .ok (.goto 4, 3) := by decide +kernel
theorem dX1_hasAt_25 : decode cX1_hasAt 25 = .ok (.iconst 0, 1) := by decide +kernel
theorem dX1_hasAt_26 : decode cX1_hasAt 26 = .ok (.ireturn, 1) := by decide +kernel
theorem dX1_robbedAt_0 : decode cX1_robbedAt 0 = .ok (.aload_n 0, 1) := by decide +kernel
theorem dX1_robbedAt_1 : decode cX1_robbedAt 1 = .ok (.getfield 18, 3) := by decide +kernel
theorem dX1_robbedAt_4 : decode cX1_robbedAt 4 = .ok (.getfield 30, 3) := by decide +kernel
theorem dX1_robbedAt_7 : decode cX1_robbedAt 7 = .ok (.aload_n 0, 1) := by decide +kernel
theorem dX1_robbedAt_8 : decode cX1_robbedAt 8 = .ok (.getfield 22, 3) := by decide +kernel
theorem dX1_robbedAt_11 : decode cX1_robbedAt 11 = .ok (.iload_n 1, 1) := by decide +kernel
theorem dX1_robbedAt_12 : decode cX1_robbedAt 12 = .ok (.iaload, 1) := by decide +kernel
theorem dX1_robbedAt_13 : decode cX1_robbedAt 13 = .ok (.ishr, 1) := by decide +kernel
theorem dX1_robbedAt_14 : decode cX1_robbedAt 14 = .ok (.iconst 1, 1) := by decide +kernel
theorem dX1_robbedAt_15 : decode cX1_robbedAt 15 = .ok (.iand, 1) := by decide +kernel
theorem dX1_robbedAt_16 : decode cX1_robbedAt 16 = .ok (.ifCond .eq 7, 3) := by decide +kernel
theorem dX1_robbedAt_19 : decode cX1_robbedAt 19 = .ok (.iconst 1, 1) := by decide +kernel
theorem dX1_robbedAt_20 : decode cX1_robbedAt 20 = .ok (.goto 4, 3) := by decide +kernel
theorem dX1_robbedAt_23 : decode cX1_robbedAt 23 = .ok (.iconst 0, 1) := by decide +kernel
theorem dX1_robbedAt_24 : decode cX1_robbedAt 24 = .ok (.ireturn, 1) := by decide +kernel
theorem dX1_placeOf_0 : decode cX1_placeOf 0 = .ok (.iconst 0, 1) := by decide +kernel
theorem dX1_placeOf_1 : decode cX1_placeOf 1 = .ok (.istore_n 2, 1) := by decide +kernel
theorem dX1_placeOf_2 : decode cX1_placeOf 2 = .ok (.iconst 0, 1) := by decide +kernel
theorem dX1_placeOf_3 : decode cX1_placeOf 3 = .ok (.istore_n 3, 1) := by decide +kernel
theorem dX1_placeOf_4 : decode cX1_placeOf 4 = .ok (.iload_n 3, 1) := by decide +kernel
theorem dX1_placeOf_5 : decode cX1_placeOf 5 = .ok (.aload_n 0, 1) := by decide +kernel
theorem dX1_placeOf_6 : decode cX1_placeOf 6 = .ok (.getfield 18, 3) := by decide +kernel
theorem dX1_placeOf_9 : decode cX1_placeOf 9 = .ok (.getfield 34, 3) := by decide +kernel
theorem dX1_placeOf_12 : decode cX1_placeOf 12 = .ok (.if_icmp .ge 25, 3) := by decide +kernel
theorem dX1_placeOf_15 : decode cX1_placeOf 15 = .ok (.aload_n 0, 1) := by decide +kernel
theorem dX1_placeOf_16 : decode cX1_placeOf 16 = .ok (.getfield 22, 3) := by decide +kernel
theorem dX1_placeOf_19 : decode cX1_placeOf 19 = .ok (.iload_n 3, 1) := by decide +kernel
theorem dX1_placeOf_20 : decode cX1_placeOf 20 = .ok (.iaload, 1) := by decide +kernel
theorem dX1_placeOf_21 : decode cX1_placeOf 21 = .ok (.iload_n 1, 1) := by decide +kernel
theorem dX1_placeOf_22 : decode cX1_placeOf 22 = .ok (.if_icmp .ne 7, 3) := by decide +kernel
theorem dX1_placeOf_25 : decode cX1_placeOf 25 = .ok (.iload_n 3, 1) := by decide +kernel
theorem dX1_placeOf_26 : decode cX1_placeOf 26 = .ok (.goto 4, 3) := by decide +kernel
theorem dX1_placeOf_29 : decode cX1_placeOf 29 = .ok (.iload_n 2, 1) := by decide +kernel
theorem dX1_placeOf_30 : decode cX1_placeOf 30 = .ok (.istore_n 2, 1) := by decide +kernel
theorem dX1_placeOf_31 : decode cX1_placeOf 31 = .ok (.iinc 3 1, 3) := by decide +kernel
theorem dX1_placeOf_34 : decode cX1_placeOf 34 = .ok (.goto (-30), 3) := by decide +kernel
theorem dX1_placeOf_37 : decode cX1_placeOf 37 = .ok (.iload_n 2, 1) := by decide +kernel
theorem dX1_placeOf_38 : decode cX1_placeOf 38 = .ok (.ireturn, 1) := by decide +kernel
theorem dX1_turnedCanBe_0 : decode cX1_turnedCanBe 0 = .ok (.iconst 0, 1) := by decide +kernel
theorem dX1_turnedCanBe_1 : decode cX1_turnedCanBe 1 = .ok (.istore_n 1, 1) := by decide +kernel
theorem dX1_turnedCanBe_2 : decode cX1_turnedCanBe 2 = .ok (.iload_n 1, 1) := by decide +kernel
theorem dX1_turnedCanBe_3 : decode cX1_turnedCanBe 3 = .ok (.aload_n 0, 1) := by decide +kernel
theorem dX1_turnedCanBe_4 : decode cX1_turnedCanBe 4 = .ok (.getfield 18, 3) := by decide +kernel
theorem dX1_turnedCanBe_7 : decode cX1_turnedCanBe 7 = .ok (.getfield 34, 3) := by decide +kernel
theorem dX1_turnedCanBe_10 : decode cX1_turnedCanBe 10 = .ok (.if_icmp .ge 31, 3) := by decide +kernel
theorem dX1_turnedCanBe_13 : decode cX1_turnedCanBe 13 = .ok (.aload_n 0, 1) := by decide +kernel
theorem dX1_turnedCanBe_14 : decode cX1_turnedCanBe 14 = .ok (.getfield 9, 3) := by decide +kernel
theorem dX1_turnedCanBe_17 : decode cX1_turnedCanBe 17 = .ok (.iload_n 1, 1) := by decide +kernel
theorem dX1_turnedCanBe_18 : decode cX1_turnedCanBe 18 = .ok (.aload_n 0, 1) := by decide +kernel
theorem dX1_turnedCanBe_19 : decode cX1_turnedCanBe 19 = .ok (.getfield 22, 3) := by decide +kernel
theorem dX1_turnedCanBe_22 : decode cX1_turnedCanBe 22 = .ok (.aload_n 0, 1) := by decide +kernel
theorem dX1_turnedCanBe_23 : decode cX1_turnedCanBe 23 = .ok (.getfield 18, 3) := by decide +kernel
theorem dX1_turnedCanBe_26 : decode cX1_turnedCanBe 26 = .ok (.getfield 34, 3) := by decide +kernel
theorem dX1_turnedCanBe_29 : decode cX1_turnedCanBe 29 = .ok (.iconst 1, 1) := by decide +kernel
theorem dX1_turnedCanBe_30 : decode cX1_turnedCanBe 30 = .ok (.isub, 1) := by decide +kernel
theorem dX1_turnedCanBe_31 : decode cX1_turnedCanBe 31 = .ok (.iload_n 1, 1) := by decide +kernel
theorem dX1_turnedCanBe_32 : decode cX1_turnedCanBe 32 = .ok (.isub, 1) := by decide +kernel
theorem dX1_turnedCanBe_33 : decode cX1_turnedCanBe 33 = .ok (.iaload, 1) := by decide +kernel
theorem dX1_turnedCanBe_34 : decode cX1_turnedCanBe 34 = .ok (.iastore, 1) := by decide +kernel
theorem dX1_turnedCanBe_35 : decode cX1_turnedCanBe 35 = .ok (.iinc 1 1, 3) := by decide +kernel
theorem dX1_turnedCanBe_38 : decode cX1_turnedCanBe 38 = .ok (.goto (-36), 3) := by decide +kernel
theorem dX1_turnedCanBe_41 : decode cX1_turnedCanBe 41 = .ok (.aload_n 0, 1) := by decide +kernel
theorem dX1_turnedCanBe_42 : decode cX1_turnedCanBe 42 = .ok (.getfield 18, 3) := by decide +kernel
theorem dX1_turnedCanBe_45 : decode cX1_turnedCanBe 45 = .ok (.aload_n 0, 1) := by decide +kernel
theorem dX1_turnedCanBe_46 : decode cX1_turnedCanBe 46 = .ok (.getfield 9, 3) := by decide +kernel
theorem dX1_turnedCanBe_49 : decode cX1_turnedCanBe 49 = .ok (.invokevirtual 37, 3) := by decide +kernel
theorem dX1_turnedCanBe_52 : decode cX1_turnedCanBe 52 = .ok (.ireturn, 1) := by decide +kernel
theorem dX1_gapsOfOrder_0 : decode cX1_gapsOfOrder 0 = .ok (.iconst 0, 1) := by decide +kernel
theorem dX1_gapsOfOrder_1 : decode cX1_gapsOfOrder 1 = .ok (.istore_n 2, 1) := by decide +kernel
theorem dX1_gapsOfOrder_2 : decode cX1_gapsOfOrder 2 = .ok (.iconst 0, 1) := by decide +kernel
theorem dX1_gapsOfOrder_3 : decode cX1_gapsOfOrder 3 = .ok (.istore_n 3, 1) := by decide +kernel
theorem dX1_gapsOfOrder_4 : decode cX1_gapsOfOrder 4 = .ok (.iload_n 3, 1) := by decide +kernel
theorem dX1_gapsOfOrder_5 : decode cX1_gapsOfOrder 5 = .ok (.aload_n 0, 1) := by decide +kernel
theorem dX1_gapsOfOrder_6 : decode cX1_gapsOfOrder 6 = .ok (.getfield 18, 3) := by decide +kernel
theorem dX1_gapsOfOrder_9 : decode cX1_gapsOfOrder 9 = .ok (.getfield 34, 3) := by decide +kernel
theorem dX1_gapsOfOrder_12 : decode cX1_gapsOfOrder 12 = .ok (.if_icmp .ge 44, 3) := by decide +kernel
theorem dX1_gapsOfOrder_15 : decode cX1_gapsOfOrder 15 = .ok (.aload_n 0, 1) := by decide +kernel
theorem dX1_gapsOfOrder_16 : decode cX1_gapsOfOrder 16 = .ok (.getfield 15, 3) := by decide +kernel
theorem dX1_gapsOfOrder_19 : decode cX1_gapsOfOrder 19 = .ok (.iload_n 3, 1) := by decide +kernel
theorem dX1_gapsOfOrder_20 : decode cX1_gapsOfOrder 20 = .ok (.aload_n 0, 1) := by decide +kernel
theorem dX1_gapsOfOrder_21 : decode cX1_gapsOfOrder 21 = .ok (.getfield 18, 3) := by decide +kernel
theorem dX1_gapsOfOrder_24 : decode cX1_gapsOfOrder 24 = .ok (.getfield 25, 3) := by decide +kernel
theorem dX1_gapsOfOrder_27 : decode cX1_gapsOfOrder 27 = .ok (.aload_n 1, 1) := by decide +kernel
theorem dX1_gapsOfOrder_28 : decode cX1_gapsOfOrder 28 = .ok (.iload_n 3, 1) := by decide +kernel
theorem dX1_gapsOfOrder_29 : decode cX1_gapsOfOrder 29 = .ok (.iaload, 1) := by decide +kernel
theorem dX1_gapsOfOrder_30 : decode cX1_gapsOfOrder 30 = .ok (.iaload, 1) := by decide +kernel
theorem dX1_gapsOfOrder_31 : decode cX1_gapsOfOrder 31 = .ok (.iastore, 1) := by decide +kernel
theorem dX1_gapsOfOrder_32 : decode cX1_gapsOfOrder 32 = .ok (.iload_n 2, 1) := by decide +kernel
theorem dX1_gapsOfOrder_33 : decode cX1_gapsOfOrder 33 = .ok (.aload_n 0, 1) := by decide +kernel
theorem dX1_gapsOfOrder_34 : decode cX1_gapsOfOrder 34 = .ok (.getfield 18, 3) := by decide +kernel
theorem dX1_gapsOfOrder_37 : decode cX1_gapsOfOrder 37 = .ok (.getfield 30, 3) := by decide +kernel
theorem dX1_gapsOfOrder_40 : decode cX1_gapsOfOrder 40 = .ok (.aload_n 1, 1) := by decide +kernel
theorem dX1_gapsOfOrder_41 : decode cX1_gapsOfOrder 41 = .ok (.iload_n 3, 1) := by decide +kernel
theorem dX1_gapsOfOrder_42 : decode cX1_gapsOfOrder 42 = .ok (.iaload, 1) := by decide +kernel
theorem dX1_gapsOfOrder_43 : decode cX1_gapsOfOrder 43 = .ok (.ishr, 1) := by decide +kernel
theorem dX1_gapsOfOrder_44 : decode cX1_gapsOfOrder 44 = .ok (.iconst 1, 1) := by decide +kernel
theorem dX1_gapsOfOrder_45 : decode cX1_gapsOfOrder 45 = .ok (.iand, 1) := by decide +kernel
theorem dX1_gapsOfOrder_46 : decode cX1_gapsOfOrder 46 = .ok (.iload_n 3, 1) := by decide +kernel
theorem dX1_gapsOfOrder_47 : decode cX1_gapsOfOrder 47 = .ok (.ishl, 1) := by decide +kernel
theorem dX1_gapsOfOrder_48 : decode cX1_gapsOfOrder 48 = .ok (.ior, 1) := by decide +kernel
theorem dX1_gapsOfOrder_49 : decode cX1_gapsOfOrder 49 = .ok (.istore_n 2, 1) := by decide +kernel
theorem dX1_gapsOfOrder_50 : decode cX1_gapsOfOrder 50 = .ok (.iinc 3 1, 3) := by decide +kernel
theorem dX1_gapsOfOrder_53 : decode cX1_gapsOfOrder 53 = .ok (.goto (-49), 3) := by decide +kernel
theorem dX1_gapsOfOrder_56 : decode cX1_gapsOfOrder 56 = .ok (.aload_n 0, 1) := by decide +kernel
theorem dX1_gapsOfOrder_57 : decode cX1_gapsOfOrder 57 = .ok (.aload_n 0, 1) := by decide +kernel
theorem dX1_gapsOfOrder_58 : decode cX1_gapsOfOrder 58 = .ok (.getfield 18, 3) := by decide +kernel
theorem dX1_gapsOfOrder_61 : decode cX1_gapsOfOrder 61 = .ok (.getfield 34, 3) := by decide +kernel
theorem dX1_gapsOfOrder_64 : decode cX1_gapsOfOrder 64 = .ok (.iload_n 2, 1) := by decide +kernel
theorem dX1_gapsOfOrder_65 : decode cX1_gapsOfOrder 65 = .ok (.invokevirtual 41, 3) := by decide +kernel
theorem dX1_gapsOfOrder_68 : decode cX1_gapsOfOrder 68 = .ok (.ireturn, 1) := by decide +kernel
theorem dX1_gapsAsLaid_0 : decode cX1_gapsAsLaid 0 = .ok (.iconst 0, 1) := by decide +kernel
theorem dX1_gapsAsLaid_1 : decode cX1_gapsAsLaid 1 = .ok (.istore_n 3, 1) := by decide +kernel
theorem dX1_gapsAsLaid_2 : decode cX1_gapsAsLaid 2 = .ok (.iconst 0, 1) := by decide +kernel
theorem dX1_gapsAsLaid_3 : decode cX1_gapsAsLaid 3 = .ok (.istore 4, 2) := by decide +kernel
theorem dX1_gapsAsLaid_5 : decode cX1_gapsAsLaid 5 = .ok (.iconst 0, 1) := by decide +kernel
theorem dX1_gapsAsLaid_6 : decode cX1_gapsAsLaid 6 = .ok (.istore 5, 2) := by decide +kernel
theorem dX1_gapsAsLaid_8 : decode cX1_gapsAsLaid 8 = .ok (.iload 5, 2) := by decide +kernel
theorem dX1_gapsAsLaid_10 : decode cX1_gapsAsLaid 10 = .ok (.iload_n 1, 1) := by decide +kernel
theorem dX1_gapsAsLaid_11 : decode cX1_gapsAsLaid 11 = .ok (.if_icmp .ge 88, 3) := by decide +kernel
theorem dX1_gapsAsLaid_14 : decode cX1_gapsAsLaid 14 = .ok (.iconst 0, 1) := by decide +kernel
theorem dX1_gapsAsLaid_15 : decode cX1_gapsAsLaid 15 = .ok (.istore 6, 2) := by decide +kernel
theorem dX1_gapsAsLaid_17 : decode cX1_gapsAsLaid 17 = .ok (.iload 5, 2) := by decide +kernel
theorem dX1_gapsAsLaid_19 : decode cX1_gapsAsLaid 19 = .ok (.iconst 1, 1) := by decide +kernel
theorem dX1_gapsAsLaid_20 : decode cX1_gapsAsLaid 20 = .ok (.iadd, 1) := by decide +kernel
theorem dX1_gapsAsLaid_21 : decode cX1_gapsAsLaid 21 = .ok (.istore 7, 2) := by decide +kernel
theorem dX1_gapsAsLaid_23 : decode cX1_gapsAsLaid 23 = .ok (.iload 7, 2) := by decide +kernel
theorem dX1_gapsAsLaid_25 : decode cX1_gapsAsLaid 25 = .ok (.iload_n 1, 1) := by decide +kernel
theorem dX1_gapsAsLaid_26 : decode cX1_gapsAsLaid 26 = .ok (.if_icmp .ge 21, 3) := by decide +kernel
theorem dX1_gapsAsLaid_29 : decode cX1_gapsAsLaid 29 = .ok (.iload 6, 2) := by decide +kernel
theorem dX1_gapsAsLaid_31 : decode cX1_gapsAsLaid 31 = .ok (.aload_n 0, 1) := by decide +kernel
theorem dX1_gapsAsLaid_32 : decode cX1_gapsAsLaid 32 = .ok (.getfield 15, 3) := by decide +kernel
theorem dX1_gapsAsLaid_35 : decode cX1_gapsAsLaid 35 = .ok (.iload 7, 2) := by decide +kernel
theorem dX1_gapsAsLaid_37 : decode cX1_gapsAsLaid 37 = .ok (.iaload, 1) := by decide +kernel
theorem dX1_gapsAsLaid_38 : decode cX1_gapsAsLaid 38 = .ok (.ior, 1) := by decide +kernel
theorem dX1_gapsAsLaid_39 : decode cX1_gapsAsLaid 39 = .ok (.istore 6, 2) := by decide +kernel
theorem dX1_gapsAsLaid_41 : decode cX1_gapsAsLaid 41 = .ok (.iinc 7 1, 3) := by decide +kernel
theorem dX1_gapsAsLaid_44 : decode cX1_gapsAsLaid 44 = .ok (.goto (-21), 3) := by decide +kernel
theorem dX1_gapsAsLaid_47 : decode cX1_gapsAsLaid 47 = .ok (.iload_n 2, 1) := by decide +kernel
theorem dX1_gapsAsLaid_48 : decode cX1_gapsAsLaid 48 = .ok (.iload 5, 2) := by decide +kernel
theorem dX1_gapsAsLaid_50 : decode cX1_gapsAsLaid 50 = .ok (.ishr, 1) := by decide +kernel
theorem dX1_gapsAsLaid_51 : decode cX1_gapsAsLaid 51 = .ok (.iconst 1, 1) := by decide +kernel
theorem dX1_gapsAsLaid_52 : decode cX1_gapsAsLaid 52 = .ok (.iand, 1) := by decide +kernel
theorem dX1_gapsAsLaid_53 : decode cX1_gapsAsLaid 53 = .ok (.ifCond .ne 28, 3) := by decide +kernel
theorem dX1_gapsAsLaid_56 : decode cX1_gapsAsLaid 56 = .ok (.iload_n 3, 1) := by decide +kernel
theorem dX1_gapsAsLaid_57 : decode cX1_gapsAsLaid 57 = .ok (.aload_n 0, 1) := by decide +kernel
theorem dX1_gapsAsLaid_58 : decode cX1_gapsAsLaid 58 = .ok (.getfield 18, 3) := by decide +kernel
theorem dX1_gapsAsLaid_61 : decode cX1_gapsAsLaid 61 = .ok (.iload 4, 2) := by decide +kernel
theorem dX1_gapsAsLaid_63 : decode cX1_gapsAsLaid 63 = .ok (.iload 6, 2) := by decide +kernel
theorem dX1_gapsAsLaid_65 : decode cX1_gapsAsLaid 65 = .ok (.iand, 1) := by decide +kernel
theorem dX1_gapsAsLaid_66 : decode cX1_gapsAsLaid 66 = .ok (.aload_n 0, 1) := by decide +kernel
theorem dX1_gapsAsLaid_67 : decode cX1_gapsAsLaid 67 = .ok (.getfield 15, 3) := by decide +kernel
theorem dX1_gapsAsLaid_70 : decode cX1_gapsAsLaid 70 = .ok (.iload 5, 2) := by decide +kernel
theorem dX1_gapsAsLaid_72 : decode cX1_gapsAsLaid 72 = .ok (.iaload, 1) := by decide +kernel
theorem dX1_gapsAsLaid_73 : decode cX1_gapsAsLaid 73 = .ok (.iconst (-1), 1) := by decide +kernel
theorem dX1_gapsAsLaid_74 : decode cX1_gapsAsLaid 74 = .ok (.ixor, 1) := by decide +kernel
theorem dX1_gapsAsLaid_75 : decode cX1_gapsAsLaid 75 = .ok (.iand, 1) := by decide +kernel
theorem dX1_gapsAsLaid_76 : decode cX1_gapsAsLaid 76 = .ok (.invokevirtual 45, 3) := by decide +kernel
theorem dX1_gapsAsLaid_79 : decode cX1_gapsAsLaid 79 = .ok (.iadd, 1) := by decide +kernel
theorem dX1_gapsAsLaid_80 : decode cX1_gapsAsLaid 80 = .ok (.istore_n 3, 1) := by decide +kernel
theorem dX1_gapsAsLaid_81 : decode cX1_gapsAsLaid 81 = .ok (.iload 4, 2) := by decide +kernel
theorem dX1_gapsAsLaid_83 : decode cX1_gapsAsLaid 83 = .ok (.aload_n 0, 1) := by decide +kernel
theorem dX1_gapsAsLaid_84 : decode cX1_gapsAsLaid 84 = .ok (.getfield 15, 3) := by decide +kernel
theorem dX1_gapsAsLaid_87 : decode cX1_gapsAsLaid 87 = .ok (.iload 5, 2) := by decide +kernel
theorem dX1_gapsAsLaid_89 : decode cX1_gapsAsLaid 89 = .ok (.iaload, 1) := by decide +kernel
theorem dX1_gapsAsLaid_90 : decode cX1_gapsAsLaid 90 = .ok (.ior, 1) := by decide +kernel
theorem dX1_gapsAsLaid_91 : decode cX1_gapsAsLaid 91 = .ok (.istore 4, 2) := by decide +kernel
theorem dX1_gapsAsLaid_93 : decode cX1_gapsAsLaid 93 = .ok (.iinc 5 1, 3) := by decide +kernel
theorem dX1_gapsAsLaid_96 : decode cX1_gapsAsLaid 96 = .ok (.goto (-88), 3) := by decide +kernel
theorem dX1_gapsAsLaid_99 : decode cX1_gapsAsLaid 99 = .ok (.iload_n 3, 1) := by decide +kernel
theorem dX1_gapsAsLaid_100 : decode cX1_gapsAsLaid 100 = .ok (.ireturn, 1) := by decide +kernel
theorem dX1_gapsWith_0 : decode cX1_gapsWith 0 = .ok (.iconst 0, 1) := by decide +kernel
theorem dX1_gapsWith_1 : decode cX1_gapsWith 1 = .ok (.istore_n 3, 1) := by decide +kernel
theorem dX1_gapsWith_2 : decode cX1_gapsWith 2 = .ok (.iconst 0, 1) := by decide +kernel
theorem dX1_gapsWith_3 : decode cX1_gapsWith 3 = .ok (.istore 4, 2) := by decide +kernel
theorem dX1_gapsWith_5 : decode cX1_gapsWith 5 = .ok (.iload 4, 2) := by decide +kernel
theorem dX1_gapsWith_7 : decode cX1_gapsWith 7 = .ok (.aload_n 0, 1) := by decide +kernel
theorem dX1_gapsWith_8 : decode cX1_gapsWith 8 = .ok (.getfield 18, 3) := by decide +kernel
theorem dX1_gapsWith_11 : decode cX1_gapsWith 11 = .ok (.getfield 34, 3) := by decide +kernel
theorem dX1_gapsWith_14 : decode cX1_gapsWith 14 = .ok (.if_icmp .ge 68, 3) := by decide +kernel
theorem dX1_gapsWith_17 : decode cX1_gapsWith 17 = .ok (.iload 4, 2) := by decide +kernel
theorem dX1_gapsWith_19 : decode cX1_gapsWith 19 = .ok (.iload_n 2, 1) := by decide +kernel
theorem dX1_gapsWith_20 : decode cX1_gapsWith 20 = .ok (.if_icmp .ge 8, 3) := by decide +kernel
theorem dX1_gapsWith_23 : decode cX1_gapsWith 23 = .ok (.iload 4, 2) := by decide +kernel
theorem dX1_gapsWith_25 : decode cX1_gapsWith 25 = .ok (.goto 7, 3) := by decide +kernel
theorem dX1_gapsWith_28 : decode cX1_gapsWith 28 = .ok (.iload 4, 2) := by decide +kernel
theorem dX1_gapsWith_30 : decode cX1_gapsWith 30 = .ok (.iconst 1, 1) := by decide +kernel
theorem dX1_gapsWith_31 : decode cX1_gapsWith 31 = .ok (.iadd, 1) := by decide +kernel
theorem dX1_gapsWith_32 : decode cX1_gapsWith 32 = .ok (.istore 5, 2) := by decide +kernel
theorem dX1_gapsWith_34 : decode cX1_gapsWith 34 = .ok (.aload_n 0, 1) := by decide +kernel
theorem dX1_gapsWith_35 : decode cX1_gapsWith 35 = .ok (.getfield 15, 3) := by decide +kernel
theorem dX1_gapsWith_38 : decode cX1_gapsWith 38 = .ok (.iload 5, 2) := by decide +kernel
theorem dX1_gapsWith_40 : decode cX1_gapsWith 40 = .ok (.aload_n 0, 1) := by decide +kernel
theorem dX1_gapsWith_41 : decode cX1_gapsWith 41 = .ok (.getfield 18, 3) := by decide +kernel
theorem dX1_gapsWith_44 : decode cX1_gapsWith 44 = .ok (.getfield 25, 3) := by decide +kernel
theorem dX1_gapsWith_47 : decode cX1_gapsWith 47 = .ok (.aload_n 0, 1) := by decide +kernel
theorem dX1_gapsWith_48 : decode cX1_gapsWith 48 = .ok (.getfield 22, 3) := by decide +kernel
theorem dX1_gapsWith_51 : decode cX1_gapsWith 51 = .ok (.iload 4, 2) := by decide +kernel
theorem dX1_gapsWith_53 : decode cX1_gapsWith 53 = .ok (.iaload, 1) := by decide +kernel
theorem dX1_gapsWith_54 : decode cX1_gapsWith 54 = .ok (.iaload, 1) := by decide +kernel
theorem dX1_gapsWith_55 : decode cX1_gapsWith 55 = .ok (.iastore, 1) := by decide +kernel
theorem dX1_gapsWith_56 : decode cX1_gapsWith 56 = .ok (.iload_n 3, 1) := by decide +kernel
theorem dX1_gapsWith_57 : decode cX1_gapsWith 57 = .ok (.aload_n 0, 1) := by decide +kernel
theorem dX1_gapsWith_58 : decode cX1_gapsWith 58 = .ok (.iload 4, 2) := by decide +kernel
theorem dX1_gapsWith_60 : decode cX1_gapsWith 60 = .ok (.invokevirtual 49, 3) := by decide +kernel
theorem dX1_gapsWith_63 : decode cX1_gapsWith 63 = .ok (.ifCond .eq 10, 3) := by decide +kernel
theorem dX1_gapsWith_66 : decode cX1_gapsWith 66 = .ok (.iconst 1, 1) := by decide +kernel
theorem dX1_gapsWith_67 : decode cX1_gapsWith 67 = .ok (.iload 5, 2) := by decide +kernel
theorem dX1_gapsWith_69 : decode cX1_gapsWith 69 = .ok (.ishl, 1) := by decide +kernel
theorem dX1_gapsWith_70 : decode cX1_gapsWith 70 = .ok (.goto 4, 3) := by decide +kernel
theorem dX1_gapsWith_73 : decode cX1_gapsWith 73 = .ok (.iconst 0, 1) := by decide +kernel
theorem dX1_gapsWith_74 : decode cX1_gapsWith 74 = .ok (.ior, 1) := by decide +kernel
theorem dX1_gapsWith_75 : decode cX1_gapsWith 75 = .ok (.istore_n 3, 1) := by decide +kernel
theorem dX1_gapsWith_76 : decode cX1_gapsWith 76 = .ok (.iinc 4 1, 3) := by decide +kernel
theorem dX1_gapsWith_79 : decode cX1_gapsWith 79 = .ok (.goto (-74), 3) := by decide +kernel
theorem dX1_gapsWith_82 : decode cX1_gapsWith 82 = .ok (.aload_n 0, 1) := by decide +kernel
theorem dX1_gapsWith_83 : decode cX1_gapsWith 83 = .ok (.getfield 15, 3) := by decide +kernel
theorem dX1_gapsWith_86 : decode cX1_gapsWith 86 = .ok (.iload_n 2, 1) := by decide +kernel
theorem dX1_gapsWith_87 : decode cX1_gapsWith 87 = .ok (.iload_n 1, 1) := by decide +kernel
theorem dX1_gapsWith_88 : decode cX1_gapsWith 88 = .ok (.iastore, 1) := by decide +kernel
theorem dX1_gapsWith_89 : decode cX1_gapsWith 89 = .ok (.aload_n 0, 1) := by decide +kernel
theorem dX1_gapsWith_90 : decode cX1_gapsWith 90 = .ok (.aload_n 0, 1) := by decide +kernel
theorem dX1_gapsWith_91 : decode cX1_gapsWith 91 = .ok (.getfield 18, 3) := by decide +kernel
theorem dX1_gapsWith_94 : decode cX1_gapsWith 94 = .ok (.getfield 34, 3) := by decide +kernel
theorem dX1_gapsWith_97 : decode cX1_gapsWith 97 = .ok (.iconst 1, 1) := by decide +kernel
theorem dX1_gapsWith_98 : decode cX1_gapsWith 98 = .ok (.iadd, 1) := by decide +kernel
theorem dX1_gapsWith_99 : decode cX1_gapsWith 99 = .ok (.iload_n 3, 1) := by decide +kernel
theorem dX1_gapsWith_100 : decode cX1_gapsWith 100 = .ok (.invokevirtual 41, 3) := by decide +kernel
theorem dX1_gapsWith_103 : decode cX1_gapsWith 103 = .ok (.ireturn, 1) := by decide +kernel
theorem dX1_fewestGapsWith_0 : decode cX1_fewestGapsWith 0 = .ok (.aload_n 0, 1) := by decide +kernel
theorem dX1_fewestGapsWith_1 : decode cX1_fewestGapsWith 1 = .ok (.iload_n 1, 1) := by decide +kernel
theorem dX1_fewestGapsWith_2 : decode cX1_fewestGapsWith 2 = .ok (.iconst 0, 1) := by decide +kernel
theorem dX1_fewestGapsWith_3 : decode cX1_fewestGapsWith 3 = .ok (.invokevirtual 53, 3) := by decide +kernel
theorem dX1_fewestGapsWith_6 : decode cX1_fewestGapsWith 6 = .ok (.istore_n 2, 1) := by decide +kernel
theorem dX1_fewestGapsWith_7 : decode cX1_fewestGapsWith 7 = .ok (.iconst 1, 1) := by decide +kernel
theorem dX1_fewestGapsWith_8 : decode cX1_fewestGapsWith 8 = .ok (.istore_n 3, 1) := by decide +kernel
theorem dX1_fewestGapsWith_9 : decode cX1_fewestGapsWith 9 = .ok (.iload_n 3, 1) := by decide +kernel
theorem dX1_fewestGapsWith_10 : decode cX1_fewestGapsWith 10 = .ok (.aload_n 0, 1) := by decide +kernel
theorem dX1_fewestGapsWith_11 : decode cX1_fewestGapsWith 11 = .ok (.getfield 18, 3) := by decide +kernel
theorem dX1_fewestGapsWith_14 : decode cX1_fewestGapsWith 14 = .ok (.getfield 34, 3) := by decide +kernel
theorem dX1_fewestGapsWith_17 : decode cX1_fewestGapsWith 17 = .ok (.if_icmp .gt 20, 3) := by decide +kernel
theorem dX1_fewestGapsWith_20 : decode cX1_fewestGapsWith 20 = .ok (.iload_n 2, 1) := by decide +kernel
theorem dX1_fewestGapsWith_21 : decode cX1_fewestGapsWith 21 = .ok (.aload_n 0, 1) := by decide +kernel
theorem dX1_fewestGapsWith_22 : decode cX1_fewestGapsWith 22 = .ok (.iload_n 1, 1) := by decide +kernel
theorem dX1_fewestGapsWith_23 : decode cX1_fewestGapsWith 23 = .ok (.iload_n 3, 1) := by decide +kernel
theorem dX1_fewestGapsWith_24 : decode cX1_fewestGapsWith 24 = .ok (.invokevirtual 53, 3) := by decide +kernel
theorem dX1_fewestGapsWith_27 : decode cX1_fewestGapsWith 27 = .ok (.invokestatic 56, 3) := by decide +kernel
theorem dX1_fewestGapsWith_30 : decode cX1_fewestGapsWith 30 = .ok (.istore_n 2, 1) := by decide +kernel
theorem dX1_fewestGapsWith_31 : decode cX1_fewestGapsWith 31 = .ok (.iinc 3 1, 3) := by decide +kernel
theorem dX1_fewestGapsWith_34 : decode cX1_fewestGapsWith 34 = .ok (.goto (-25), 3) := by decide +kernel
theorem dX1_fewestGapsWith_37 : decode cX1_fewestGapsWith 37 = .ok (.iload_n 2, 1) := by decide +kernel
theorem dX1_fewestGapsWith_38 : decode cX1_fewestGapsWith 38 = .ok (.ireturn, 1) := by decide +kernel
theorem dX1_placesWith_0 : decode cX1_placesWith 0 = .ok (.iconst 0, 1) := by decide +kernel
theorem dX1_placesWith_1 : decode cX1_placesWith 1 = .ok (.istore_n 3, 1) := by decide +kernel
theorem dX1_placesWith_2 : decode cX1_placesWith 2 = .ok (.iconst 0, 1) := by decide +kernel
theorem dX1_placesWith_3 : decode cX1_placesWith 3 = .ok (.istore 4, 2) := by decide +kernel
theorem dX1_placesWith_5 : decode cX1_placesWith 5 = .ok (.iload 4, 2) := by decide +kernel
theorem dX1_placesWith_7 : decode cX1_placesWith 7 = .ok (.aload_n 0, 1) := by decide +kernel
theorem dX1_placesWith_8 : decode cX1_placesWith 8 = .ok (.getfield 18, 3) := by decide +kernel
theorem dX1_placesWith_11 : decode cX1_placesWith 11 = .ok (.getfield 34, 3) := by decide +kernel
theorem dX1_placesWith_14 : decode cX1_placesWith 14 = .ok (.if_icmp .gt 31, 3) := by decide +kernel
theorem dX1_placesWith_17 : decode cX1_placesWith 17 = .ok (.iload_n 3, 1) := by decide +kernel
theorem dX1_placesWith_18 : decode cX1_placesWith 18 = .ok (.aload_n 0, 1) := by decide +kernel
theorem dX1_placesWith_19 : decode cX1_placesWith 19 = .ok (.iload_n 1, 1) := by decide +kernel
theorem dX1_placesWith_20 : decode cX1_placesWith 20 = .ok (.iload 4, 2) := by decide +kernel
theorem dX1_placesWith_22 : decode cX1_placesWith 22 = .ok (.invokevirtual 53, 3) := by decide +kernel
theorem dX1_placesWith_25 : decode cX1_placesWith 25 = .ok (.iload_n 2, 1) := by decide +kernel
theorem dX1_placesWith_26 : decode cX1_placesWith 26 = .ok (.if_icmp .ne 10, 3) := by decide +kernel
theorem dX1_placesWith_29 : decode cX1_placesWith 29 = .ok (.iconst 1, 1) := by decide +kernel
theorem dX1_placesWith_30 : decode cX1_placesWith 30 = .ok (.iload 4, 2) := by decide +kernel
theorem dX1_placesWith_32 : decode cX1_placesWith 32 = .ok (.ishl, 1) := by decide +kernel
theorem dX1_placesWith_33 : decode cX1_placesWith 33 = .ok (.goto 4, 3) := by decide +kernel
theorem dX1_placesWith_36 : decode cX1_placesWith 36 = .ok (.iconst 0, 1) := by decide +kernel
theorem dX1_placesWith_37 : decode cX1_placesWith 37 = .ok (.ior, 1) := by decide +kernel
theorem dX1_placesWith_38 : decode cX1_placesWith 38 = .ok (.istore_n 3, 1) := by decide +kernel
theorem dX1_placesWith_39 : decode cX1_placesWith 39 = .ok (.iinc 4 1, 3) := by decide +kernel
theorem dX1_placesWith_42 : decode cX1_placesWith 42 = .ok (.goto (-37), 3) := by decide +kernel
theorem dX1_placesWith_45 : decode cX1_placesWith 45 = .ok (.iload_n 3, 1) := by decide +kernel
theorem dX1_placesWith_46 : decode cX1_placesWith 46 = .ok (.ireturn, 1) := by decide +kernel
theorem dX1_mending_0 : decode cX1_mending 0 = .ok (.iconst 0, 1) := by decide +kernel
theorem dX1_mending_1 : decode cX1_mending 1 = .ok (.istore_n 2, 1) := by decide +kernel
theorem dX1_mending_2 : decode cX1_mending 2 = .ok (.iconst 0, 1) := by decide +kernel
theorem dX1_mending_3 : decode cX1_mending 3 = .ok (.istore_n 3, 1) := by decide +kernel
theorem dX1_mending_4 : decode cX1_mending 4 = .ok (.iload_n 3, 1) := by decide +kernel
theorem dX1_mending_5 : decode cX1_mending 5 = .ok (.aload_n 0, 1) := by decide +kernel
theorem dX1_mending_6 : decode cX1_mending 6 = .ok (.getfield 18, 3) := by decide +kernel
theorem dX1_mending_9 : decode cX1_mending 9 = .ok (.getfield 34, 3) := by decide +kernel
theorem dX1_mending_12 : decode cX1_mending 12 = .ok (.if_icmp .ge 26, 3) := by decide +kernel
theorem dX1_mending_15 : decode cX1_mending 15 = .ok (.iload_n 2, 1) := by decide +kernel
theorem dX1_mending_16 : decode cX1_mending 16 = .ok (.aload_n 0, 1) := by decide +kernel
theorem dX1_mending_17 : decode cX1_mending 17 = .ok (.iload_n 3, 1) := by decide +kernel
theorem dX1_mending_18 : decode cX1_mending 18 = .ok (.iload_n 1, 1) := by decide +kernel
theorem dX1_mending_19 : decode cX1_mending 19 = .ok (.invokevirtual 61, 3) := by decide +kernel
theorem dX1_mending_22 : decode cX1_mending 22 = .ok (.ifCond .eq 7, 3) := by decide +kernel
theorem dX1_mending_25 : decode cX1_mending 25 = .ok (.iconst 1, 1) := by decide +kernel
theorem dX1_mending_26 : decode cX1_mending 26 = .ok (.goto 4, 3) := by decide +kernel
theorem dX1_mending_29 : decode cX1_mending 29 = .ok (.iconst 0, 1) := by decide +kernel
theorem dX1_mending_30 : decode cX1_mending 30 = .ok (.iadd, 1) := by decide +kernel
theorem dX1_mending_31 : decode cX1_mending 31 = .ok (.istore_n 2, 1) := by decide +kernel
theorem dX1_mending_32 : decode cX1_mending 32 = .ok (.iinc 3 1, 3) := by decide +kernel
theorem dX1_mending_35 : decode cX1_mending 35 = .ok (.goto (-31), 3) := by decide +kernel
theorem dX1_mending_38 : decode cX1_mending 38 = .ok (.iload_n 2, 1) := by decide +kernel
theorem dX1_mending_39 : decode cX1_mending 39 = .ok (.istore_n 3, 1) := by decide +kernel
theorem dX1_mending_40 : decode cX1_mending 40 = .ok (.iconst 0, 1) := by decide +kernel
theorem dX1_mending_41 : decode cX1_mending 41 = .ok (.istore 4, 2) := by decide +kernel
theorem dX1_mending_43 : decode cX1_mending 43 = .ok (.iload 4, 2) := by decide +kernel
theorem dX1_mending_45 : decode cX1_mending 45 = .ok (.aload_n 0, 1) := by decide +kernel
theorem dX1_mending_46 : decode cX1_mending 46 = .ok (.getfield 18, 3) := by decide +kernel
theorem dX1_mending_49 : decode cX1_mending 49 = .ok (.getfield 34, 3) := by decide +kernel
theorem dX1_mending_52 : decode cX1_mending 52 = .ok (.if_icmp .ge 32, 3) := by decide +kernel
theorem dX1_mending_55 : decode cX1_mending 55 = .ok (.aload_n 0, 1) := by decide +kernel
theorem dX1_mending_56 : decode cX1_mending 56 = .ok (.iload 4, 2) := by decide +kernel
theorem dX1_mending_58 : decode cX1_mending 58 = .ok (.iload_n 1, 1) := by decide +kernel
theorem dX1_mending_59 : decode cX1_mending 59 = .ok (.invokevirtual 61, 3) := by decide +kernel
theorem dX1_mending_62 : decode cX1_mending 62 = .ok (.ifCond .eq 16, 3) := by decide +kernel
theorem dX1_mending_65 : decode cX1_mending 65 = .ok (.iload_n 3, 1) := by decide +kernel
theorem dX1_mending_66 : decode cX1_mending 66 = .ok (.aload_n 0, 1) := by decide +kernel
theorem dX1_mending_67 : decode cX1_mending 67 = .ok (.iload 4, 2) := by decide +kernel
theorem dX1_mending_69 : decode cX1_mending 69 = .ok (.iload_n 1, 1) := by decide +kernel
theorem dX1_mending_70 : decode cX1_mending 70 = .ok (.iload_n 2, 1) := by decide +kernel
theorem dX1_mending_71 : decode cX1_mending 71 = .ok (.invokevirtual 65, 3) := by decide +kernel
theorem dX1_mending_74 : decode cX1_mending 74 = .ok (.invokestatic 56, 3) := by decide +kernel
theorem dX1_mending_77 : decode cX1_mending 77 = .ok (.istore_n 3, 1) := by decide +kernel
theorem dX1_mending_78 : decode cX1_mending 78 = .ok (.iinc 4 1, 3) := by decide +kernel
theorem dX1_mending_81 : decode cX1_mending 81 = .ok (.goto (-38), 3) := by decide +kernel
theorem dX1_mending_84 : decode cX1_mending 84 = .ok (.iload_n 3, 1) := by decide +kernel
theorem dX1_mending_85 : decode cX1_mending 85 = .ok (.ireturn, 1) := by decide +kernel
theorem dX1_mendingFrom_0 : decode cX1_mendingFrom 0 = .ok (.iload_n 3, 1) := by decide +kernel
theorem dX1_mendingFrom_1 : decode cX1_mendingFrom 1 = .ok (.istore 4, 2) := by decide +kernel
theorem dX1_mendingFrom_3 : decode cX1_mendingFrom 3 = .ok (.iconst 0, 1) := by decide +kernel
theorem dX1_mendingFrom_4 : decode cX1_mendingFrom 4 = .ok (.istore 5, 2) := by decide +kernel
theorem dX1_mendingFrom_6 : decode cX1_mendingFrom 6 = .ok (.iconst 0, 1) := by decide +kernel
theorem dX1_mendingFrom_7 : decode cX1_mendingFrom 7 = .ok (.istore 6, 2) := by decide +kernel
theorem dX1_mendingFrom_9 : decode cX1_mendingFrom 9 = .ok (.iload_n 1, 1) := by decide +kernel
theorem dX1_mendingFrom_10 : decode cX1_mendingFrom 10 = .ok (.istore 7, 2) := by decide +kernel
theorem dX1_mendingFrom_12 : decode cX1_mendingFrom 12 = .ok (.iload 7, 2) := by decide +kernel
theorem dX1_mendingFrom_14 : decode cX1_mendingFrom 14 = .ok (.aload_n 0, 1) := by decide +kernel
theorem dX1_mendingFrom_15 : decode cX1_mendingFrom 15 = .ok (.getfield 18, 3) := by decide +kernel
theorem dX1_mendingFrom_18 : decode cX1_mendingFrom 18 = .ok (.getfield 34, 3) := by decide +kernel
theorem dX1_mendingFrom_21 : decode cX1_mendingFrom 21 = .ok (.if_icmp .ge 51, 3) := by decide +kernel
theorem dX1_mendingFrom_24 : decode cX1_mendingFrom 24 = .ok (.aload_n 0, 1) := by decide +kernel
theorem dX1_mendingFrom_25 : decode cX1_mendingFrom 25 = .ok (.iload 7, 2) := by decide +kernel
theorem dX1_mendingFrom_27 : decode cX1_mendingFrom 27 = .ok (.iload_n 2, 1) := by decide +kernel
theorem dX1_mendingFrom_28 : decode cX1_mendingFrom 28 = .ok (.invokevirtual 61, 3) := by decide +kernel
theorem dX1_mendingFrom_31 : decode cX1_mendingFrom 31 = .ok (.ifCond .eq 23, 3) := by decide +kernel
theorem dX1_mendingFrom_34 : decode cX1_mendingFrom 34 = .ok (.iinc 5 1, 3) := by decide +kernel
theorem dX1_mendingFrom_37 : decode cX1_mendingFrom 37 = .ok (.iload 4, 2) := by decide +kernel
theorem dX1_mendingFrom_39 : decode cX1_mendingFrom 39 = .ok (.iload_n 3, 1) := by decide +kernel
theorem dX1_mendingFrom_40 : decode cX1_mendingFrom 40 = .ok (.iload 5, 2) := by decide +kernel
theorem dX1_mendingFrom_42 : decode cX1_mendingFrom 42 = .ok (.isub, 1) := by decide +kernel
theorem dX1_mendingFrom_43 : decode cX1_mendingFrom 43 = .ok (.iload 6, 2) := by decide +kernel
theorem dX1_mendingFrom_45 : decode cX1_mendingFrom 45 = .ok (.iadd, 1) := by decide +kernel
theorem dX1_mendingFrom_46 : decode cX1_mendingFrom 46 = .ok (.invokestatic 56, 3) := by decide +kernel
theorem dX1_mendingFrom_49 : decode cX1_mendingFrom 49 = .ok (.istore 4, 2) := by decide +kernel
theorem dX1_mendingFrom_51 : decode cX1_mendingFrom 51 = .ok (.goto 15, 3) := by decide +kernel
theorem dX1_mendingFrom_54 : decode cX1_mendingFrom 54 = .ok (.aload_n 0, 1) := by decide +kernel
theorem dX1_mendingFrom_55 : decode cX1_mendingFrom 55 = .ok (.iload 7, 2) := by decide +kernel
theorem dX1_mendingFrom_57 : decode cX1_mendingFrom 57 = .ok (.invokevirtual 49, 3) := by decide +kernel
theorem dX1_mendingFrom_60 : decode cX1_mendingFrom 60 = .ok (.ifCond .ne 6, 3) := by decide +kernel
theorem dX1_mendingFrom_63 : decode cX1_mendingFrom 63 = .ok (.iinc 6 1, 3) := by decide +kernel
theorem dX1_mendingFrom_66 : decode cX1_mendingFrom 66 = .ok (.iinc 7 1, 3) := by decide +kernel
theorem dX1_mendingFrom_69 : decode cX1_mendingFrom 69 = .ok (.goto (-57), 3) := by decide +kernel
theorem dX1_mendingFrom_72 : decode cX1_mendingFrom 72 = .ok (.iload 4, 2) := by decide +kernel
theorem dX1_mendingFrom_74 : decode cX1_mendingFrom 74 = .ok (.ireturn, 1) := by decide +kernel
theorem dX1_bestCuts_0 : decode cX1_bestCuts 0 = .ok (.iconst 0, 1) := by decide +kernel
theorem dX1_bestCuts_1 : decode cX1_bestCuts 1 = .ok (.istore_n 2, 1) := by decide +kernel
theorem dX1_bestCuts_2 : decode cX1_bestCuts 2 = .ok (.ldc 71, 2) := by decide +kernel
theorem dX1_bestCuts_4 : decode cX1_bestCuts 4 = .ok (.istore_n 3, 1) := by decide +kernel
theorem dX1_bestCuts_5 : decode cX1_bestCuts 5 = .ok (.iconst 1, 1) := by decide +kernel
theorem dX1_bestCuts_6 : decode cX1_bestCuts 6 = .ok (.iconst 0, 1) := by decide +kernel
theorem dX1_bestCuts_7 : decode cX1_bestCuts 7 = .ok (.aload_n 0, 1) := by decide +kernel
theorem dX1_bestCuts_8 : decode cX1_bestCuts 8 = .ok (.getfield 18, 3) := by decide +kernel
theorem dX1_bestCuts_11 : decode cX1_bestCuts 11 = .ok (.getfield 34, 3) := by decide +kernel
theorem dX1_bestCuts_14 : decode cX1_bestCuts 14 = .ok (.iconst 1, 1) := by decide +kernel
theorem dX1_bestCuts_15 : decode cX1_bestCuts 15 = .ok (.isub, 1) := by decide +kernel
theorem dX1_bestCuts_16 : decode cX1_bestCuts 16 = .ok (.invokestatic 72, 3) := by decide +kernel
theorem dX1_bestCuts_19 : decode cX1_bestCuts 19 = .ok (.ishl, 1) := by decide +kernel
theorem dX1_bestCuts_20 : decode cX1_bestCuts 20 = .ok (.iconst 1, 1) := by decide +kernel
theorem dX1_bestCuts_21 : decode cX1_bestCuts 21 = .ok (.isub, 1) := by decide +kernel
theorem dX1_bestCuts_22 : decode cX1_bestCuts 22 = .ok (.istore 4, 2) := by decide +kernel
theorem dX1_bestCuts_24 : decode cX1_bestCuts 24 = .ok (.iload 4, 2) := by decide +kernel
theorem dX1_bestCuts_26 : decode cX1_bestCuts 26 = .ok (.istore 5, 2) := by decide +kernel
theorem dX1_bestCuts_28 : decode cX1_bestCuts 28 = .ok (.iload 5, 2) := by decide +kernel
theorem dX1_bestCuts_30 : decode cX1_bestCuts 30 = .ok (.ifCond .lt 40, 3) := by decide +kernel
theorem dX1_bestCuts_33 : decode cX1_bestCuts 33 = .ok (.iload 5, 2) := by decide +kernel
theorem dX1_bestCuts_35 : decode cX1_bestCuts 35 = .ok (.invokestatic 75, 3) := by decide +kernel
theorem dX1_bestCuts_38 : decode cX1_bestCuts 38 = .ok (.iload_n 1, 1) := by decide +kernel
theorem dX1_bestCuts_39 : decode cX1_bestCuts 39 = .ok (.iconst 1, 1) := by decide +kernel
theorem dX1_bestCuts_40 : decode cX1_bestCuts 40 = .ok (.isub, 1) := by decide +kernel
theorem dX1_bestCuts_41 : decode cX1_bestCuts 41 = .ok (.if_icmp .ne 23, 3) := by decide +kernel
theorem dX1_bestCuts_44 : decode cX1_bestCuts 44 = .ok (.aload_n 0, 1) := by decide +kernel
theorem dX1_bestCuts_45 : decode cX1_bestCuts 45 = .ok (.iload 5, 2) := by decide +kernel
theorem dX1_bestCuts_47 : decode cX1_bestCuts 47 = .ok (.invokevirtual 80, 3) := by decide +kernel
theorem dX1_bestCuts_50 : decode cX1_bestCuts 50 = .ok (.iload_n 3, 1) := by decide +kernel
theorem dX1_bestCuts_51 : decode cX1_bestCuts 51 = .ok (.if_icmp .ge 13, 3) := by decide +kernel
theorem dX1_bestCuts_54 : decode cX1_bestCuts 54 = .ok (.iload 5, 2) := by decide +kernel
theorem dX1_bestCuts_56 : decode cX1_bestCuts 56 = .ok (.istore_n 2, 1) := by decide +kernel
theorem dX1_bestCuts_57 : decode cX1_bestCuts 57 = .ok (.aload_n 0, 1) := by decide +kernel
theorem dX1_bestCuts_58 : decode cX1_bestCuts 58 = .ok (.iload 5, 2) := by decide +kernel
theorem dX1_bestCuts_60 : decode cX1_bestCuts 60 = .ok (.invokevirtual 80, 3) := by decide +kernel
theorem dX1_bestCuts_63 : decode cX1_bestCuts 63 = .ok (.istore_n 3, 1) := by decide +kernel
theorem dX1_bestCuts_64 : decode cX1_bestCuts 64 = .ok (.iinc 5 (-1), 3) := by decide +kernel
theorem dX1_bestCuts_67 : decode cX1_bestCuts 67 = .ok (.goto (-39), 3) := by decide +kernel
theorem dX1_bestCuts_70 : decode cX1_bestCuts 70 = .ok (.iload_n 2, 1) := by decide +kernel
theorem dX1_bestCuts_71 : decode cX1_bestCuts 71 = .ok (.ireturn, 1) := by decide +kernel
theorem dX1_isCutAhead_0 : decode cX1_isCutAhead 0 = .ok (.iload_n 1, 1) := by decide +kernel
theorem dX1_isCutAhead_1 : decode cX1_isCutAhead 1 = .ok (.ifCond .le 25, 3) := by decide +kernel
theorem dX1_isCutAhead_4 : decode cX1_isCutAhead 4 = .ok (.iload_n 2, 1) := by decide +kernel
theorem dX1_isCutAhead_5 : decode cX1_isCutAhead 5 = .ok (.aload_n 0, 1) := by decide +kernel
theorem dX1_isCutAhead_6 : decode cX1_isCutAhead 6 = .ok (.getfield 18, 3) := by decide +kernel
theorem dX1_isCutAhead_9 : decode cX1_isCutAhead 9 = .ok (.getfield 34, 3) := by decide +kernel
theorem dX1_isCutAhead_12 : decode cX1_isCutAhead 12 = .ok (.iconst 1, 1) := by decide +kernel
theorem dX1_isCutAhead_13 : decode cX1_isCutAhead 13 = .ok (.isub, 1) := by decide +kernel
theorem dX1_isCutAhead_14 : decode cX1_isCutAhead 14 = .ok (.iload_n 1, 1) := by decide +kernel
theorem dX1_isCutAhead_15 : decode cX1_isCutAhead 15 = .ok (.isub, 1) := by decide +kernel
theorem dX1_isCutAhead_16 : decode cX1_isCutAhead 16 = .ok (.ishr, 1) := by decide +kernel
theorem dX1_isCutAhead_17 : decode cX1_isCutAhead 17 = .ok (.iconst 1, 1) := by decide +kernel
theorem dX1_isCutAhead_18 : decode cX1_isCutAhead 18 = .ok (.iand, 1) := by decide +kernel
theorem dX1_isCutAhead_19 : decode cX1_isCutAhead 19 = .ok (.ifCond .eq 7, 3) := by decide +kernel
theorem dX1_isCutAhead_22 : decode cX1_isCutAhead 22 = .ok (.iconst 1, 1) := by decide +kernel
theorem dX1_isCutAhead_23 : decode cX1_isCutAhead 23 = .ok (.goto 4, 3) := by decide +kernel
theorem dX1_isCutAhead_26 : decode cX1_isCutAhead 26 = .ok (.iconst 0, 1) := by decide +kernel
theorem dX1_isCutAhead_27 : decode cX1_isCutAhead 27 = .ok (.ireturn, 1) := by decide +kernel
theorem dX1_straddles_0 : decode cX1_straddles 0 = .ok (.iconst 0, 1) := by decide +kernel
theorem dX1_straddles_1 : decode cX1_straddles 1 = .ok (.istore_n 2, 1) := by decide +kernel
theorem dX1_straddles_2 : decode cX1_straddles 2 = .ok (.iconst 0, 1) := by decide +kernel
theorem dX1_straddles_3 : decode cX1_straddles 3 = .ok (.istore_n 3, 1) := by decide +kernel
theorem dX1_straddles_4 : decode cX1_straddles 4 = .ok (.iconst 0, 1) := by decide +kernel
theorem dX1_straddles_5 : decode cX1_straddles 5 = .ok (.istore 4, 2) := by decide +kernel
theorem dX1_straddles_7 : decode cX1_straddles 7 = .ok (.iload 4, 2) := by decide +kernel
theorem dX1_straddles_9 : decode cX1_straddles 9 = .ok (.aload_n 0, 1) := by decide +kernel
theorem dX1_straddles_10 : decode cX1_straddles 10 = .ok (.getfield 18, 3) := by decide +kernel
theorem dX1_straddles_13 : decode cX1_straddles 13 = .ok (.getfield 34, 3) := by decide +kernel
theorem dX1_straddles_16 : decode cX1_straddles 16 = .ok (.if_icmp .ge 50, 3) := by decide +kernel
theorem dX1_straddles_19 : decode cX1_straddles 19 = .ok (.aload_n 0, 1) := by decide +kernel
theorem dX1_straddles_20 : decode cX1_straddles 20 = .ok (.iload 4, 2) := by decide +kernel
theorem dX1_straddles_22 : decode cX1_straddles 22 = .ok (.iload_n 1, 1) := by decide +kernel
theorem dX1_straddles_23 : decode cX1_straddles 23 = .ok (.invokevirtual 83, 3) := by decide +kernel
theorem dX1_straddles_26 : decode cX1_straddles 26 = .ok (.ifCond .eq 16, 3) := by decide +kernel
theorem dX1_straddles_29 : decode cX1_straddles 29 = .ok (.iload_n 2, 1) := by decide +kernel
theorem dX1_straddles_30 : decode cX1_straddles 30 = .ok (.aload_n 0, 1) := by decide +kernel
theorem dX1_straddles_31 : decode cX1_straddles 31 = .ok (.getfield 18, 3) := by decide +kernel
theorem dX1_straddles_34 : decode cX1_straddles 34 = .ok (.iload_n 3, 1) := by decide +kernel
theorem dX1_straddles_35 : decode cX1_straddles 35 = .ok (.invokevirtual 45, 3) := by decide +kernel
theorem dX1_straddles_38 : decode cX1_straddles 38 = .ok (.iadd, 1) := by decide +kernel
theorem dX1_straddles_39 : decode cX1_straddles 39 = .ok (.istore_n 2, 1) := by decide +kernel
theorem dX1_straddles_40 : decode cX1_straddles 40 = .ok (.iconst 0, 1) := by decide +kernel
theorem dX1_straddles_41 : decode cX1_straddles 41 = .ok (.istore_n 3, 1) := by decide +kernel
theorem dX1_straddles_42 : decode cX1_straddles 42 = .ok (.iload_n 3, 1) := by decide +kernel
theorem dX1_straddles_43 : decode cX1_straddles 43 = .ok (.aload_n 0, 1) := by decide +kernel
theorem dX1_straddles_44 : decode cX1_straddles 44 = .ok (.getfield 18, 3) := by decide +kernel
theorem dX1_straddles_47 : decode cX1_straddles 47 = .ok (.getfield 25, 3) := by decide +kernel
theorem dX1_straddles_50 : decode cX1_straddles 50 = .ok (.aload_n 0, 1) := by decide +kernel
theorem dX1_straddles_51 : decode cX1_straddles 51 = .ok (.getfield 22, 3) := by decide +kernel
theorem dX1_straddles_54 : decode cX1_straddles 54 = .ok (.iload 4, 2) := by decide +kernel
theorem dX1_straddles_56 : decode cX1_straddles 56 = .ok (.iaload, 1) := by decide +kernel
theorem dX1_straddles_57 : decode cX1_straddles 57 = .ok (.iaload, 1) := by decide +kernel
theorem dX1_straddles_58 : decode cX1_straddles 58 = .ok (.ior, 1) := by decide +kernel
theorem dX1_straddles_59 : decode cX1_straddles 59 = .ok (.istore_n 3, 1) := by decide +kernel
theorem dX1_straddles_60 : decode cX1_straddles 60 = .ok (.iinc 4 1, 3) := by decide +kernel
theorem dX1_straddles_63 : decode cX1_straddles 63 = .ok (.goto (-56), 3) := by decide +kernel
theorem dX1_straddles_66 : decode cX1_straddles 66 = .ok (.iload_n 2, 1) := by decide +kernel
theorem dX1_straddles_67 : decode cX1_straddles 67 = .ok (.aload_n 0, 1) := by decide +kernel
theorem dX1_straddles_68 : decode cX1_straddles 68 = .ok (.getfield 18, 3) := by decide +kernel
theorem dX1_straddles_71 : decode cX1_straddles 71 = .ok (.iload_n 3, 1) := by decide +kernel
theorem dX1_straddles_72 : decode cX1_straddles 72 = .ok (.invokevirtual 45, 3) := by decide +kernel
theorem dX1_straddles_75 : decode cX1_straddles 75 = .ok (.iadd, 1) := by decide +kernel
theorem dX1_straddles_76 : decode cX1_straddles 76 = .ok (.aload_n 0, 1) := by decide +kernel
theorem dX1_straddles_77 : decode cX1_straddles 77 = .ok (.getfield 18, 3) := by decide +kernel
theorem dX1_straddles_80 : decode cX1_straddles 80 = .ok (.aload_n 0, 1) := by decide +kernel
theorem dX1_straddles_81 : decode cX1_straddles 81 = .ok (.getfield 18, 3) := by decide +kernel
theorem dX1_straddles_84 : decode cX1_straddles 84 = .ok (.invokevirtual 86, 3) := by decide +kernel
theorem dX1_straddles_87 : decode cX1_straddles 87 = .ok (.invokevirtual 45, 3) := by decide +kernel
theorem dX1_straddles_90 : decode cX1_straddles 90 = .ok (.isub, 1) := by decide +kernel
theorem dX1_straddles_91 : decode cX1_straddles 91 = .ok (.ireturn, 1) := by decide +kernel
theorem dX1_partOf_0 : decode cX1_partOf 0 = .ok (.aload_n 0, 1) := by decide +kernel
theorem dX1_partOf_1 : decode cX1_partOf 1 = .ok (.iload_n 1, 1) := by decide +kernel
theorem dX1_partOf_2 : decode cX1_partOf 2 = .ok (.invokevirtual 90, 3) := by decide +kernel
theorem dX1_partOf_5 : decode cX1_partOf 5 = .ok (.istore_n 3, 1) := by decide +kernel
theorem dX1_partOf_6 : decode cX1_partOf 6 = .ok (.iconst 0, 1) := by decide +kernel
theorem dX1_partOf_7 : decode cX1_partOf 7 = .ok (.istore 4, 2) := by decide +kernel
theorem dX1_partOf_9 : decode cX1_partOf 9 = .ok (.iconst 1, 1) := by decide +kernel
theorem dX1_partOf_10 : decode cX1_partOf 10 = .ok (.istore 5, 2) := by decide +kernel
theorem dX1_partOf_12 : decode cX1_partOf 12 = .ok (.iload 5, 2) := by decide +kernel
theorem dX1_partOf_14 : decode cX1_partOf 14 = .ok (.iload_n 3, 1) := by decide +kernel
theorem dX1_partOf_15 : decode cX1_partOf 15 = .ok (.if_icmp .gt 29, 3) := by decide +kernel
theorem dX1_partOf_18 : decode cX1_partOf 18 = .ok (.iload 4, 2) := by decide +kernel
theorem dX1_partOf_20 : decode cX1_partOf 20 = .ok (.aload_n 0, 1) := by decide +kernel
theorem dX1_partOf_21 : decode cX1_partOf 21 = .ok (.iload 5, 2) := by decide +kernel
theorem dX1_partOf_23 : decode cX1_partOf 23 = .ok (.iload_n 2, 1) := by decide +kernel
theorem dX1_partOf_24 : decode cX1_partOf 24 = .ok (.invokevirtual 83, 3) := by decide +kernel
theorem dX1_partOf_27 : decode cX1_partOf 27 = .ok (.ifCond .eq 7, 3) := by decide +kernel
theorem dX1_partOf_30 : decode cX1_partOf 30 = .ok (.iconst 1, 1) := by decide +kernel
theorem dX1_partOf_31 : decode cX1_partOf 31 = .ok (.goto 4, 3) := by decide +kernel
theorem dX1_partOf_34 : decode cX1_partOf 34 = .ok (.iconst 0, 1) := by decide +kernel
theorem dX1_partOf_35 : decode cX1_partOf 35 = .ok (.iadd, 1) := by decide +kernel
theorem dX1_partOf_36 : decode cX1_partOf 36 = .ok (.istore 4, 2) := by decide +kernel
theorem dX1_partOf_38 : decode cX1_partOf 38 = .ok (.iinc 5 1, 3) := by decide +kernel
theorem dX1_partOf_41 : decode cX1_partOf 41 = .ok (.goto (-29), 3) := by decide +kernel
theorem dX1_partOf_44 : decode cX1_partOf 44 = .ok (.iload 4, 2) := by decide +kernel
theorem dX1_partOf_46 : decode cX1_partOf 46 = .ok (.ireturn, 1) := by decide +kernel
theorem dX1_yearOfGrave_0 : decode cX1_yearOfGrave 0 = .ok (.aload_n 0, 1) := by decide +kernel
theorem dX1_yearOfGrave_1 : decode cX1_yearOfGrave 1 = .ok (.iload_n 1, 1) := by decide +kernel
theorem dX1_yearOfGrave_2 : decode cX1_yearOfGrave 2 = .ok (.invokevirtual 90, 3) := by decide +kernel
theorem dX1_yearOfGrave_5 : decode cX1_yearOfGrave 5 = .ok (.istore_n 3, 1) := by decide +kernel
theorem dX1_yearOfGrave_6 : decode cX1_yearOfGrave 6 = .ok (.iload_n 2, 1) := by decide +kernel
theorem dX1_yearOfGrave_7 : decode cX1_yearOfGrave 7 = .ok (.ifCond .ne 15, 3) := by decide +kernel
theorem dX1_yearOfGrave_10 : decode cX1_yearOfGrave 10 = .ok (.aload_n 0, 1) := by decide +kernel
theorem dX1_yearOfGrave_11 : decode cX1_yearOfGrave 11 = .ok (.getfield 18, 3) := by decide +kernel
theorem dX1_yearOfGrave_14 : decode cX1_yearOfGrave 14 = .ok (.getfield 93, 3) := by decide +kernel
theorem dX1_yearOfGrave_17 : decode cX1_yearOfGrave 17 = .ok (.iload_n 1, 1) := by decide +kernel
theorem dX1_yearOfGrave_18 : decode cX1_yearOfGrave 18 = .ok (.iaload, 1) := by decide +kernel
theorem dX1_yearOfGrave_19 : decode cX1_yearOfGrave 19 = .ok (.goto 12, 3) := by decide +kernel
theorem dX1_yearOfGrave_22 : decode cX1_yearOfGrave 22 = .ok (.aload_n 0, 1) := by decide +kernel
theorem dX1_yearOfGrave_23 : decode cX1_yearOfGrave 23 = .ok (.getfield 18, 3) := by decide +kernel
theorem dX1_yearOfGrave_26 : decode cX1_yearOfGrave 26 = .ok (.getfield 96, 3) := by decide +kernel
theorem dX1_yearOfGrave_29 : decode cX1_yearOfGrave 29 = .ok (.iload_n 1, 1) := by decide +kernel
theorem dX1_yearOfGrave_30 : decode cX1_yearOfGrave 30 = .ok (.iaload, 1) := by decide +kernel
theorem dX1_yearOfGrave_31 : decode cX1_yearOfGrave 31 = .ok (.istore 4, 2) := by decide +kernel
theorem dX1_yearOfGrave_33 : decode cX1_yearOfGrave 33 = .ok (.iconst 0, 1) := by decide +kernel
theorem dX1_yearOfGrave_34 : decode cX1_yearOfGrave 34 = .ok (.istore 5, 2) := by decide +kernel
theorem dX1_yearOfGrave_36 : decode cX1_yearOfGrave 36 = .ok (.iload 5, 2) := by decide +kernel
theorem dX1_yearOfGrave_38 : decode cX1_yearOfGrave 38 = .ok (.aload_n 0, 1) := by decide +kernel
theorem dX1_yearOfGrave_39 : decode cX1_yearOfGrave 39 = .ok (.getfield 18, 3) := by decide +kernel
theorem dX1_yearOfGrave_42 : decode cX1_yearOfGrave 42 = .ok (.getfield 34, 3) := by decide +kernel
theorem dX1_yearOfGrave_45 : decode cX1_yearOfGrave 45 = .ok (.if_icmp .ge 77, 3) := by decide +kernel
theorem dX1_yearOfGrave_48 : decode cX1_yearOfGrave 48 = .ok (.iload_n 2, 1) := by decide +kernel
theorem dX1_yearOfGrave_49 : decode cX1_yearOfGrave 49 = .ok (.ifCond .ne 34, 3) := by decide +kernel
theorem dX1_yearOfGrave_52 : decode cX1_yearOfGrave 52 = .ok (.iload 5, 2) := by decide +kernel
theorem dX1_yearOfGrave_54 : decode cX1_yearOfGrave 54 = .ok (.iload_n 3, 1) := by decide +kernel
theorem dX1_yearOfGrave_55 : decode cX1_yearOfGrave 55 = .ok (.if_icmp .ge 28, 3) := by decide +kernel
theorem dX1_yearOfGrave_58 : decode cX1_yearOfGrave 58 = .ok (.iload 4, 2) := by decide +kernel
theorem dX1_yearOfGrave_60 : decode cX1_yearOfGrave 60 = .ok (.aload_n 0, 1) := by decide +kernel
theorem dX1_yearOfGrave_61 : decode cX1_yearOfGrave 61 = .ok (.getfield 18, 3) := by decide +kernel
theorem dX1_yearOfGrave_64 : decode cX1_yearOfGrave 64 = .ok (.getfield 93, 3) := by decide +kernel
theorem dX1_yearOfGrave_67 : decode cX1_yearOfGrave 67 = .ok (.aload_n 0, 1) := by decide +kernel
theorem dX1_yearOfGrave_68 : decode cX1_yearOfGrave 68 = .ok (.getfield 22, 3) := by decide +kernel
theorem dX1_yearOfGrave_71 : decode cX1_yearOfGrave 71 = .ok (.iload 5, 2) := by decide +kernel
theorem dX1_yearOfGrave_73 : decode cX1_yearOfGrave 73 = .ok (.iaload, 1) := by decide +kernel
theorem dX1_yearOfGrave_74 : decode cX1_yearOfGrave 74 = .ok (.iaload, 1) := by decide +kernel
theorem dX1_yearOfGrave_75 : decode cX1_yearOfGrave 75 = .ok (.invokestatic 72, 3) := by decide +kernel
theorem dX1_yearOfGrave_78 : decode cX1_yearOfGrave 78 = .ok (.istore 4, 2) := by decide +kernel
theorem dX1_yearOfGrave_80 : decode cX1_yearOfGrave 80 = .ok (.goto 36, 3) := by decide +kernel
theorem dX1_yearOfGrave_83 : decode cX1_yearOfGrave 83 = .ok (.iload_n 2, 1) := by decide +kernel
theorem dX1_yearOfGrave_84 : decode cX1_yearOfGrave 84 = .ok (.iconst 1, 1) := by decide +kernel
theorem dX1_yearOfGrave_85 : decode cX1_yearOfGrave 85 = .ok (.if_icmp .ne 31, 3) := by decide +kernel
theorem dX1_yearOfGrave_88 : decode cX1_yearOfGrave 88 = .ok (.iload 5, 2) := by decide +kernel
theorem dX1_yearOfGrave_90 : decode cX1_yearOfGrave 90 = .ok (.iload_n 3, 1) := by decide +kernel
theorem dX1_yearOfGrave_91 : decode cX1_yearOfGrave 91 = .ok (.if_icmp .le 25, 3) := by decide +kernel
theorem dX1_yearOfGrave_94 : decode cX1_yearOfGrave 94 = .ok (.iload 4, 2) := by decide +kernel
theorem dX1_yearOfGrave_96 : decode cX1_yearOfGrave 96 = .ok (.aload_n 0, 1) := by decide +kernel
theorem dX1_yearOfGrave_97 : decode cX1_yearOfGrave 97 = .ok (.getfield 18, 3) := by decide +kernel
theorem dX1_yearOfGrave_100 : decode cX1_yearOfGrave 100 = .ok (.getfield 96, 3) := by decide +kernel
theorem dX1_yearOfGrave_103 : decode cX1_yearOfGrave 103 = .ok (.aload_n 0, 1) := by decide +kernel
theorem dX1_yearOfGrave_104 : decode cX1_yearOfGrave 104 = .ok (.getfield 22, 3) := by decide +kernel
theorem dX1_yearOfGrave_107 : decode cX1_yearOfGrave 107 = .ok (.iload 5, 2) := by decide +kernel
theorem dX1_yearOfGrave_109 : decode cX1_yearOfGrave 109 = .ok (.iaload, 1) := by decide +kernel
theorem dX1_yearOfGrave_110 : decode cX1_yearOfGrave 110 = .ok (.iaload, 1) := by decide +kernel
theorem dX1_yearOfGrave_111 : decode cX1_yearOfGrave 111 = .ok (.invokestatic 56, 3) := by decide +kernel
theorem dX1_yearOfGrave_114 : decode cX1_yearOfGrave 114 = .ok (.istore 4, 2) := by decide +kernel
theorem dX1_yearOfGrave_116 : decode cX1_yearOfGrave 116 = .ok (.iinc 5 1, 3) := by decide +kernel
theorem dX1_yearOfGrave_119 : decode cX1_yearOfGrave 119 = .ok (.goto (-83), 3) := by decide +kernel
theorem dX1_yearOfGrave_122 : decode cX1_yearOfGrave 122 = .ok (.iload 4, 2) := by decide +kernel
theorem dX1_yearOfGrave_124 : decode cX1_yearOfGrave 124 = .ok (.ireturn, 1) := by decide +kernel
theorem dX1_yearOfKind_0 : decode cX1_yearOfKind 0 = .ok (.iload_n 2, 1) := by decide +kernel
theorem dX1_yearOfKind_1 : decode cX1_yearOfKind 1 = .ok (.ifCond .ne 8, 3) := by decide +kernel
theorem dX1_yearOfKind_4 : decode cX1_yearOfKind 4 = .ok (.bipush 99, 2) := by decide +kernel
theorem dX1_yearOfKind_6 : decode cX1_yearOfKind 6 = .ok (.goto 4, 3) := by decide +kernel
theorem dX1_yearOfKind_9 : decode cX1_yearOfKind 9 = .ok (.iconst 0, 1) := by decide +kernel
theorem dX1_yearOfKind_10 : decode cX1_yearOfKind 10 = .ok (.istore_n 3, 1) := by decide +kernel
theorem dX1_yearOfKind_11 : decode cX1_yearOfKind 11 = .ok (.iconst 0, 1) := by decide +kernel
theorem dX1_yearOfKind_12 : decode cX1_yearOfKind 12 = .ok (.istore 4, 2) := by decide +kernel
theorem dX1_yearOfKind_14 : decode cX1_yearOfKind 14 = .ok (.iload 4, 2) := by decide +kernel
theorem dX1_yearOfKind_16 : decode cX1_yearOfKind 16 = .ok (.aload_n 0, 1) := by decide +kernel
theorem dX1_yearOfKind_17 : decode cX1_yearOfKind 17 = .ok (.getfield 18, 3) := by decide +kernel
theorem dX1_yearOfKind_20 : decode cX1_yearOfKind 20 = .ok (.getfield 34, 3) := by decide +kernel
theorem dX1_yearOfKind_23 : decode cX1_yearOfKind 23 = .ok (.if_icmp .ge 53, 3) := by decide +kernel
theorem dX1_yearOfKind_26 : decode cX1_yearOfKind 26 = .ok (.aload_n 0, 1) := by decide +kernel
theorem dX1_yearOfKind_27 : decode cX1_yearOfKind 27 = .ok (.iload 4, 2) := by decide +kernel
theorem dX1_yearOfKind_29 : decode cX1_yearOfKind 29 = .ok (.iload_n 1, 1) := by decide +kernel
theorem dX1_yearOfKind_30 : decode cX1_yearOfKind 30 = .ok (.invokevirtual 61, 3) := by decide +kernel
theorem dX1_yearOfKind_33 : decode cX1_yearOfKind 33 = .ok (.ifCond .eq 37, 3) := by decide +kernel
theorem dX1_yearOfKind_36 : decode cX1_yearOfKind 36 = .ok (.aload_n 0, 1) := by decide +kernel
theorem dX1_yearOfKind_37 : decode cX1_yearOfKind 37 = .ok (.aload_n 0, 1) := by decide +kernel
theorem dX1_yearOfKind_38 : decode cX1_yearOfKind 38 = .ok (.getfield 22, 3) := by decide +kernel
theorem dX1_yearOfKind_41 : decode cX1_yearOfKind 41 = .ok (.iload 4, 2) := by decide +kernel
theorem dX1_yearOfKind_43 : decode cX1_yearOfKind 43 = .ok (.iaload, 1) := by decide +kernel
theorem dX1_yearOfKind_44 : decode cX1_yearOfKind 44 = .ok (.iload_n 2, 1) := by decide +kernel
theorem dX1_yearOfKind_45 : decode cX1_yearOfKind 45 = .ok (.invokevirtual 99, 3) := by decide +kernel
theorem dX1_yearOfKind_48 : decode cX1_yearOfKind 48 = .ok (.istore 5, 2) := by decide +kernel
theorem dX1_yearOfKind_50 : decode cX1_yearOfKind 50 = .ok (.iload_n 2, 1) := by decide +kernel
theorem dX1_yearOfKind_51 : decode cX1_yearOfKind 51 = .ok (.ifCond .ne 12, 3) := by decide +kernel
theorem dX1_yearOfKind_54 : decode cX1_yearOfKind 54 = .ok (.iload_n 3, 1) := by decide +kernel
theorem dX1_yearOfKind_55 : decode cX1_yearOfKind 55 = .ok (.iload 5, 2) := by decide +kernel
theorem dX1_yearOfKind_57 : decode cX1_yearOfKind 57 = .ok (.invokestatic 56, 3) := by decide +kernel
theorem dX1_yearOfKind_60 : decode cX1_yearOfKind 60 = .ok (.goto 9, 3) := by decide +kernel
theorem dX1_yearOfKind_63 : decode cX1_yearOfKind 63 = .ok (.iload_n 3, 1) := by decide +kernel
theorem dX1_yearOfKind_64 : decode cX1_yearOfKind 64 = .ok (.iload 5, 2) := by decide +kernel
theorem dX1_yearOfKind_66 : decode cX1_yearOfKind 66 = .ok (.invokestatic 72, 3) := by decide +kernel
theorem dX1_yearOfKind_69 : decode cX1_yearOfKind 69 = .ok (.istore_n 3, 1) := by decide +kernel
theorem dX1_yearOfKind_70 : decode cX1_yearOfKind 70 = .ok (.iinc 4 1, 3) := by decide +kernel
theorem dX1_yearOfKind_73 : decode cX1_yearOfKind 73 = .ok (.goto (-59), 3) := by decide +kernel
theorem dX1_yearOfKind_76 : decode cX1_yearOfKind 76 = .ok (.iload_n 3, 1) := by decide +kernel
theorem dX1_yearOfKind_77 : decode cX1_yearOfKind 77 = .ok (.ireturn, 1) := by decide +kernel
theorem dX2_init_0 : decode cX2_init 0 = .ok (.aload_n 0, 1) := by decide +kernel
theorem dX2_init_1 : decode cX2_init 1 = .ok (.invokespecial 3, 3) := by decide +kernel
theorem dX2_init_4 : decode cX2_init 4 = .ok (.aload_n 0, 1) := by decide +kernel
theorem dX2_init_5 : decode cX2_init 5 = .ok (.bipush 40, 2) := by decide +kernel
theorem dX2_init_7 : decode cX2_init 7 = .ok (.newarray .int, 2) := by decide +kernel
theorem dX2_init_9 : decode cX2_init 9 = .ok (.putfield 9, 3) := by decide +kernel
theorem dX2_init_12 : decode cX2_init 12 = .ok (.aload_n 0, 1) := by decide +kernel
theorem dX2_init_13 : decode cX2_init 13 = .ok (.iconst 0, 1) := by decide +kernel
theorem dX2_init_14 : decode cX2_init 14 = .ok (.putfield 15, 3) := by decide +kernel
theorem dX2_init_17 : decode cX2_init 17 = .ok (.return_, 1) := by decide +kernel
theorem dX2_follow_0 : decode cX2_follow 0 = .ok (.iload_n 1, 1) := by decide +kernel
theorem dX2_follow_1 : decode cX2_follow 1 = .ok (.bipush 48, 2) := by decide +kernel
theorem dX2_follow_3 : decode cX2_follow 3 = .ok (.if_icmp .lt 13, 3) := by decide +kernel
theorem dX2_follow_6 : decode cX2_follow 6 = .ok (.iload_n 1, 1) := by decide +kernel
theorem dX2_follow_7 : decode cX2_follow 7 = .ok (.bipush 57, 2) := by decide +kernel
theorem dX2_follow_9 : decode cX2_follow 9 = .ok (.if_icmp .gt 7, 3) := by decide +kernel
theorem dX2_follow_12 : decode cX2_follow 12 = .ok (.iconst 1, 1) := by decide +kernel
theorem dX2_follow_13 : decode cX2_follow 13 = .ok (.goto 4, 3) := by decide +kernel
theorem dX2_follow_16 : decode cX2_follow 16 = .ok (.iconst 0, 1) := by decide +kernel
theorem dX2_follow_17 : decode cX2_follow 17 = .ok (.istore_n 3, 1) := by decide +kernel
theorem dX2_follow_18 : decode cX2_follow 18 = .ok (.iload_n 0, 1) := by decide +kernel
theorem dX2_follow_19 : decode cX2_follow 19 = .ok (.tableswitch 111 0 4 #[33, 51, 63, 81, 91], 33) := by decide +kernel
theorem dX2_follow_52 : decode cX2_follow 52 = .ok (.iload_n 3, 1) := by decide +kernel
theorem dX2_follow_53 : decode cX2_follow 53 = .ok (.ifCond .eq 15, 3) := by decide +kernel
theorem dX2_follow_56 : decode cX2_follow 56 = .ok (.iload_n 1, 1) := by decide +kernel
theorem dX2_follow_57 : decode cX2_follow 57 = .ok (.bipush 48, 2) := by decide +kernel
theorem dX2_follow_59 : decode cX2_follow 59 = .ok (.isub, 1) := by decide +kernel
theorem dX2_follow_60 : decode cX2_follow 60 = .ok (.iload_n 2, 1) := by decide +kernel
theorem dX2_follow_61 : decode cX2_follow 61 = .ok (.if_icmp .ge 7, 3) := by decide +kernel
theorem dX2_follow_64 : decode cX2_follow 64 = .ok (.iconst 1, 1) := by decide +kernel
theorem dX2_follow_65 : decode cX2_follow 65 = .ok (.goto 4, 3) := by decide +kernel
theorem dX2_follow_68 : decode cX2_follow 68 = .ok (.iconst 5, 1) := by decide +kernel
theorem dX2_follow_69 : decode cX2_follow 69 = .ok (.ireturn, 1) := by decide +kernel
theorem dX2_follow_70 : decode cX2_follow 70 = .ok (.iload_n 1, 1) := by decide +kernel
theorem dX2_follow_71 : decode cX2_follow 71 = .ok (.bipush 58, 2) := by decide +kernel
theorem dX2_follow_73 : decode cX2_follow 73 = .ok (.if_icmp .ne 7, 3) := by decide +kernel
theorem dX2_follow_76 : decode cX2_follow 76 = .ok (.iconst 2, 1) := by decide +kernel
theorem dX2_follow_77 : decode cX2_follow 77 = .ok (.goto 4, 3) := by decide +kernel
theorem dX2_follow_80 : decode cX2_follow 80 = .ok (.iconst 5, 1) := by decide +kernel
theorem dX2_follow_81 : decode cX2_follow 81 = .ok (.ireturn, 1) := by decide +kernel
theorem dX2_follow_82 : decode cX2_follow 82 = .ok (.iload_n 1, 1) := by decide +kernel
theorem dX2_follow_83 : decode cX2_follow 83 = .ok (.bipush 45, 2) := by decide +kernel
theorem dX2_follow_85 : decode cX2_follow 85 = .ok (.if_icmp .ne 5, 3) := by decide +kernel
theorem dX2_follow_88 : decode cX2_follow 88 = .ok (.iconst 3, 1) := by decide +kernel
theorem dX2_follow_89 : decode cX2_follow 89 = .ok (.ireturn, 1) := by decide +kernel
theorem dX2_follow_90 : decode cX2_follow 90 = .ok (.iload_n 3, 1) := by decide +kernel
theorem dX2_follow_91 : decode cX2_follow 91 = .ok (.ifCond .eq 7, 3) := by decide +kernel
theorem dX2_follow_94 : decode cX2_follow 94 = .ok (.iconst 4, 1) := by decide +kernel
theorem dX2_follow_95 : decode cX2_follow 95 = .ok (.goto 4, 3) := by decide +kernel
theorem dX2_follow_98 : decode cX2_follow 98 = .ok (.iconst 5, 1) := by decide +kernel
theorem dX2_follow_99 : decode cX2_follow 99 = .ok (.ireturn, 1) := by decide +kernel
theorem dX2_follow_100 : decode cX2_follow 100 = .ok (.iload_n 3, 1) := by decide +kernel
theorem dX2_follow_101 : decode cX2_follow 101 = .ok (.ifCond .eq 7, 3) := by decide +kernel
theorem dX2_follow_104 : decode cX2_follow 104 = .ok (.iconst 4, 1) := by decide +kernel
theorem dX2_follow_105 : decode cX2_follow 105 = .ok (.goto 4, 3) := by decide +kernel
theorem dX2_follow_108 : decode cX2_follow 108 = .ok (.iconst 5, 1) := by decide +kernel
theorem dX2_follow_109 : decode cX2_follow 109 = .ok (.ireturn, 1) := by decide +kernel
theorem dX2_follow_110 : decode cX2_follow 110 = .ok (.iload_n 1, 1) := by decide +kernel
theorem dX2_follow_111 : decode cX2_follow 111 = .ok (.bipush 44, 2) := by decide +kernel
theorem dX2_follow_113 : decode cX2_follow 113 = .ok (.if_icmp .ne 5, 3) := by decide +kernel
theorem dX2_follow_116 : decode cX2_follow 116 = .ok (.iconst 2, 1) := by decide +kernel
theorem dX2_follow_117 : decode cX2_follow 117 = .ok (.ireturn, 1) := by decide +kernel
theorem dX2_follow_118 : decode cX2_follow 118 = .ok (.iload_n 1, 1) := by decide +kernel
theorem dX2_follow_119 : decode cX2_follow 119 = .ok (.bipush 59, 2) := by decide +kernel
theorem dX2_follow_121 : decode cX2_follow 121 = .ok (.if_icmp .ne 7, 3) := by decide +kernel
theorem dX2_follow_124 : decode cX2_follow 124 = .ok (.iconst 0, 1) := by decide +kernel
theorem dX2_follow_125 : decode cX2_follow 125 = .ok (.goto 4, 3) := by decide +kernel
theorem dX2_follow_128 : decode cX2_follow 128 = .ok (.iconst 5, 1) := by decide +kernel
theorem dX2_follow_129 : decode cX2_follow 129 = .ok (.ireturn, 1) := by decide +kernel
theorem dX2_follow_130 : decode cX2_follow 130 = .ok (.iconst 5, 1) := by decide +kernel
theorem dX2_follow_131 : decode cX2_follow 131 = .ok (.ireturn, 1) := by decide +kernel
theorem dX2_firstFault_0 : decode cX2_firstFault 0 = .ok (.iconst 0, 1) := by decide +kernel
theorem dX2_firstFault_1 : decode cX2_firstFault 1 = .ok (.istore_n 2, 1) := by decide +kernel
theorem dX2_firstFault_2 : decode cX2_firstFault 2 = .ok (.iconst 0, 1) := by decide +kernel
theorem dX2_firstFault_3 : decode cX2_firstFault 3 = .ok (.istore_n 3, 1) := by decide +kernel
theorem dX2_firstFault_4 : decode cX2_firstFault 4 = .ok (.iload_n 3, 1) := by decide +kernel
theorem dX2_firstFault_5 : decode cX2_firstFault 5 = .ok (.aload_n 0, 1) := by decide +kernel
theorem dX2_firstFault_6 : decode cX2_firstFault 6 = .ok (.getfield 15, 3) := by decide +kernel
theorem dX2_firstFault_9 : decode cX2_firstFault 9 = .ok (.if_icmp .ge 28, 3) := by decide +kernel
theorem dX2_firstFault_12 : decode cX2_firstFault 12 = .ok (.iload_n 2, 1) := by decide +kernel
theorem dX2_firstFault_13 : decode cX2_firstFault 13 = .ok (.aload_n 0, 1) := by decide +kernel
theorem dX2_firstFault_14 : decode cX2_firstFault 14 = .ok (.getfield 9, 3) := by decide +kernel
theorem dX2_firstFault_17 : decode cX2_firstFault 17 = .ok (.iload_n 3, 1) := by decide +kernel
theorem dX2_firstFault_18 : decode cX2_firstFault 18 = .ok (.iaload, 1) := by decide +kernel
theorem dX2_firstFault_19 : decode cX2_firstFault 19 = .ok (.iload_n 1, 1) := by decide +kernel
theorem dX2_firstFault_20 : decode cX2_firstFault 20 = .ok (.invokestatic 19, 3) := by decide +kernel
theorem dX2_firstFault_23 : decode cX2_firstFault 23 = .ok (.istore_n 2, 1) := by decide +kernel
theorem dX2_firstFault_24 : decode cX2_firstFault 24 = .ok (.iload_n 2, 1) := by decide +kernel
theorem dX2_firstFault_25 : decode cX2_firstFault 25 = .ok (.iconst 5, 1) := by decide +kernel
theorem dX2_firstFault_26 : decode cX2_firstFault 26 = .ok (.if_icmp .ne 5, 3) := by decide +kernel
theorem dX2_firstFault_29 : decode cX2_firstFault 29 = .ok (.iload_n 3, 1) := by decide +kernel
theorem dX2_firstFault_30 : decode cX2_firstFault 30 = .ok (.ireturn, 1) := by decide +kernel
theorem dX2_firstFault_31 : decode cX2_firstFault 31 = .ok (.iinc 3 1, 3) := by decide +kernel
theorem dX2_firstFault_34 : decode cX2_firstFault 34 = .ok (.goto (-30), 3) := by decide +kernel
theorem dX2_firstFault_37 : decode cX2_firstFault 37 = .ok (.iload_n 2, 1) := by decide +kernel
theorem dX2_firstFault_38 : decode cX2_firstFault 38 = .ok (.iconst 4, 1) := by decide +kernel
theorem dX2_firstFault_39 : decode cX2_firstFault 39 = .ok (.if_icmp .ne 7, 3) := by decide +kernel
theorem dX2_firstFault_42 : decode cX2_firstFault 42 = .ok (.iconst (-1), 1) := by decide +kernel
theorem dX2_firstFault_43 : decode cX2_firstFault 43 = .ok (.goto 7, 3) := by decide +kernel
theorem dX2_firstFault_46 : decode cX2_firstFault 46 = .ok (.aload_n 0, 1) := by decide +kernel
theorem dX2_firstFault_47 : decode cX2_firstFault 47 = .ok (.getfield 15, 3) := by decide +kernel
theorem dX2_firstFault_50 : decode cX2_firstFault 50 = .ok (.ireturn, 1) := by decide +kernel
theorem dX3_init_0 : decode cX3_init 0 = .ok (.aload_n 0, 1) := by decide +kernel
theorem dX3_init_1 : decode cX3_init 1 = .ok (.invokespecial 3, 3) := by decide +kernel
theorem dX3_init_4 : decode cX3_init 4 = .ok (.aload_n 0, 1) := by decide +kernel
theorem dX3_init_5 : decode cX3_init 5 = .ok (.sipush 256, 3) := by decide +kernel
theorem dX3_init_8 : decode cX3_init 8 = .ok (.newarray .int, 2) := by decide +kernel
theorem dX3_init_10 : decode cX3_init 10 = .ok (.putfield 9, 3) := by decide +kernel
theorem dX3_init_13 : decode cX3_init 13 = .ok (.aload_n 0, 1) := by decide +kernel
theorem dX3_init_14 : decode cX3_init 14 = .ok (.sipush 256, 3) := by decide +kernel
theorem dX3_init_17 : decode cX3_init 17 = .ok (.newarray .int, 2) := by decide +kernel
theorem dX3_init_19 : decode cX3_init 19 = .ok (.putfield 15, 3) := by decide +kernel
theorem dX3_init_22 : decode cX3_init 22 = .ok (.aload_n 0, 1) := by decide +kernel
theorem dX3_init_23 : decode cX3_init 23 = .ok (.sipush 2048, 3) := by decide +kernel
theorem dX3_init_26 : decode cX3_init 26 = .ok (.newarray .int, 2) := by decide +kernel
theorem dX3_init_28 : decode cX3_init 28 = .ok (.putfield 18, 3) := by decide +kernel
theorem dX3_init_31 : decode cX3_init 31 = .ok (.aload_n 0, 1) := by decide +kernel
theorem dX3_init_32 : decode cX3_init 32 = .ok (.sipush 256, 3) := by decide +kernel
theorem dX3_init_35 : decode cX3_init 35 = .ok (.newarray .int, 2) := by decide +kernel
theorem dX3_init_37 : decode cX3_init 37 = .ok (.putfield 21, 3) := by decide +kernel
theorem dX3_init_40 : decode cX3_init 40 = .ok (.aload_n 0, 1) := by decide +kernel
theorem dX3_init_41 : decode cX3_init 41 = .ok (.sipush 256, 3) := by decide +kernel
theorem dX3_init_44 : decode cX3_init 44 = .ok (.newarray .int, 2) := by decide +kernel
theorem dX3_init_46 : decode cX3_init 46 = .ok (.putfield 24, 3) := by decide +kernel
theorem dX3_init_49 : decode cX3_init 49 = .ok (.aload_n 0, 1) := by decide +kernel
theorem dX3_init_50 : decode cX3_init 50 = .ok (.sipush 256, 3) := by decide +kernel
theorem dX3_init_53 : decode cX3_init 53 = .ok (.newarray .int, 2) := by decide +kernel
theorem dX3_init_55 : decode cX3_init 55 = .ok (.putfield 27, 3) := by decide +kernel
theorem dX3_init_58 : decode cX3_init 58 = .ok (.aload_n 0, 1) := by decide +kernel
theorem dX3_init_59 : decode cX3_init 59 = .ok (.bipush 8, 2) := by decide +kernel
theorem dX3_init_61 : decode cX3_init 61 = .ok (.newarray .int, 2) := by decide +kernel
theorem dX3_init_63 : decode cX3_init 63 = .ok (.putfield 30, 3) := by decide +kernel
theorem dX3_init_66 : decode cX3_init 66 = .ok (.aload_n 0, 1) := by decide +kernel
theorem dX3_init_67 : decode cX3_init 67 = .ok (.sipush 181, 3) := by decide +kernel
theorem dX3_init_70 : decode cX3_init 70 = .ok (.newarray .int, 2) := by decide +kernel
theorem dX3_init_72 : decode cX3_init 72 = .ok (.putfield 33, 3) := by decide +kernel
theorem dX3_init_75 : decode cX3_init 75 = .ok (.aload_n 0, 1) := by decide +kernel
theorem dX3_init_76 : decode cX3_init 76 = .ok (.bipush 24, 2) := by decide +kernel
theorem dX3_init_78 : decode cX3_init 78 = .ok (.newarray .int, 2) := by decide +kernel
theorem dX3_init_80 : decode cX3_init 80 = .ok (.putfield 36, 3) := by decide +kernel
theorem dX3_init_83 : decode cX3_init 83 = .ok (.aload_n 0, 1) := by decide +kernel
theorem dX3_init_84 : decode cX3_init 84 = .ok (.bipush 24, 2) := by decide +kernel
theorem dX3_init_86 : decode cX3_init 86 = .ok (.newarray .int, 2) := by decide +kernel
theorem dX3_init_88 : decode cX3_init 88 = .ok (.putfield 39, 3) := by decide +kernel
theorem dX3_init_91 : decode cX3_init 91 = .ok (.aload_n 0, 1) := by decide +kernel
theorem dX3_init_92 : decode cX3_init 92 = .ok (.sipush 256, 3) := by decide +kernel
theorem dX3_init_95 : decode cX3_init 95 = .ok (.newarray .boolean, 2) := by decide +kernel
theorem dX3_init_97 : decode cX3_init 97 = .ok (.putfield 42, 3) := by decide +kernel
theorem dX3_init_100 : decode cX3_init 100 = .ok (.aload_n 0, 1) := by decide +kernel
theorem dX3_init_101 : decode cX3_init 101 = .ok (.iconst 1, 1) := by decide +kernel
theorem dX3_init_102 : decode cX3_init 102 = .ok (.putfield 46, 3) := by decide +kernel
theorem dX3_init_105 : decode cX3_init 105 = .ok (.aload_n 0, 1) := by decide +kernel
theorem dX3_init_106 : decode cX3_init 106 = .ok (.iconst 1, 1) := by decide +kernel
theorem dX3_init_107 : decode cX3_init 107 = .ok (.putfield 50, 3) := by decide +kernel
theorem dX3_init_110 : decode cX3_init 110 = .ok (.aload_n 0, 1) := by decide +kernel
theorem dX3_init_111 : decode cX3_init 111 = .ok (.iconst 1, 1) := by decide +kernel
theorem dX3_init_112 : decode cX3_init 112 = .ok (.putfield 53, 3) := by decide +kernel
theorem dX3_init_115 : decode cX3_init 115 = .ok (.aload_n 0, 1) := by decide +kernel
theorem dX3_init_116 : decode cX3_init 116 = .ok (.iconst 0, 1) := by decide +kernel
theorem dX3_init_117 : decode cX3_init 117 = .ok (.putfield 56, 3) := by decide +kernel
theorem dX3_init_120 : decode cX3_init 120 = .ok (.aload_n 0, 1) := by decide +kernel
theorem dX3_init_121 : decode cX3_init 121 = .ok (.aload_n 1, 1) := by decide +kernel
theorem dX3_init_122 : decode cX3_init 122 = .ok (.putfield 60, 3) := by decide +kernel
theorem dX3_init_125 : decode cX3_init 125 = .ok (.return_, 1) := by decide +kernel
theorem dX3_settle_0 : decode cX3_settle 0 = .ok (.aload_n 0, 1) := by decide +kernel
theorem dX3_settle_1 : decode cX3_settle 1 = .ok (.getfield 46, 3) := by decide +kernel
theorem dX3_settle_4 : decode cX3_settle 4 = .ok (.ifCond .eq 38, 3) := by decide +kernel
theorem dX3_settle_7 : decode cX3_settle 7 = .ok (.aload_n 0, 1) := by decide +kernel
theorem dX3_settle_8 : decode cX3_settle 8 = .ok (.invokevirtual 64, 3) := by decide +kernel
theorem dX3_settle_11 : decode cX3_settle 11 = .ok (.aload_n 0, 1) := by decide +kernel
theorem dX3_settle_12 : decode cX3_settle 12 = .ok (.invokevirtual 67, 3) := by decide +kernel
theorem dX3_settle_15 : decode cX3_settle 15 = .ok (.aload_n 0, 1) := by decide +kernel
theorem dX3_settle_16 : decode cX3_settle 16 = .ok (.invokevirtual 70, 3) := by decide +kernel
theorem dX3_settle_19 : decode cX3_settle 19 = .ok (.aload_n 0, 1) := by decide +kernel
theorem dX3_settle_20 : decode cX3_settle 20 = .ok (.invokevirtual 73, 3) := by decide +kernel
theorem dX3_settle_23 : decode cX3_settle 23 = .ok (.aload_n 0, 1) := by decide +kernel
theorem dX3_settle_24 : decode cX3_settle 24 = .ok (.invokevirtual 76, 3) := by decide +kernel
theorem dX3_settle_27 : decode cX3_settle 27 = .ok (.aload_n 0, 1) := by decide +kernel
theorem dX3_settle_28 : decode cX3_settle 28 = .ok (.iconst 0, 1) := by decide +kernel
theorem dX3_settle_29 : decode cX3_settle 29 = .ok (.putfield 46, 3) := by decide +kernel
theorem dX3_settle_32 : decode cX3_settle 32 = .ok (.aload_n 0, 1) := by decide +kernel
theorem dX3_settle_33 : decode cX3_settle 33 = .ok (.iconst 1, 1) := by decide +kernel
theorem dX3_settle_34 : decode cX3_settle 34 = .ok (.putfield 50, 3) := by decide +kernel
theorem dX3_settle_37 : decode cX3_settle 37 = .ok (.aload_n 0, 1) := by decide +kernel
theorem dX3_settle_38 : decode cX3_settle 38 = .ok (.iconst 1, 1) := by decide +kernel
theorem dX3_settle_39 : decode cX3_settle 39 = .ok (.putfield 53, 3) := by decide +kernel
theorem dX3_settle_42 : decode cX3_settle 42 = .ok (.aload_n 0, 1) := by decide +kernel
theorem dX3_settle_43 : decode cX3_settle 43 = .ok (.getfield 27, 3) := by decide +kernel
theorem dX3_settle_46 : decode cX3_settle 46 = .ok (.iconst 0, 1) := by decide +kernel
theorem dX3_settle_47 : decode cX3_settle 47 = .ok (.iaload, 1) := by decide +kernel
theorem dX3_settle_48 : decode cX3_settle 48 = .ok (.ifCond .le 7, 3) := by decide +kernel
theorem dX3_settle_51 : decode cX3_settle 51 = .ok (.iconst 1, 1) := by decide +kernel
theorem dX3_settle_52 : decode cX3_settle 52 = .ok (.goto 4, 3) := by decide +kernel
theorem dX3_settle_55 : decode cX3_settle 55 = .ok (.iconst 0, 1) := by decide +kernel
theorem dX3_settle_56 : decode cX3_settle 56 = .ok (.ireturn, 1) := by decide +kernel
theorem dX3_allGraves_0 : decode cX3_allGraves 0 = .ok (.iconst 1, 1) := by decide +kernel
theorem dX3_allGraves_1 : decode cX3_allGraves 1 = .ok (.aload_n 0, 1) := by decide +kernel
theorem dX3_allGraves_2 : decode cX3_allGraves 2 = .ok (.getfield 60, 3) := by decide +kernel
theorem dX3_allGraves_5 : decode cX3_allGraves 5 = .ok (.getfield 79, 3) := by decide +kernel
theorem dX3_allGraves_8 : decode cX3_allGraves 8 = .ok (.ishl, 1) := by decide +kernel
theorem dX3_allGraves_9 : decode cX3_allGraves 9 = .ok (.iconst 1, 1) := by decide +kernel
theorem dX3_allGraves_10 : decode cX3_allGraves 10 = .ok (.isub, 1) := by decide +kernel
theorem dX3_allGraves_11 : decode cX3_allGraves 11 = .ok (.ireturn, 1) := by decide +kernel
theorem dX3_fillSets_0 : decode cX3_fillSets 0 = .ok (.aload_n 0, 1) := by decide +kernel
theorem dX3_fillSets_1 : decode cX3_fillSets 1 = .ok (.invokevirtual 84, 3) := by decide +kernel
theorem dX3_fillSets_4 : decode cX3_fillSets 4 = .ok (.istore_n 1, 1) := by decide +kernel
theorem dX3_fillSets_5 : decode cX3_fillSets 5 = .ok (.aload_n 0, 1) := by decide +kernel
theorem dX3_fillSets_6 : decode cX3_fillSets 6 = .ok (.getfield 9, 3) := by decide +kernel
theorem dX3_fillSets_9 : decode cX3_fillSets 9 = .ok (.iconst 0, 1) := by decide +kernel
theorem dX3_fillSets_10 : decode cX3_fillSets 10 = .ok (.iconst 0, 1) := by decide +kernel
theorem dX3_fillSets_11 : decode cX3_fillSets 11 = .ok (.iastore, 1) := by decide +kernel
theorem dX3_fillSets_12 : decode cX3_fillSets 12 = .ok (.aload_n 0, 1) := by decide +kernel
theorem dX3_fillSets_13 : decode cX3_fillSets 13 = .ok (.getfield 15, 3) := by decide +kernel
theorem dX3_fillSets_16 : decode cX3_fillSets 16 = .ok (.iconst 0, 1) := by decide +kernel
theorem dX3_fillSets_17 : decode cX3_fillSets 17 = .ok (.iconst 0, 1) := by decide +kernel
theorem dX3_fillSets_18 : decode cX3_fillSets 18 = .ok (.iastore, 1) := by decide +kernel
theorem dX3_fillSets_19 : decode cX3_fillSets 19 = .ok (.iconst 1, 1) := by decide +kernel
theorem dX3_fillSets_20 : decode cX3_fillSets 20 = .ok (.istore_n 2, 1) := by decide +kernel
theorem dX3_fillSets_21 : decode cX3_fillSets 21 = .ok (.iload_n 2, 1) := by decide +kernel
theorem dX3_fillSets_22 : decode cX3_fillSets 22 = .ok (.iload_n 1, 1) := by decide +kernel
theorem dX3_fillSets_23 : decode cX3_fillSets 23 = .ok (.if_icmp .gt 69, 3) := by decide +kernel
theorem dX3_fillSets_26 : decode cX3_fillSets 26 = .ok (.iload_n 2, 1) := by decide +kernel
theorem dX3_fillSets_27 : decode cX3_fillSets 27 = .ok (.invokestatic 88, 3) := by decide +kernel
theorem dX3_fillSets_30 : decode cX3_fillSets 30 = .ok (.istore_n 3, 1) := by decide +kernel
theorem dX3_fillSets_31 : decode cX3_fillSets 31 = .ok (.iload_n 2, 1) := by decide +kernel
theorem dX3_fillSets_32 : decode cX3_fillSets 32 = .ok (.iload_n 2, 1) := by decide +kernel
theorem dX3_fillSets_33 : decode cX3_fillSets 33 = .ok (.iconst 1, 1) := by decide +kernel
theorem dX3_fillSets_34 : decode cX3_fillSets 34 = .ok (.isub, 1) := by decide +kernel
theorem dX3_fillSets_35 : decode cX3_fillSets 35 = .ok (.iand, 1) := by decide +kernel
theorem dX3_fillSets_36 : decode cX3_fillSets 36 = .ok (.istore 4, 2) := by decide +kernel
theorem dX3_fillSets_38 : decode cX3_fillSets 38 = .ok (.aload_n 0, 1) := by decide +kernel
theorem dX3_fillSets_39 : decode cX3_fillSets 39 = .ok (.getfield 9, 3) := by decide +kernel
theorem dX3_fillSets_42 : decode cX3_fillSets 42 = .ok (.iload_n 2, 1) := by decide +kernel
theorem dX3_fillSets_43 : decode cX3_fillSets 43 = .ok (.aload_n 0, 1) := by decide +kernel
theorem dX3_fillSets_44 : decode cX3_fillSets 44 = .ok (.getfield 9, 3) := by decide +kernel
theorem dX3_fillSets_47 : decode cX3_fillSets 47 = .ok (.iload 4, 2) := by decide +kernel
theorem dX3_fillSets_49 : decode cX3_fillSets 49 = .ok (.iaload, 1) := by decide +kernel
theorem dX3_fillSets_50 : decode cX3_fillSets 50 = .ok (.aload_n 0, 1) := by decide +kernel
theorem dX3_fillSets_51 : decode cX3_fillSets 51 = .ok (.getfield 60, 3) := by decide +kernel
theorem dX3_fillSets_54 : decode cX3_fillSets 54 = .ok (.getfield 94, 3) := by decide +kernel
theorem dX3_fillSets_57 : decode cX3_fillSets 57 = .ok (.iload_n 3, 1) := by decide +kernel
theorem dX3_fillSets_58 : decode cX3_fillSets 58 = .ok (.iaload, 1) := by decide +kernel
theorem dX3_fillSets_59 : decode cX3_fillSets 59 = .ok (.ior, 1) := by decide +kernel
theorem dX3_fillSets_60 : decode cX3_fillSets 60 = .ok (.iastore, 1) := by decide +kernel
theorem dX3_fillSets_61 : decode cX3_fillSets 61 = .ok (.aload_n 0, 1) := by decide +kernel
theorem dX3_fillSets_62 : decode cX3_fillSets 62 = .ok (.getfield 15, 3) := by decide +kernel
theorem dX3_fillSets_65 : decode cX3_fillSets 65 = .ok (.iload_n 2, 1) := by decide +kernel
theorem dX3_fillSets_66 : decode cX3_fillSets 66 = .ok (.aload_n 0, 1) := by decide +kernel
theorem dX3_fillSets_67 : decode cX3_fillSets 67 = .ok (.getfield 15, 3) := by decide +kernel
theorem dX3_fillSets_70 : decode cX3_fillSets 70 = .ok (.iload 4, 2) := by decide +kernel
theorem dX3_fillSets_72 : decode cX3_fillSets 72 = .ok (.iaload, 1) := by decide +kernel
theorem dX3_fillSets_73 : decode cX3_fillSets 73 = .ok (.aload_n 0, 1) := by decide +kernel
theorem dX3_fillSets_74 : decode cX3_fillSets 74 = .ok (.getfield 60, 3) := by decide +kernel
theorem dX3_fillSets_77 : decode cX3_fillSets 77 = .ok (.getfield 97, 3) := by decide +kernel
theorem dX3_fillSets_80 : decode cX3_fillSets 80 = .ok (.iload_n 3, 1) := by decide +kernel
theorem dX3_fillSets_81 : decode cX3_fillSets 81 = .ok (.iaload, 1) := by decide +kernel
theorem dX3_fillSets_82 : decode cX3_fillSets 82 = .ok (.invokestatic 100, 3) := by decide +kernel
theorem dX3_fillSets_85 : decode cX3_fillSets 85 = .ok (.iastore, 1) := by decide +kernel
theorem dX3_fillSets_86 : decode cX3_fillSets 86 = .ok (.iinc 2 1, 3) := by decide +kernel
theorem dX3_fillSets_89 : decode cX3_fillSets 89 = .ok (.goto (-68), 3) := by decide +kernel
theorem dX3_fillSets_92 : decode cX3_fillSets 92 = .ok (.return_, 1) := by decide +kernel
theorem dX3_fillSteps_0 : decode cX3_fillSteps 0 = .ok (.aload_n 0, 1) := by decide +kernel
theorem dX3_fillSteps_1 : decode cX3_fillSteps 1 = .ok (.invokevirtual 84, 3) := by decide +kernel
theorem dX3_fillSteps_4 : decode cX3_fillSteps 4 = .ok (.istore_n 1, 1) := by decide +kernel
theorem dX3_fillSteps_5 : decode cX3_fillSteps 5 = .ok (.iconst 0, 1) := by decide +kernel
theorem dX3_fillSteps_6 : decode cX3_fillSteps 6 = .ok (.istore_n 2, 1) := by decide +kernel
theorem dX3_fillSteps_7 : decode cX3_fillSteps 7 = .ok (.iload_n 2, 1) := by decide +kernel
theorem dX3_fillSteps_8 : decode cX3_fillSteps 8 = .ok (.iload_n 1, 1) := by decide +kernel
theorem dX3_fillSteps_9 : decode cX3_fillSteps 9 = .ok (.if_icmp .gt 58, 3) := by decide +kernel
theorem dX3_fillSteps_12 : decode cX3_fillSteps 12 = .ok (.iconst 0, 1) := by decide +kernel
theorem dX3_fillSteps_13 : decode cX3_fillSteps 13 = .ok (.istore_n 3, 1) := by decide +kernel
theorem dX3_fillSteps_14 : decode cX3_fillSteps 14 = .ok (.iload_n 3, 1) := by decide +kernel
theorem dX3_fillSteps_15 : decode cX3_fillSteps 15 = .ok (.aload_n 0, 1) := by decide +kernel
theorem dX3_fillSteps_16 : decode cX3_fillSteps 16 = .ok (.getfield 60, 3) := by decide +kernel
theorem dX3_fillSteps_19 : decode cX3_fillSteps 19 = .ok (.getfield 79, 3) := by decide +kernel
theorem dX3_fillSteps_22 : decode cX3_fillSteps 22 = .ok (.if_icmp .ge 39, 3) := by decide +kernel
theorem dX3_fillSteps_25 : decode cX3_fillSteps 25 = .ok (.aload_n 0, 1) := by decide +kernel
theorem dX3_fillSteps_26 : decode cX3_fillSteps 26 = .ok (.getfield 18, 3) := by decide +kernel
theorem dX3_fillSteps_29 : decode cX3_fillSteps 29 = .ok (.iload_n 2, 1) := by decide +kernel
theorem dX3_fillSteps_30 : decode cX3_fillSteps 30 = .ok (.bipush 8, 2) := by decide +kernel
theorem dX3_fillSteps_32 : decode cX3_fillSteps 32 = .ok (.imul, 1) := by decide +kernel
theorem dX3_fillSteps_33 : decode cX3_fillSteps 33 = .ok (.iload_n 3, 1) := by decide +kernel
theorem dX3_fillSteps_34 : decode cX3_fillSteps 34 = .ok (.iadd, 1) := by decide +kernel
theorem dX3_fillSteps_35 : decode cX3_fillSteps 35 = .ok (.aload_n 0, 1) := by decide +kernel
theorem dX3_fillSteps_36 : decode cX3_fillSteps 36 = .ok (.iload_n 2, 1) := by decide +kernel
theorem dX3_fillSteps_37 : decode cX3_fillSteps 37 = .ok (.iload_n 3, 1) := by decide +kernel
theorem dX3_fillSteps_38 : decode cX3_fillSteps 38 = .ok (.invokevirtual 106, 3) := by decide +kernel
theorem dX3_fillSteps_41 : decode cX3_fillSteps 41 = .ok (.ifCond .eq 12, 3) := by decide +kernel
theorem dX3_fillSteps_44 : decode cX3_fillSteps 44 = .ok (.aload_n 0, 1) := by decide +kernel
theorem dX3_fillSteps_45 : decode cX3_fillSteps 45 = .ok (.iload_n 2, 1) := by decide +kernel
theorem dX3_fillSteps_46 : decode cX3_fillSteps 46 = .ok (.iload_n 3, 1) := by decide +kernel
theorem dX3_fillSteps_47 : decode cX3_fillSteps 47 = .ok (.invokevirtual 110, 3) := by decide +kernel
theorem dX3_fillSteps_50 : decode cX3_fillSteps 50 = .ok (.goto 4, 3) := by decide +kernel
theorem dX3_fillSteps_53 : decode cX3_fillSteps 53 = .ok (.iconst (-1), 1) := by decide +kernel
theorem dX3_fillSteps_54 : decode cX3_fillSteps 54 = .ok (.iastore, 1) := by decide +kernel
theorem dX3_fillSteps_55 : decode cX3_fillSteps 55 = .ok (.iinc 3 1, 3) := by decide +kernel
theorem dX3_fillSteps_58 : decode cX3_fillSteps 58 = .ok (.goto (-44), 3) := by decide +kernel
theorem dX3_fillSteps_61 : decode cX3_fillSteps 61 = .ok (.iinc 2 1, 3) := by decide +kernel
theorem dX3_fillSteps_64 : decode cX3_fillSteps 64 = .ok (.goto (-57), 3) := by decide +kernel
theorem dX3_fillSteps_67 : decode cX3_fillSteps 67 = .ok (.return_, 1) := by decide +kernel
theorem dX3_canFollow_0 : decode cX3_canFollow 0 = .ok (.iload_n 1, 1) := by decide +kernel
theorem dX3_canFollow_1 : decode cX3_canFollow 1 = .ok (.iload_n 2, 1) := by decide +kernel
theorem dX3_canFollow_2 : decode cX3_canFollow 2 = .ok (.ishr, 1) := by decide +kernel
theorem dX3_canFollow_3 : decode cX3_canFollow 3 = .ok (.iconst 1, 1) := by decide +kernel
theorem dX3_canFollow_4 : decode cX3_canFollow 4 = .ok (.iand, 1) := by decide +kernel
theorem dX3_canFollow_5 : decode cX3_canFollow 5 = .ok (.ifCond .ne 45, 3) := by decide +kernel
theorem dX3_canFollow_8 : decode cX3_canFollow 8 = .ok (.aload_n 0, 1) := by decide +kernel
theorem dX3_canFollow_9 : decode cX3_canFollow 9 = .ok (.getfield 60, 3) := by decide +kernel
theorem dX3_canFollow_12 : decode cX3_canFollow 12 = .ok (.getfield 113, 3) := by decide +kernel
theorem dX3_canFollow_15 : decode cX3_canFollow 15 = .ok (.iload_n 2, 1) := by decide +kernel
theorem dX3_canFollow_16 : decode cX3_canFollow 16 = .ok (.iaload, 1) := by decide +kernel
theorem dX3_canFollow_17 : decode cX3_canFollow 17 = .ok (.iload_n 1, 1) := by decide +kernel
theorem dX3_canFollow_18 : decode cX3_canFollow 18 = .ok (.iconst (-1), 1) := by decide +kernel
theorem dX3_canFollow_19 : decode cX3_canFollow 19 = .ok (.ixor, 1) := by decide +kernel
theorem dX3_canFollow_20 : decode cX3_canFollow 20 = .ok (.iand, 1) := by decide +kernel
theorem dX3_canFollow_21 : decode cX3_canFollow 21 = .ok (.ifCond .ne 29, 3) := by decide +kernel
theorem dX3_canFollow_24 : decode cX3_canFollow 24 = .ok (.aload_n 0, 1) := by decide +kernel
theorem dX3_canFollow_25 : decode cX3_canFollow 25 = .ok (.getfield 15, 3) := by decide +kernel
theorem dX3_canFollow_28 : decode cX3_canFollow 28 = .ok (.iload_n 1, 1) := by decide +kernel
theorem dX3_canFollow_29 : decode cX3_canFollow 29 = .ok (.iconst 1, 1) := by decide +kernel
theorem dX3_canFollow_30 : decode cX3_canFollow 30 = .ok (.iload_n 2, 1) := by decide +kernel
theorem dX3_canFollow_31 : decode cX3_canFollow 31 = .ok (.ishl, 1) := by decide +kernel
theorem dX3_canFollow_32 : decode cX3_canFollow 32 = .ok (.ior, 1) := by decide +kernel
theorem dX3_canFollow_33 : decode cX3_canFollow 33 = .ok (.iaload, 1) := by decide +kernel
theorem dX3_canFollow_34 : decode cX3_canFollow 34 = .ok (.aload_n 0, 1) := by decide +kernel
theorem dX3_canFollow_35 : decode cX3_canFollow 35 = .ok (.getfield 60, 3) := by decide +kernel
theorem dX3_canFollow_38 : decode cX3_canFollow 38 = .ok (.getfield 116, 3) := by decide +kernel
theorem dX3_canFollow_41 : decode cX3_canFollow 41 = .ok (.iload_n 2, 1) := by decide +kernel
theorem dX3_canFollow_42 : decode cX3_canFollow 42 = .ok (.iaload, 1) := by decide +kernel
theorem dX3_canFollow_43 : decode cX3_canFollow 43 = .ok (.if_icmp .gt 7, 3) := by decide +kernel
theorem dX3_canFollow_46 : decode cX3_canFollow 46 = .ok (.iconst 1, 1) := by decide +kernel
theorem dX3_canFollow_47 : decode cX3_canFollow 47 = .ok (.goto 4, 3) := by decide +kernel
theorem dX3_canFollow_50 : decode cX3_canFollow 50 = .ok (.iconst 0, 1) := by decide +kernel
theorem dX3_canFollow_51 : decode cX3_canFollow 51 = .ok (.ireturn, 1) := by decide +kernel
theorem dX3_gapsAt_0 : decode cX3_gapsAt 0 = .ok (.aload_n 0, 1) := by decide +kernel
theorem dX3_gapsAt_1 : decode cX3_gapsAt 1 = .ok (.getfield 60, 3) := by decide +kernel
theorem dX3_gapsAt_4 : decode cX3_gapsAt 4 = .ok (.getfield 119, 3) := by decide +kernel
theorem dX3_gapsAt_7 : decode cX3_gapsAt 7 = .ok (.iload_n 2, 1) := by decide +kernel
theorem dX3_gapsAt_8 : decode cX3_gapsAt 8 = .ok (.ishr, 1) := by decide +kernel
theorem dX3_gapsAt_9 : decode cX3_gapsAt 9 = .ok (.iconst 1, 1) := by decide +kernel
theorem dX3_gapsAt_10 : decode cX3_gapsAt 10 = .ok (.iand, 1) := by decide +kernel
theorem dX3_gapsAt_11 : decode cX3_gapsAt 11 = .ok (.ifCond .eq 5, 3) := by decide +kernel
theorem dX3_gapsAt_14 : decode cX3_gapsAt 14 = .ok (.iconst 0, 1) := by decide +kernel
theorem dX3_gapsAt_15 : decode cX3_gapsAt 15 = .ok (.ireturn, 1) := by decide +kernel
theorem dX3_gapsAt_16 : decode cX3_gapsAt 16 = .ok (.aload_n 0, 1) := by decide +kernel
theorem dX3_gapsAt_17 : decode cX3_gapsAt 17 = .ok (.invokevirtual 84, 3) := by decide +kernel
theorem dX3_gapsAt_20 : decode cX3_gapsAt 20 = .ok (.iload_n 1, 1) := by decide +kernel
theorem dX3_gapsAt_21 : decode cX3_gapsAt 21 = .ok (.iconst (-1), 1) := by decide +kernel
theorem dX3_gapsAt_22 : decode cX3_gapsAt 22 = .ok (.ixor, 1) := by decide +kernel
theorem dX3_gapsAt_23 : decode cX3_gapsAt 23 = .ok (.iand, 1) := by decide +kernel
theorem dX3_gapsAt_24 : decode cX3_gapsAt 24 = .ok (.iconst 1, 1) := by decide +kernel
theorem dX3_gapsAt_25 : decode cX3_gapsAt 25 = .ok (.iload_n 2, 1) := by decide +kernel
theorem dX3_gapsAt_26 : decode cX3_gapsAt 26 = .ok (.ishl, 1) := by decide +kernel
theorem dX3_gapsAt_27 : decode cX3_gapsAt 27 = .ok (.iconst (-1), 1) := by decide +kernel
theorem dX3_gapsAt_28 : decode cX3_gapsAt 28 = .ok (.ixor, 1) := by decide +kernel
theorem dX3_gapsAt_29 : decode cX3_gapsAt 29 = .ok (.iand, 1) := by decide +kernel
theorem dX3_gapsAt_30 : decode cX3_gapsAt 30 = .ok (.istore_n 3, 1) := by decide +kernel
theorem dX3_gapsAt_31 : decode cX3_gapsAt 31 = .ok (.aload_n 0, 1) := by decide +kernel
theorem dX3_gapsAt_32 : decode cX3_gapsAt 32 = .ok (.getfield 60, 3) := by decide +kernel
theorem dX3_gapsAt_35 : decode cX3_gapsAt 35 = .ok (.getfield 122, 3) := by decide +kernel
theorem dX3_gapsAt_38 : decode cX3_gapsAt 38 = .ok (.aload_n 0, 1) := by decide +kernel
theorem dX3_gapsAt_39 : decode cX3_gapsAt 39 = .ok (.getfield 60, 3) := by decide +kernel
theorem dX3_gapsAt_42 : decode cX3_gapsAt 42 = .ok (.getfield 125, 3) := by decide +kernel
theorem dX3_gapsAt_45 : decode cX3_gapsAt 45 = .ok (.ior, 1) := by decide +kernel
theorem dX3_gapsAt_46 : decode cX3_gapsAt 46 = .ok (.istore 4, 2) := by decide +kernel
theorem dX3_gapsAt_48 : decode cX3_gapsAt 48 = .ok (.aload_n 0, 1) := by decide +kernel
theorem dX3_gapsAt_49 : decode cX3_gapsAt 49 = .ok (.getfield 9, 3) := by decide +kernel
theorem dX3_gapsAt_52 : decode cX3_gapsAt 52 = .ok (.iload_n 1, 1) := by decide +kernel
theorem dX3_gapsAt_53 : decode cX3_gapsAt 53 = .ok (.iaload, 1) := by decide +kernel
theorem dX3_gapsAt_54 : decode cX3_gapsAt 54 = .ok (.aload_n 0, 1) := by decide +kernel
theorem dX3_gapsAt_55 : decode cX3_gapsAt 55 = .ok (.getfield 9, 3) := by decide +kernel
theorem dX3_gapsAt_58 : decode cX3_gapsAt 58 = .ok (.iload_n 3, 1) := by decide +kernel
theorem dX3_gapsAt_59 : decode cX3_gapsAt 59 = .ok (.iaload, 1) := by decide +kernel
theorem dX3_gapsAt_60 : decode cX3_gapsAt 60 = .ok (.iand, 1) := by decide +kernel
theorem dX3_gapsAt_61 : decode cX3_gapsAt 61 = .ok (.aload_n 0, 1) := by decide +kernel
theorem dX3_gapsAt_62 : decode cX3_gapsAt 62 = .ok (.getfield 60, 3) := by decide +kernel
theorem dX3_gapsAt_65 : decode cX3_gapsAt 65 = .ok (.getfield 94, 3) := by decide +kernel
theorem dX3_gapsAt_68 : decode cX3_gapsAt 68 = .ok (.iload_n 2, 1) := by decide +kernel
theorem dX3_gapsAt_69 : decode cX3_gapsAt 69 = .ok (.iaload, 1) := by decide +kernel
theorem dX3_gapsAt_70 : decode cX3_gapsAt 70 = .ok (.iconst (-1), 1) := by decide +kernel
theorem dX3_gapsAt_71 : decode cX3_gapsAt 71 = .ok (.ixor, 1) := by decide +kernel
theorem dX3_gapsAt_72 : decode cX3_gapsAt 72 = .ok (.iand, 1) := by decide +kernel
theorem dX3_gapsAt_73 : decode cX3_gapsAt 73 = .ok (.iload 4, 2) := by decide +kernel
theorem dX3_gapsAt_75 : decode cX3_gapsAt 75 = .ok (.iand, 1) := by decide +kernel
theorem dX3_gapsAt_76 : decode cX3_gapsAt 76 = .ok (.ireturn, 1) := by decide +kernel
theorem dX3_fillAhead_0 : decode cX3_fillAhead 0 = .ok (.aload_n 0, 1) := by decide +kernel
theorem dX3_fillAhead_1 : decode cX3_fillAhead 1 = .ok (.invokevirtual 84, 3) := by decide +kernel
theorem dX3_fillAhead_4 : decode cX3_fillAhead 4 = .ok (.istore_n 1, 1) := by decide +kernel
theorem dX3_fillAhead_5 : decode cX3_fillAhead 5 = .ok (.iconst 0, 1) := by decide +kernel
theorem dX3_fillAhead_6 : decode cX3_fillAhead 6 = .ok (.istore_n 2, 1) := by decide +kernel
theorem dX3_fillAhead_7 : decode cX3_fillAhead 7 = .ok (.iload_n 2, 1) := by decide +kernel
theorem dX3_fillAhead_8 : decode cX3_fillAhead 8 = .ok (.iload_n 1, 1) := by decide +kernel
theorem dX3_fillAhead_9 : decode cX3_fillAhead 9 = .ok (.if_icmp .gt 25, 3) := by decide +kernel
theorem dX3_fillAhead_12 : decode cX3_fillAhead 12 = .ok (.aload_n 0, 1) := by decide +kernel
theorem dX3_fillAhead_13 : decode cX3_fillAhead 13 = .ok (.getfield 21, 3) := by decide +kernel
theorem dX3_fillAhead_16 : decode cX3_fillAhead 16 = .ok (.iload_n 2, 1) := by decide +kernel
theorem dX3_fillAhead_17 : decode cX3_fillAhead 17 = .ok (.iload_n 2, 1) := by decide +kernel
theorem dX3_fillAhead_18 : decode cX3_fillAhead 18 = .ok (.ifCond .ne 7, 3) := by decide +kernel
theorem dX3_fillAhead_21 : decode cX3_fillAhead 21 = .ok (.iconst 0, 1) := by decide +kernel
theorem dX3_fillAhead_22 : decode cX3_fillAhead 22 = .ok (.goto 5, 3) := by decide +kernel
theorem dX3_fillAhead_25 : decode cX3_fillAhead 25 = .ok (.ldc 128, 2) := by decide +kernel
theorem dX3_fillAhead_27 : decode cX3_fillAhead 27 = .ok (.iastore, 1) := by decide +kernel
theorem dX3_fillAhead_28 : decode cX3_fillAhead 28 = .ok (.iinc 2 1, 3) := by decide +kernel
theorem dX3_fillAhead_31 : decode cX3_fillAhead 31 = .ok (.goto (-24), 3) := by decide +kernel
theorem dX3_fillAhead_34 : decode cX3_fillAhead 34 = .ok (.iconst 0, 1) := by decide +kernel
theorem dX3_fillAhead_35 : decode cX3_fillAhead 35 = .ok (.istore_n 2, 1) := by decide +kernel
theorem dX3_fillAhead_36 : decode cX3_fillAhead 36 = .ok (.iload_n 2, 1) := by decide +kernel
theorem dX3_fillAhead_37 : decode cX3_fillAhead 37 = .ok (.iload_n 1, 1) := by decide +kernel
theorem dX3_fillAhead_38 : decode cX3_fillAhead 38 = .ok (.if_icmp .ge 87, 3) := by decide +kernel
theorem dX3_fillAhead_41 : decode cX3_fillAhead 41 = .ok (.iconst 0, 1) := by decide +kernel
theorem dX3_fillAhead_42 : decode cX3_fillAhead 42 = .ok (.istore_n 3, 1) := by decide +kernel
theorem dX3_fillAhead_43 : decode cX3_fillAhead 43 = .ok (.iload_n 3, 1) := by decide +kernel
theorem dX3_fillAhead_44 : decode cX3_fillAhead 44 = .ok (.aload_n 0, 1) := by decide +kernel
theorem dX3_fillAhead_45 : decode cX3_fillAhead 45 = .ok (.getfield 60, 3) := by decide +kernel
theorem dX3_fillAhead_48 : decode cX3_fillAhead 48 = .ok (.getfield 79, 3) := by decide +kernel
theorem dX3_fillAhead_51 : decode cX3_fillAhead 51 = .ok (.if_icmp .ge 68, 3) := by decide +kernel
theorem dX3_fillAhead_54 : decode cX3_fillAhead 54 = .ok (.aload_n 0, 1) := by decide +kernel
theorem dX3_fillAhead_55 : decode cX3_fillAhead 55 = .ok (.getfield 18, 3) := by decide +kernel
theorem dX3_fillAhead_58 : decode cX3_fillAhead 58 = .ok (.iload_n 2, 1) := by decide +kernel
theorem dX3_fillAhead_59 : decode cX3_fillAhead 59 = .ok (.bipush 8, 2) := by decide +kernel
theorem dX3_fillAhead_61 : decode cX3_fillAhead 61 = .ok (.imul, 1) := by decide +kernel
theorem dX3_fillAhead_62 : decode cX3_fillAhead 62 = .ok (.iload_n 3, 1) := by decide +kernel
theorem dX3_fillAhead_63 : decode cX3_fillAhead 63 = .ok (.iadd, 1) := by decide +kernel
theorem dX3_fillAhead_64 : decode cX3_fillAhead 64 = .ok (.iaload, 1) := by decide +kernel
theorem dX3_fillAhead_65 : decode cX3_fillAhead 65 = .ok (.istore 4, 2) := by decide +kernel
theorem dX3_fillAhead_67 : decode cX3_fillAhead 67 = .ok (.iload 4, 2) := by decide +kernel
theorem dX3_fillAhead_69 : decode cX3_fillAhead 69 = .ok (.iconst (-1), 1) := by decide +kernel
theorem dX3_fillAhead_70 : decode cX3_fillAhead 70 = .ok (.if_icmp .eq 43, 3) := by decide +kernel
theorem dX3_fillAhead_73 : decode cX3_fillAhead 73 = .ok (.iload_n 2, 1) := by decide +kernel
theorem dX3_fillAhead_74 : decode cX3_fillAhead 74 = .ok (.iconst 1, 1) := by decide +kernel
theorem dX3_fillAhead_75 : decode cX3_fillAhead 75 = .ok (.iload_n 3, 1) := by decide +kernel
theorem dX3_fillAhead_76 : decode cX3_fillAhead 76 = .ok (.ishl, 1) := by decide +kernel
theorem dX3_fillAhead_77 : decode cX3_fillAhead 77 = .ok (.ior, 1) := by decide +kernel
theorem dX3_fillAhead_78 : decode cX3_fillAhead 78 = .ok (.istore 5, 2) := by decide +kernel
theorem dX3_fillAhead_80 : decode cX3_fillAhead 80 = .ok (.aload_n 0, 1) := by decide +kernel
theorem dX3_fillAhead_81 : decode cX3_fillAhead 81 = .ok (.getfield 21, 3) := by decide +kernel
theorem dX3_fillAhead_84 : decode cX3_fillAhead 84 = .ok (.iload 5, 2) := by decide +kernel
theorem dX3_fillAhead_86 : decode cX3_fillAhead 86 = .ok (.aload_n 0, 1) := by decide +kernel
theorem dX3_fillAhead_87 : decode cX3_fillAhead 87 = .ok (.getfield 21, 3) := by decide +kernel
theorem dX3_fillAhead_90 : decode cX3_fillAhead 90 = .ok (.iload 5, 2) := by decide +kernel
theorem dX3_fillAhead_92 : decode cX3_fillAhead 92 = .ok (.iaload, 1) := by decide +kernel
theorem dX3_fillAhead_93 : decode cX3_fillAhead 93 = .ok (.aload_n 0, 1) := by decide +kernel
theorem dX3_fillAhead_94 : decode cX3_fillAhead 94 = .ok (.getfield 21, 3) := by decide +kernel
theorem dX3_fillAhead_97 : decode cX3_fillAhead 97 = .ok (.iload_n 2, 1) := by decide +kernel
theorem dX3_fillAhead_98 : decode cX3_fillAhead 98 = .ok (.iaload, 1) := by decide +kernel
theorem dX3_fillAhead_99 : decode cX3_fillAhead 99 = .ok (.aload_n 0, 1) := by decide +kernel
theorem dX3_fillAhead_100 : decode cX3_fillAhead 100 = .ok (.getfield 60, 3) := by decide +kernel
theorem dX3_fillAhead_103 : decode cX3_fillAhead 103 = .ok (.iload 4, 2) := by decide +kernel
theorem dX3_fillAhead_105 : decode cX3_fillAhead 105 = .ok (.invokevirtual 129, 3) := by decide +kernel
theorem dX3_fillAhead_108 : decode cX3_fillAhead 108 = .ok (.iadd, 1) := by decide +kernel
theorem dX3_fillAhead_109 : decode cX3_fillAhead 109 = .ok (.invokestatic 132, 3) := by decide +kernel
theorem dX3_fillAhead_112 : decode cX3_fillAhead 112 = .ok (.iastore, 1) := by decide +kernel
theorem dX3_fillAhead_113 : decode cX3_fillAhead 113 = .ok (.iinc 3 1, 3) := by decide +kernel
theorem dX3_fillAhead_116 : decode cX3_fillAhead 116 = .ok (.goto (-73), 3) := by decide +kernel
theorem dX3_fillAhead_119 : decode cX3_fillAhead 119 = .ok (.iinc 2 1, 3) := by decide +kernel
theorem dX3_fillAhead_122 : decode cX3_fillAhead 122 = .ok (.goto (-86), 3) := by decide +kernel
theorem dX3_fillAhead_125 : decode cX3_fillAhead 125 = .ok (.return_, 1) := by decide +kernel
theorem dX3_fillBehind_0 : decode cX3_fillBehind 0 = .ok (.aload_n 0, 1) := by decide +kernel
theorem dX3_fillBehind_1 : decode cX3_fillBehind 1 = .ok (.invokevirtual 84, 3) := by decide +kernel
theorem dX3_fillBehind_4 : decode cX3_fillBehind 4 = .ok (.istore_n 1, 1) := by decide +kernel
theorem dX3_fillBehind_5 : decode cX3_fillBehind 5 = .ok (.aload_n 0, 1) := by decide +kernel
theorem dX3_fillBehind_6 : decode cX3_fillBehind 6 = .ok (.getfield 24, 3) := by decide +kernel
theorem dX3_fillBehind_9 : decode cX3_fillBehind 9 = .ok (.iload_n 1, 1) := by decide +kernel
theorem dX3_fillBehind_10 : decode cX3_fillBehind 10 = .ok (.iconst 0, 1) := by decide +kernel
theorem dX3_fillBehind_11 : decode cX3_fillBehind 11 = .ok (.iastore, 1) := by decide +kernel
theorem dX3_fillBehind_12 : decode cX3_fillBehind 12 = .ok (.aload_n 0, 1) := by decide +kernel
theorem dX3_fillBehind_13 : decode cX3_fillBehind 13 = .ok (.getfield 27, 3) := by decide +kernel
theorem dX3_fillBehind_16 : decode cX3_fillBehind 16 = .ok (.iload_n 1, 1) := by decide +kernel
theorem dX3_fillBehind_17 : decode cX3_fillBehind 17 = .ok (.iconst 1, 1) := by decide +kernel
theorem dX3_fillBehind_18 : decode cX3_fillBehind 18 = .ok (.iastore, 1) := by decide +kernel
theorem dX3_fillBehind_19 : decode cX3_fillBehind 19 = .ok (.iload_n 1, 1) := by decide +kernel
theorem dX3_fillBehind_20 : decode cX3_fillBehind 20 = .ok (.iconst 1, 1) := by decide +kernel
theorem dX3_fillBehind_21 : decode cX3_fillBehind 21 = .ok (.isub, 1) := by decide +kernel
theorem dX3_fillBehind_22 : decode cX3_fillBehind 22 = .ok (.istore_n 2, 1) := by decide +kernel
theorem dX3_fillBehind_23 : decode cX3_fillBehind 23 = .ok (.iload_n 2, 1) := by decide +kernel
theorem dX3_fillBehind_24 : decode cX3_fillBehind 24 = .ok (.ifCond .lt 49, 3) := by decide +kernel
theorem dX3_fillBehind_27 : decode cX3_fillBehind 27 = .ok (.aload_n 0, 1) := by decide +kernel
theorem dX3_fillBehind_28 : decode cX3_fillBehind 28 = .ok (.getfield 24, 3) := by decide +kernel
theorem dX3_fillBehind_31 : decode cX3_fillBehind 31 = .ok (.iload_n 2, 1) := by decide +kernel
theorem dX3_fillBehind_32 : decode cX3_fillBehind 32 = .ok (.ldc 128, 2) := by decide +kernel
theorem dX3_fillBehind_34 : decode cX3_fillBehind 34 = .ok (.iastore, 1) := by decide +kernel
theorem dX3_fillBehind_35 : decode cX3_fillBehind 35 = .ok (.aload_n 0, 1) := by decide +kernel
theorem dX3_fillBehind_36 : decode cX3_fillBehind 36 = .ok (.getfield 27, 3) := by decide +kernel
theorem dX3_fillBehind_39 : decode cX3_fillBehind 39 = .ok (.iload_n 2, 1) := by decide +kernel
theorem dX3_fillBehind_40 : decode cX3_fillBehind 40 = .ok (.iconst 0, 1) := by decide +kernel
theorem dX3_fillBehind_41 : decode cX3_fillBehind 41 = .ok (.iastore, 1) := by decide +kernel
theorem dX3_fillBehind_42 : decode cX3_fillBehind 42 = .ok (.iconst 0, 1) := by decide +kernel
theorem dX3_fillBehind_43 : decode cX3_fillBehind 43 = .ok (.istore_n 3, 1) := by decide +kernel
theorem dX3_fillBehind_44 : decode cX3_fillBehind 44 = .ok (.iload_n 3, 1) := by decide +kernel
theorem dX3_fillBehind_45 : decode cX3_fillBehind 45 = .ok (.aload_n 0, 1) := by decide +kernel
theorem dX3_fillBehind_46 : decode cX3_fillBehind 46 = .ok (.getfield 60, 3) := by decide +kernel
theorem dX3_fillBehind_49 : decode cX3_fillBehind 49 = .ok (.getfield 79, 3) := by decide +kernel
theorem dX3_fillBehind_52 : decode cX3_fillBehind 52 = .ok (.if_icmp .ge 15, 3) := by decide +kernel
theorem dX3_fillBehind_55 : decode cX3_fillBehind 55 = .ok (.aload_n 0, 1) := by decide +kernel
theorem dX3_fillBehind_56 : decode cX3_fillBehind 56 = .ok (.iload_n 2, 1) := by decide +kernel
theorem dX3_fillBehind_57 : decode cX3_fillBehind 57 = .ok (.iload_n 3, 1) := by decide +kernel
theorem dX3_fillBehind_58 : decode cX3_fillBehind 58 = .ok (.invokevirtual 135, 3) := by decide +kernel
theorem dX3_fillBehind_61 : decode cX3_fillBehind 61 = .ok (.iinc 3 1, 3) := by decide +kernel
theorem dX3_fillBehind_64 : decode cX3_fillBehind 64 = .ok (.goto (-20), 3) := by decide +kernel
theorem dX3_fillBehind_67 : decode cX3_fillBehind 67 = .ok (.iinc 2 (-1), 3) := by decide +kernel
theorem dX3_fillBehind_70 : decode cX3_fillBehind 70 = .ok (.goto (-47), 3) := by decide +kernel
theorem dX3_fillBehind_73 : decode cX3_fillBehind 73 = .ok (.return_, 1) := by decide +kernel
theorem dX3_tryNext_0 : decode cX3_tryNext 0 = .ok (.aload_n 0, 1) := by decide +kernel
theorem dX3_tryNext_1 : decode cX3_tryNext 1 = .ok (.getfield 18, 3) := by decide +kernel
theorem dX3_tryNext_4 : decode cX3_tryNext 4 = .ok (.iload_n 1, 1) := by decide +kernel
theorem dX3_tryNext_5 : decode cX3_tryNext 5 = .ok (.bipush 8, 2) := by decide +kernel
theorem dX3_tryNext_7 : decode cX3_tryNext 7 = .ok (.imul, 1) := by decide +kernel
theorem dX3_tryNext_8 : decode cX3_tryNext 8 = .ok (.iload_n 2, 1) := by decide +kernel
theorem dX3_tryNext_9 : decode cX3_tryNext 9 = .ok (.iadd, 1) := by decide +kernel
theorem dX3_tryNext_10 : decode cX3_tryNext 10 = .ok (.iaload, 1) := by decide +kernel
theorem dX3_tryNext_11 : decode cX3_tryNext 11 = .ok (.istore_n 3, 1) := by decide +kernel
theorem dX3_tryNext_12 : decode cX3_tryNext 12 = .ok (.iload_n 3, 1) := by decide +kernel
theorem dX3_tryNext_13 : decode cX3_tryNext 13 = .ok (.iconst (-1), 1) := by decide +kernel
theorem dX3_tryNext_14 : decode cX3_tryNext 14 = .ok (.if_icmp .ne 4, 3) := by decide +kernel
theorem dX3_tryNext_17 : decode cX3_tryNext 17 = .ok (.return_, 1) := by decide +kernel
theorem dX3_tryNext_18 : decode cX3_tryNext 18 = .ok (.iload_n 1, 1) := by decide +kernel
theorem dX3_tryNext_19 : decode cX3_tryNext 19 = .ok (.iconst 1, 1) := by decide +kernel
theorem dX3_tryNext_20 : decode cX3_tryNext 20 = .ok (.iload_n 2, 1) := by decide +kernel
theorem dX3_tryNext_21 : decode cX3_tryNext 21 = .ok (.ishl, 1) := by decide +kernel
theorem dX3_tryNext_22 : decode cX3_tryNext 22 = .ok (.ior, 1) := by decide +kernel
theorem dX3_tryNext_23 : decode cX3_tryNext 23 = .ok (.istore 4, 2) := by decide +kernel
theorem dX3_tryNext_25 : decode cX3_tryNext 25 = .ok (.aload_n 0, 1) := by decide +kernel
theorem dX3_tryNext_26 : decode cX3_tryNext 26 = .ok (.getfield 24, 3) := by decide +kernel
theorem dX3_tryNext_29 : decode cX3_tryNext 29 = .ok (.iload 4, 2) := by decide +kernel
theorem dX3_tryNext_31 : decode cX3_tryNext 31 = .ok (.iaload, 1) := by decide +kernel
theorem dX3_tryNext_32 : decode cX3_tryNext 32 = .ok (.aload_n 0, 1) := by decide +kernel
theorem dX3_tryNext_33 : decode cX3_tryNext 33 = .ok (.getfield 60, 3) := by decide +kernel
theorem dX3_tryNext_36 : decode cX3_tryNext 36 = .ok (.iload_n 3, 1) := by decide +kernel
theorem dX3_tryNext_37 : decode cX3_tryNext 37 = .ok (.invokevirtual 129, 3) := by decide +kernel
theorem dX3_tryNext_40 : decode cX3_tryNext 40 = .ok (.iadd, 1) := by decide +kernel
theorem dX3_tryNext_41 : decode cX3_tryNext 41 = .ok (.istore 5, 2) := by decide +kernel
theorem dX3_tryNext_43 : decode cX3_tryNext 43 = .ok (.aload_n 0, 1) := by decide +kernel
theorem dX3_tryNext_44 : decode cX3_tryNext 44 = .ok (.getfield 27, 3) := by decide +kernel
theorem dX3_tryNext_47 : decode cX3_tryNext 47 = .ok (.iload 4, 2) := by decide +kernel
theorem dX3_tryNext_49 : decode cX3_tryNext 49 = .ok (.iaload, 1) := by decide +kernel
theorem dX3_tryNext_50 : decode cX3_tryNext 50 = .ok (.ifCond .eq 14, 3) := by decide +kernel
theorem dX3_tryNext_53 : decode cX3_tryNext 53 = .ok (.iload 5, 2) := by decide +kernel
theorem dX3_tryNext_55 : decode cX3_tryNext 55 = .ok (.aload_n 0, 1) := by decide +kernel
theorem dX3_tryNext_56 : decode cX3_tryNext 56 = .ok (.getfield 24, 3) := by decide +kernel
theorem dX3_tryNext_59 : decode cX3_tryNext 59 = .ok (.iload_n 1, 1) := by decide +kernel
theorem dX3_tryNext_60 : decode cX3_tryNext 60 = .ok (.iaload, 1) := by decide +kernel
theorem dX3_tryNext_61 : decode cX3_tryNext 61 = .ok (.if_icmp .le 4, 3) := by decide +kernel
theorem dX3_tryNext_64 : decode cX3_tryNext 64 = .ok (.return_, 1) := by decide +kernel
theorem dX3_tryNext_65 : decode cX3_tryNext 65 = .ok (.aload_n 0, 1) := by decide +kernel
theorem dX3_tryNext_66 : decode cX3_tryNext 66 = .ok (.getfield 27, 3) := by decide +kernel
theorem dX3_tryNext_69 : decode cX3_tryNext 69 = .ok (.iload_n 1, 1) := by decide +kernel
theorem dX3_tryNext_70 : decode cX3_tryNext 70 = .ok (.iload 5, 2) := by decide +kernel
theorem dX3_tryNext_72 : decode cX3_tryNext 72 = .ok (.aload_n 0, 1) := by decide +kernel
theorem dX3_tryNext_73 : decode cX3_tryNext 73 = .ok (.getfield 24, 3) := by decide +kernel
theorem dX3_tryNext_76 : decode cX3_tryNext 76 = .ok (.iload_n 1, 1) := by decide +kernel
theorem dX3_tryNext_77 : decode cX3_tryNext 77 = .ok (.iaload, 1) := by decide +kernel
theorem dX3_tryNext_78 : decode cX3_tryNext 78 = .ok (.if_icmp .ge 13, 3) := by decide +kernel
theorem dX3_tryNext_81 : decode cX3_tryNext 81 = .ok (.aload_n 0, 1) := by decide +kernel
theorem dX3_tryNext_82 : decode cX3_tryNext 82 = .ok (.getfield 27, 3) := by decide +kernel
theorem dX3_tryNext_85 : decode cX3_tryNext 85 = .ok (.iload 4, 2) := by decide +kernel
theorem dX3_tryNext_87 : decode cX3_tryNext 87 = .ok (.iaload, 1) := by decide +kernel
theorem dX3_tryNext_88 : decode cX3_tryNext 88 = .ok (.goto 17, 3) := by decide +kernel
theorem dX3_tryNext_91 : decode cX3_tryNext 91 = .ok (.aload_n 0, 1) := by decide +kernel
theorem dX3_tryNext_92 : decode cX3_tryNext 92 = .ok (.getfield 27, 3) := by decide +kernel
theorem dX3_tryNext_95 : decode cX3_tryNext 95 = .ok (.iload_n 1, 1) := by decide +kernel
theorem dX3_tryNext_96 : decode cX3_tryNext 96 = .ok (.iaload, 1) := by decide +kernel
theorem dX3_tryNext_97 : decode cX3_tryNext 97 = .ok (.aload_n 0, 1) := by decide +kernel
theorem dX3_tryNext_98 : decode cX3_tryNext 98 = .ok (.getfield 27, 3) := by decide +kernel
theorem dX3_tryNext_101 : decode cX3_tryNext 101 = .ok (.iload 4, 2) := by decide +kernel
theorem dX3_tryNext_103 : decode cX3_tryNext 103 = .ok (.iaload, 1) := by decide +kernel
theorem dX3_tryNext_104 : decode cX3_tryNext 104 = .ok (.iadd, 1) := by decide +kernel
theorem dX3_tryNext_105 : decode cX3_tryNext 105 = .ok (.iastore, 1) := by decide +kernel
theorem dX3_tryNext_106 : decode cX3_tryNext 106 = .ok (.aload_n 0, 1) := by decide +kernel
theorem dX3_tryNext_107 : decode cX3_tryNext 107 = .ok (.getfield 24, 3) := by decide +kernel
theorem dX3_tryNext_110 : decode cX3_tryNext 110 = .ok (.iload_n 1, 1) := by decide +kernel
theorem dX3_tryNext_111 : decode cX3_tryNext 111 = .ok (.iload 5, 2) := by decide +kernel
theorem dX3_tryNext_113 : decode cX3_tryNext 113 = .ok (.iastore, 1) := by decide +kernel
theorem dX3_tryNext_114 : decode cX3_tryNext 114 = .ok (.return_, 1) := by decide +kernel
theorem dX3_fillRow_0 : decode cX3_fillRow 0 = .ok (.iconst 0, 1) := by decide +kernel
theorem dX3_fillRow_1 : decode cX3_fillRow 1 = .ok (.istore_n 1, 1) := by decide +kernel
theorem dX3_fillRow_2 : decode cX3_fillRow 2 = .ok (.iconst 0, 1) := by decide +kernel
theorem dX3_fillRow_3 : decode cX3_fillRow 3 = .ok (.istore_n 2, 1) := by decide +kernel
theorem dX3_fillRow_4 : decode cX3_fillRow 4 = .ok (.iload_n 2, 1) := by decide +kernel
theorem dX3_fillRow_5 : decode cX3_fillRow 5 = .ok (.aload_n 0, 1) := by decide +kernel
theorem dX3_fillRow_6 : decode cX3_fillRow 6 = .ok (.getfield 60, 3) := by decide +kernel
theorem dX3_fillRow_9 : decode cX3_fillRow 9 = .ok (.getfield 79, 3) := by decide +kernel
theorem dX3_fillRow_12 : decode cX3_fillRow 12 = .ok (.if_icmp .ge 37, 3) := by decide +kernel
theorem dX3_fillRow_15 : decode cX3_fillRow 15 = .ok (.aload_n 0, 1) := by decide +kernel
theorem dX3_fillRow_16 : decode cX3_fillRow 16 = .ok (.getfield 27, 3) := by decide +kernel
theorem dX3_fillRow_19 : decode cX3_fillRow 19 = .ok (.iload_n 1, 1) := by decide +kernel
theorem dX3_fillRow_20 : decode cX3_fillRow 20 = .ok (.iaload, 1) := by decide +kernel
theorem dX3_fillRow_21 : decode cX3_fillRow 21 = .ok (.ifCond .le 28, 3) := by decide +kernel
theorem dX3_fillRow_24 : decode cX3_fillRow 24 = .ok (.aload_n 0, 1) := by decide +kernel
theorem dX3_fillRow_25 : decode cX3_fillRow 25 = .ok (.iload_n 1, 1) := by decide +kernel
theorem dX3_fillRow_26 : decode cX3_fillRow 26 = .ok (.invokevirtual 139, 3) := by decide +kernel
theorem dX3_fillRow_29 : decode cX3_fillRow 29 = .ok (.istore_n 3, 1) := by decide +kernel
theorem dX3_fillRow_30 : decode cX3_fillRow 30 = .ok (.aload_n 0, 1) := by decide +kernel
theorem dX3_fillRow_31 : decode cX3_fillRow 31 = .ok (.getfield 30, 3) := by decide +kernel
theorem dX3_fillRow_34 : decode cX3_fillRow 34 = .ok (.iload_n 2, 1) := by decide +kernel
theorem dX3_fillRow_35 : decode cX3_fillRow 35 = .ok (.iload_n 3, 1) := by decide +kernel
theorem dX3_fillRow_36 : decode cX3_fillRow 36 = .ok (.iastore, 1) := by decide +kernel
theorem dX3_fillRow_37 : decode cX3_fillRow 37 = .ok (.iload_n 1, 1) := by decide +kernel
theorem dX3_fillRow_38 : decode cX3_fillRow 38 = .ok (.iconst 1, 1) := by decide +kernel
theorem dX3_fillRow_39 : decode cX3_fillRow 39 = .ok (.iload_n 3, 1) := by decide +kernel
theorem dX3_fillRow_40 : decode cX3_fillRow 40 = .ok (.ishl, 1) := by decide +kernel
theorem dX3_fillRow_41 : decode cX3_fillRow 41 = .ok (.ior, 1) := by decide +kernel
theorem dX3_fillRow_42 : decode cX3_fillRow 42 = .ok (.istore_n 1, 1) := by decide +kernel
theorem dX3_fillRow_43 : decode cX3_fillRow 43 = .ok (.iinc 2 1, 3) := by decide +kernel
theorem dX3_fillRow_46 : decode cX3_fillRow 46 = .ok (.goto (-42), 3) := by decide +kernel
theorem dX3_fillRow_49 : decode cX3_fillRow 49 = .ok (.return_, 1) := by decide +kernel
theorem dX3_leastNext_0 : decode cX3_leastNext 0 = .ok (.iconst 0, 1) := by decide +kernel
theorem dX3_leastNext_1 : decode cX3_leastNext 1 = .ok (.istore_n 2, 1) := by decide +kernel
theorem dX3_leastNext_2 : decode cX3_leastNext 2 = .ok (.iload_n 2, 1) := by decide +kernel
theorem dX3_leastNext_3 : decode cX3_leastNext 3 = .ok (.aload_n 0, 1) := by decide +kernel
theorem dX3_leastNext_4 : decode cX3_leastNext 4 = .ok (.getfield 60, 3) := by decide +kernel
theorem dX3_leastNext_7 : decode cX3_leastNext 7 = .ok (.getfield 79, 3) := by decide +kernel
theorem dX3_leastNext_10 : decode cX3_leastNext 10 = .ok (.if_icmp .ge 70, 3) := by decide +kernel
theorem dX3_leastNext_13 : decode cX3_leastNext 13 = .ok (.aload_n 0, 1) := by decide +kernel
theorem dX3_leastNext_14 : decode cX3_leastNext 14 = .ok (.getfield 18, 3) := by decide +kernel
theorem dX3_leastNext_17 : decode cX3_leastNext 17 = .ok (.iload_n 1, 1) := by decide +kernel
theorem dX3_leastNext_18 : decode cX3_leastNext 18 = .ok (.bipush 8, 2) := by decide +kernel
theorem dX3_leastNext_20 : decode cX3_leastNext 20 = .ok (.imul, 1) := by decide +kernel
theorem dX3_leastNext_21 : decode cX3_leastNext 21 = .ok (.iload_n 2, 1) := by decide +kernel
theorem dX3_leastNext_22 : decode cX3_leastNext 22 = .ok (.iadd, 1) := by decide +kernel
theorem dX3_leastNext_23 : decode cX3_leastNext 23 = .ok (.iaload, 1) := by decide +kernel
theorem dX3_leastNext_24 : decode cX3_leastNext 24 = .ok (.istore_n 3, 1) := by decide +kernel
theorem dX3_leastNext_25 : decode cX3_leastNext 25 = .ok (.iload_n 1, 1) := by decide +kernel
theorem dX3_leastNext_26 : decode cX3_leastNext 26 = .ok (.iconst 1, 1) := by decide +kernel
theorem dX3_leastNext_27 : decode cX3_leastNext 27 = .ok (.iload_n 2, 1) := by decide +kernel
theorem dX3_leastNext_28 : decode cX3_leastNext 28 = .ok (.ishl, 1) := by decide +kernel
theorem dX3_leastNext_29 : decode cX3_leastNext 29 = .ok (.ior, 1) := by decide +kernel
theorem dX3_leastNext_30 : decode cX3_leastNext 30 = .ok (.istore 4, 2) := by decide +kernel
theorem dX3_leastNext_32 : decode cX3_leastNext 32 = .ok (.iload_n 3, 1) := by decide +kernel
theorem dX3_leastNext_33 : decode cX3_leastNext 33 = .ok (.iconst (-1), 1) := by decide +kernel
theorem dX3_leastNext_34 : decode cX3_leastNext 34 = .ok (.if_icmp .eq 40, 3) := by decide +kernel
end
section
theorem dX3_leastNext_37 : decode cX3_leastNext 37 = .ok (.aload_n 0, 1) := by decide +kernel
theorem dX3_leastNext_38 : decode cX3_leastNext 38 = .ok (.getfield 27, 3) := by decide +kernel
theorem dX3_leastNext_41 : decode cX3_leastNext 41 = .ok (.iload 4, 2) := by decide +kernel
theorem dX3_leastNext_43 : decode cX3_leastNext 43 = .ok (.iaload, 1) := by decide +kernel
theorem dX3_leastNext_44 : decode cX3_leastNext 44 = .ok (.ifCond .le 30, 3) := by decide +kernel
theorem dX3_leastNext_47 : decode cX3_leastNext 47 = .ok (.aload_n 0, 1) := by decide +kernel
theorem dX3_leastNext_48 : decode cX3_leastNext 48 = .ok (.getfield 24, 3) := by decide +kernel
theorem dX3_leastNext_51 : decode cX3_leastNext 51 = .ok (.iload 4, 2) := by decide +kernel
theorem dX3_leastNext_53 : decode cX3_leastNext 53 = .ok (.iaload, 1) := by decide +kernel
theorem dX3_leastNext_54 : decode cX3_leastNext 54 = .ok (.aload_n 0, 1) := by decide +kernel
theorem dX3_leastNext_55 : decode cX3_leastNext 55 = .ok (.getfield 60, 3) := by decide +kernel
theorem dX3_leastNext_58 : decode cX3_leastNext 58 = .ok (.iload_n 3, 1) := by decide +kernel
theorem dX3_leastNext_59 : decode cX3_leastNext 59 = .ok (.invokevirtual 129, 3) := by decide +kernel
theorem dX3_leastNext_62 : decode cX3_leastNext 62 = .ok (.iadd, 1) := by decide +kernel
theorem dX3_leastNext_63 : decode cX3_leastNext 63 = .ok (.aload_n 0, 1) := by decide +kernel
theorem dX3_leastNext_64 : decode cX3_leastNext 64 = .ok (.getfield 24, 3) := by decide +kernel
theorem dX3_leastNext_67 : decode cX3_leastNext 67 = .ok (.iload_n 1, 1) := by decide +kernel
theorem dX3_leastNext_68 : decode cX3_leastNext 68 = .ok (.iaload, 1) := by decide +kernel
theorem dX3_leastNext_69 : decode cX3_leastNext 69 = .ok (.if_icmp .ne 5, 3) := by decide +kernel
theorem dX3_leastNext_72 : decode cX3_leastNext 72 = .ok (.iload_n 2, 1) := by decide +kernel
theorem dX3_leastNext_73 : decode cX3_leastNext 73 = .ok (.ireturn, 1) := by decide +kernel
theorem dX3_leastNext_74 : decode cX3_leastNext 74 = .ok (.iinc 2 1, 3) := by decide +kernel
theorem dX3_leastNext_77 : decode cX3_leastNext 77 = .ok (.goto (-75), 3) := by decide +kernel
theorem dX3_leastNext_80 : decode cX3_leastNext 80 = .ok (.iconst 0, 1) := by decide +kernel
theorem dX3_leastNext_81 : decode cX3_leastNext 81 = .ok (.ireturn, 1) := by decide +kernel
theorem dX3_alwaysAhead_0 : decode cX3_alwaysAhead 0 = .ok (.aload_n 0, 1) := by decide +kernel
theorem dX3_alwaysAhead_1 : decode cX3_alwaysAhead 1 = .ok (.invokevirtual 84, 3) := by decide +kernel
theorem dX3_alwaysAhead_4 : decode cX3_alwaysAhead 4 = .ok (.istore_n 3, 1) := by decide +kernel
theorem dX3_alwaysAhead_5 : decode cX3_alwaysAhead 5 = .ok (.iconst 0, 1) := by decide +kernel
theorem dX3_alwaysAhead_6 : decode cX3_alwaysAhead 6 = .ok (.istore 4, 2) := by decide +kernel
theorem dX3_alwaysAhead_8 : decode cX3_alwaysAhead 8 = .ok (.iload 4, 2) := by decide +kernel
theorem dX3_alwaysAhead_10 : decode cX3_alwaysAhead 10 = .ok (.iload_n 3, 1) := by decide +kernel
theorem dX3_alwaysAhead_11 : decode cX3_alwaysAhead 11 = .ok (.if_icmp .gt 65, 3) := by decide +kernel
theorem dX3_alwaysAhead_14 : decode cX3_alwaysAhead 14 = .ok (.iload 4, 2) := by decide +kernel
theorem dX3_alwaysAhead_16 : decode cX3_alwaysAhead 16 = .ok (.iload_n 2, 1) := by decide +kernel
theorem dX3_alwaysAhead_17 : decode cX3_alwaysAhead 17 = .ok (.ishr, 1) := by decide +kernel
theorem dX3_alwaysAhead_18 : decode cX3_alwaysAhead 18 = .ok (.iconst 1, 1) := by decide +kernel
theorem dX3_alwaysAhead_19 : decode cX3_alwaysAhead 19 = .ok (.iand, 1) := by decide +kernel
theorem dX3_alwaysAhead_20 : decode cX3_alwaysAhead 20 = .ok (.ifCond .eq 16, 3) := by decide +kernel
theorem dX3_alwaysAhead_23 : decode cX3_alwaysAhead 23 = .ok (.iload 4, 2) := by decide +kernel
theorem dX3_alwaysAhead_25 : decode cX3_alwaysAhead 25 = .ok (.iload_n 1, 1) := by decide +kernel
theorem dX3_alwaysAhead_26 : decode cX3_alwaysAhead 26 = .ok (.ishr, 1) := by decide +kernel
theorem dX3_alwaysAhead_27 : decode cX3_alwaysAhead 27 = .ok (.iconst 1, 1) := by decide +kernel
theorem dX3_alwaysAhead_28 : decode cX3_alwaysAhead 28 = .ok (.iand, 1) := by decide +kernel
theorem dX3_alwaysAhead_29 : decode cX3_alwaysAhead 29 = .ok (.ifCond .ne 7, 3) := by decide +kernel
theorem dX3_alwaysAhead_32 : decode cX3_alwaysAhead 32 = .ok (.iconst 1, 1) := by decide +kernel
theorem dX3_alwaysAhead_33 : decode cX3_alwaysAhead 33 = .ok (.goto 4, 3) := by decide +kernel
theorem dX3_alwaysAhead_36 : decode cX3_alwaysAhead 36 = .ok (.iconst 0, 1) := by decide +kernel
theorem dX3_alwaysAhead_37 : decode cX3_alwaysAhead 37 = .ok (.istore 5, 2) := by decide +kernel
theorem dX3_alwaysAhead_39 : decode cX3_alwaysAhead 39 = .ok (.iload 5, 2) := by decide +kernel
theorem dX3_alwaysAhead_41 : decode cX3_alwaysAhead 41 = .ok (.ifCond .eq 29, 3) := by decide +kernel
theorem dX3_alwaysAhead_44 : decode cX3_alwaysAhead 44 = .ok (.aload_n 0, 1) := by decide +kernel
theorem dX3_alwaysAhead_45 : decode cX3_alwaysAhead 45 = .ok (.getfield 21, 3) := by decide +kernel
theorem dX3_alwaysAhead_48 : decode cX3_alwaysAhead 48 = .ok (.iload 4, 2) := by decide +kernel
theorem dX3_alwaysAhead_50 : decode cX3_alwaysAhead 50 = .ok (.iaload, 1) := by decide +kernel
theorem dX3_alwaysAhead_51 : decode cX3_alwaysAhead 51 = .ok (.aload_n 0, 1) := by decide +kernel
theorem dX3_alwaysAhead_52 : decode cX3_alwaysAhead 52 = .ok (.getfield 24, 3) := by decide +kernel
theorem dX3_alwaysAhead_55 : decode cX3_alwaysAhead 55 = .ok (.iload 4, 2) := by decide +kernel
theorem dX3_alwaysAhead_57 : decode cX3_alwaysAhead 57 = .ok (.iaload, 1) := by decide +kernel
theorem dX3_alwaysAhead_58 : decode cX3_alwaysAhead 58 = .ok (.iadd, 1) := by decide +kernel
theorem dX3_alwaysAhead_59 : decode cX3_alwaysAhead 59 = .ok (.aload_n 0, 1) := by decide +kernel
theorem dX3_alwaysAhead_60 : decode cX3_alwaysAhead 60 = .ok (.getfield 24, 3) := by decide +kernel
theorem dX3_alwaysAhead_63 : decode cX3_alwaysAhead 63 = .ok (.iconst 0, 1) := by decide +kernel
theorem dX3_alwaysAhead_64 : decode cX3_alwaysAhead 64 = .ok (.iaload, 1) := by decide +kernel
theorem dX3_alwaysAhead_65 : decode cX3_alwaysAhead 65 = .ok (.if_icmp .ne 5, 3) := by decide +kernel
theorem dX3_alwaysAhead_68 : decode cX3_alwaysAhead 68 = .ok (.iconst 0, 1) := by decide +kernel
theorem dX3_alwaysAhead_69 : decode cX3_alwaysAhead 69 = .ok (.ireturn, 1) := by decide +kernel
theorem dX3_alwaysAhead_70 : decode cX3_alwaysAhead 70 = .ok (.iinc 4 1, 3) := by decide +kernel
theorem dX3_alwaysAhead_73 : decode cX3_alwaysAhead 73 = .ok (.goto (-65), 3) := by decide +kernel
theorem dX3_alwaysAhead_76 : decode cX3_alwaysAhead 76 = .ok (.iconst 1, 1) := by decide +kernel
theorem dX3_alwaysAhead_77 : decode cX3_alwaysAhead 77 = .ok (.ireturn, 1) := by decide +kernel
theorem dX3_placesInBest_0 : decode cX3_placesInBest 0 = .ok (.aload_n 0, 1) := by decide +kernel
theorem dX3_placesInBest_1 : decode cX3_placesInBest 1 = .ok (.invokevirtual 84, 3) := by decide +kernel
theorem dX3_placesInBest_4 : decode cX3_placesInBest 4 = .ok (.istore_n 2, 1) := by decide +kernel
theorem dX3_placesInBest_5 : decode cX3_placesInBest 5 = .ok (.iconst 0, 1) := by decide +kernel
theorem dX3_placesInBest_6 : decode cX3_placesInBest 6 = .ok (.istore_n 3, 1) := by decide +kernel
theorem dX3_placesInBest_7 : decode cX3_placesInBest 7 = .ok (.iconst 0, 1) := by decide +kernel
theorem dX3_placesInBest_8 : decode cX3_placesInBest 8 = .ok (.istore 4, 2) := by decide +kernel
theorem dX3_placesInBest_10 : decode cX3_placesInBest 10 = .ok (.iload 4, 2) := by decide +kernel
theorem dX3_placesInBest_12 : decode cX3_placesInBest 12 = .ok (.iload_n 2, 1) := by decide +kernel
theorem dX3_placesInBest_13 : decode cX3_placesInBest 13 = .ok (.if_icmp .gt 80, 3) := by decide +kernel
theorem dX3_placesInBest_16 : decode cX3_placesInBest 16 = .ok (.aload_n 0, 1) := by decide +kernel
theorem dX3_placesInBest_17 : decode cX3_placesInBest 17 = .ok (.getfield 18, 3) := by decide +kernel
theorem dX3_placesInBest_20 : decode cX3_placesInBest 20 = .ok (.iload 4, 2) := by decide +kernel
theorem dX3_placesInBest_22 : decode cX3_placesInBest 22 = .ok (.bipush 8, 2) := by decide +kernel
theorem dX3_placesInBest_24 : decode cX3_placesInBest 24 = .ok (.imul, 1) := by decide +kernel
theorem dX3_placesInBest_25 : decode cX3_placesInBest 25 = .ok (.iload_n 1, 1) := by decide +kernel
theorem dX3_placesInBest_26 : decode cX3_placesInBest 26 = .ok (.iadd, 1) := by decide +kernel
theorem dX3_placesInBest_27 : decode cX3_placesInBest 27 = .ok (.iaload, 1) := by decide +kernel
theorem dX3_placesInBest_28 : decode cX3_placesInBest 28 = .ok (.istore 5, 2) := by decide +kernel
theorem dX3_placesInBest_30 : decode cX3_placesInBest 30 = .ok (.iload 5, 2) := by decide +kernel
theorem dX3_placesInBest_32 : decode cX3_placesInBest 32 = .ok (.iconst (-1), 1) := by decide +kernel
theorem dX3_placesInBest_33 : decode cX3_placesInBest 33 = .ok (.if_icmp .ne 6, 3) := by decide +kernel
theorem dX3_placesInBest_36 : decode cX3_placesInBest 36 = .ok (.goto 51, 3) := by decide +kernel
theorem dX3_placesInBest_39 : decode cX3_placesInBest 39 = .ok (.aload_n 0, 1) := by decide +kernel
theorem dX3_placesInBest_40 : decode cX3_placesInBest 40 = .ok (.getfield 21, 3) := by decide +kernel
theorem dX3_placesInBest_43 : decode cX3_placesInBest 43 = .ok (.iload 4, 2) := by decide +kernel
theorem dX3_placesInBest_45 : decode cX3_placesInBest 45 = .ok (.iaload, 1) := by decide +kernel
theorem dX3_placesInBest_46 : decode cX3_placesInBest 46 = .ok (.aload_n 0, 1) := by decide +kernel
theorem dX3_placesInBest_47 : decode cX3_placesInBest 47 = .ok (.getfield 60, 3) := by decide +kernel
theorem dX3_placesInBest_50 : decode cX3_placesInBest 50 = .ok (.iload 5, 2) := by decide +kernel
theorem dX3_placesInBest_52 : decode cX3_placesInBest 52 = .ok (.invokevirtual 129, 3) := by decide +kernel
theorem dX3_placesInBest_55 : decode cX3_placesInBest 55 = .ok (.iadd, 1) := by decide +kernel
theorem dX3_placesInBest_56 : decode cX3_placesInBest 56 = .ok (.aload_n 0, 1) := by decide +kernel
theorem dX3_placesInBest_57 : decode cX3_placesInBest 57 = .ok (.getfield 24, 3) := by decide +kernel
theorem dX3_placesInBest_60 : decode cX3_placesInBest 60 = .ok (.iload 4, 2) := by decide +kernel
theorem dX3_placesInBest_62 : decode cX3_placesInBest 62 = .ok (.iconst 1, 1) := by decide +kernel
theorem dX3_placesInBest_63 : decode cX3_placesInBest 63 = .ok (.iload_n 1, 1) := by decide +kernel
theorem dX3_placesInBest_64 : decode cX3_placesInBest 64 = .ok (.ishl, 1) := by decide +kernel
theorem dX3_placesInBest_65 : decode cX3_placesInBest 65 = .ok (.ior, 1) := by decide +kernel
theorem dX3_placesInBest_66 : decode cX3_placesInBest 66 = .ok (.iaload, 1) := by decide +kernel
theorem dX3_placesInBest_67 : decode cX3_placesInBest 67 = .ok (.iadd, 1) := by decide +kernel
theorem dX3_placesInBest_68 : decode cX3_placesInBest 68 = .ok (.aload_n 0, 1) := by decide +kernel
theorem dX3_placesInBest_69 : decode cX3_placesInBest 69 = .ok (.getfield 24, 3) := by decide +kernel
theorem dX3_placesInBest_72 : decode cX3_placesInBest 72 = .ok (.iconst 0, 1) := by decide +kernel
theorem dX3_placesInBest_73 : decode cX3_placesInBest 73 = .ok (.iaload, 1) := by decide +kernel
theorem dX3_placesInBest_74 : decode cX3_placesInBest 74 = .ok (.if_icmp .ne 13, 3) := by decide +kernel
theorem dX3_placesInBest_77 : decode cX3_placesInBest 77 = .ok (.iload_n 3, 1) := by decide +kernel
theorem dX3_placesInBest_78 : decode cX3_placesInBest 78 = .ok (.iconst 1, 1) := by decide +kernel
theorem dX3_placesInBest_79 : decode cX3_placesInBest 79 = .ok (.iload 4, 2) := by decide +kernel
theorem dX3_placesInBest_81 : decode cX3_placesInBest 81 = .ok (.invokestatic 142, 3) := by decide +kernel
theorem dX3_placesInBest_84 : decode cX3_placesInBest 84 = .ok (.ishl, 1) := by decide +kernel
theorem dX3_placesInBest_85 : decode cX3_placesInBest 85 = .ok (.ior, 1) := by decide +kernel
theorem dX3_placesInBest_86 : decode cX3_placesInBest 86 = .ok (.istore_n 3, 1) := by decide +kernel
theorem dX3_placesInBest_87 : decode cX3_placesInBest 87 = .ok (.iinc 4 1, 3) := by decide +kernel
theorem dX3_placesInBest_90 : decode cX3_placesInBest 90 = .ok (.goto (-80), 3) := by decide +kernel
theorem dX3_placesInBest_93 : decode cX3_placesInBest 93 = .ok (.iload_n 3, 1) := by decide +kernel
theorem dX3_placesInBest_94 : decode cX3_placesInBest 94 = .ok (.ireturn, 1) := by decide +kernel
theorem dX3_settleSpread_0 : decode cX3_settleSpread 0 = .ok (.aload_n 0, 1) := by decide +kernel
theorem dX3_settleSpread_1 : decode cX3_settleSpread 1 = .ok (.getfield 50, 3) := by decide +kernel
theorem dX3_settleSpread_4 : decode cX3_settleSpread 4 = .ok (.ifCond .ne 4, 3) := by decide +kernel
theorem dX3_settleSpread_7 : decode cX3_settleSpread 7 = .ok (.return_, 1) := by decide +kernel
theorem dX3_settleSpread_8 : decode cX3_settleSpread 8 = .ok (.iconst 0, 1) := by decide +kernel
theorem dX3_settleSpread_9 : decode cX3_settleSpread 9 = .ok (.istore_n 1, 1) := by decide +kernel
theorem dX3_settleSpread_10 : decode cX3_settleSpread 10 = .ok (.iload_n 1, 1) := by decide +kernel
theorem dX3_settleSpread_11 : decode cX3_settleSpread 11 = .ok (.sipush 180, 3) := by decide +kernel
theorem dX3_settleSpread_14 : decode cX3_settleSpread 14 = .ok (.if_icmp .gt 16, 3) := by decide +kernel
theorem dX3_settleSpread_17 : decode cX3_settleSpread 17 = .ok (.aload_n 0, 1) := by decide +kernel
theorem dX3_settleSpread_18 : decode cX3_settleSpread 18 = .ok (.getfield 33, 3) := by decide +kernel
theorem dX3_settleSpread_21 : decode cX3_settleSpread 21 = .ok (.iload_n 1, 1) := by decide +kernel
theorem dX3_settleSpread_22 : decode cX3_settleSpread 22 = .ok (.iconst 0, 1) := by decide +kernel
theorem dX3_settleSpread_23 : decode cX3_settleSpread 23 = .ok (.iastore, 1) := by decide +kernel
theorem dX3_settleSpread_24 : decode cX3_settleSpread 24 = .ok (.iinc 1 1, 3) := by decide +kernel
theorem dX3_settleSpread_27 : decode cX3_settleSpread 27 = .ok (.goto (-17), 3) := by decide +kernel
theorem dX3_settleSpread_30 : decode cX3_settleSpread 30 = .ok (.aload_n 0, 1) := by decide +kernel
theorem dX3_settleSpread_31 : decode cX3_settleSpread 31 = .ok (.invokevirtual 84, 3) := by decide +kernel
theorem dX3_settleSpread_34 : decode cX3_settleSpread 34 = .ok (.istore_n 1, 1) := by decide +kernel
theorem dX3_settleSpread_35 : decode cX3_settleSpread 35 = .ok (.iconst 0, 1) := by decide +kernel
theorem dX3_settleSpread_36 : decode cX3_settleSpread 36 = .ok (.istore_n 2, 1) := by decide +kernel
theorem dX3_settleSpread_37 : decode cX3_settleSpread 37 = .ok (.iload_n 2, 1) := by decide +kernel
theorem dX3_settleSpread_38 : decode cX3_settleSpread 38 = .ok (.iload_n 1, 1) := by decide +kernel
theorem dX3_settleSpread_39 : decode cX3_settleSpread 39 = .ok (.if_icmp .gt 59, 3) := by decide +kernel
theorem dX3_settleSpread_42 : decode cX3_settleSpread 42 = .ok (.iload_n 2, 1) := by decide +kernel
theorem dX3_settleSpread_43 : decode cX3_settleSpread 43 = .ok (.invokestatic 142, 3) := by decide +kernel
theorem dX3_settleSpread_46 : decode cX3_settleSpread 46 = .ok (.aload_n 0, 1) := by decide +kernel
theorem dX3_settleSpread_47 : decode cX3_settleSpread 47 = .ok (.getfield 60, 3) := by decide +kernel
theorem dX3_settleSpread_50 : decode cX3_settleSpread 50 = .ok (.getfield 79, 3) := by decide +kernel
theorem dX3_settleSpread_53 : decode cX3_settleSpread 53 = .ok (.iconst 2, 1) := by decide +kernel
theorem dX3_settleSpread_54 : decode cX3_settleSpread 54 = .ok (.idiv, 1) := by decide +kernel
theorem dX3_settleSpread_55 : decode cX3_settleSpread 55 = .ok (.if_icmp .ne 37, 3) := by decide +kernel
theorem dX3_settleSpread_58 : decode cX3_settleSpread 58 = .ok (.aload_n 0, 1) := by decide +kernel
theorem dX3_settleSpread_59 : decode cX3_settleSpread 59 = .ok (.iconst 0, 1) := by decide +kernel
theorem dX3_settleSpread_60 : decode cX3_settleSpread 60 = .ok (.iload_n 2, 1) := by decide +kernel
theorem dX3_settleSpread_61 : decode cX3_settleSpread 61 = .ok (.iconst 0, 1) := by decide +kernel
theorem dX3_settleSpread_62 : decode cX3_settleSpread 62 = .ok (.aload_n 0, 1) := by decide +kernel
theorem dX3_settleSpread_63 : decode cX3_settleSpread 63 = .ok (.getfield 36, 3) := by decide +kernel
theorem dX3_settleSpread_66 : decode cX3_settleSpread 66 = .ok (.iconst 0, 1) := by decide +kernel
theorem dX3_settleSpread_67 : decode cX3_settleSpread 67 = .ok (.invokestatic 145, 3) := by decide +kernel
theorem dX3_settleSpread_70 : decode cX3_settleSpread 70 = .ok (.istore_n 3, 1) := by decide +kernel
theorem dX3_settleSpread_71 : decode cX3_settleSpread 71 = .ok (.aload_n 0, 1) := by decide +kernel
theorem dX3_settleSpread_72 : decode cX3_settleSpread 72 = .ok (.iload_n 2, 1) := by decide +kernel
theorem dX3_settleSpread_73 : decode cX3_settleSpread 73 = .ok (.iload_n 1, 1) := by decide +kernel
theorem dX3_settleSpread_74 : decode cX3_settleSpread 74 = .ok (.iconst 0, 1) := by decide +kernel
theorem dX3_settleSpread_75 : decode cX3_settleSpread 75 = .ok (.aload_n 0, 1) := by decide +kernel
theorem dX3_settleSpread_76 : decode cX3_settleSpread 76 = .ok (.getfield 39, 3) := by decide +kernel
theorem dX3_settleSpread_79 : decode cX3_settleSpread 79 = .ok (.iconst 0, 1) := by decide +kernel
theorem dX3_settleSpread_80 : decode cX3_settleSpread 80 = .ok (.invokestatic 145, 3) := by decide +kernel
theorem dX3_settleSpread_83 : decode cX3_settleSpread 83 = .ok (.istore 4, 2) := by decide +kernel
theorem dX3_settleSpread_85 : decode cX3_settleSpread 85 = .ok (.aload_n 0, 1) := by decide +kernel
theorem dX3_settleSpread_86 : decode cX3_settleSpread 86 = .ok (.iload_n 3, 1) := by decide +kernel
theorem dX3_settleSpread_87 : decode cX3_settleSpread 87 = .ok (.iload 4, 2) := by decide +kernel
theorem dX3_settleSpread_89 : decode cX3_settleSpread 89 = .ok (.invokevirtual 149, 3) := by decide +kernel
theorem dX3_settleSpread_92 : decode cX3_settleSpread 92 = .ok (.iinc 2 1, 3) := by decide +kernel
theorem dX3_settleSpread_95 : decode cX3_settleSpread 95 = .ok (.goto (-58), 3) := by decide +kernel
theorem dX3_settleSpread_98 : decode cX3_settleSpread 98 = .ok (.aload_n 0, 1) := by decide +kernel
theorem dX3_settleSpread_99 : decode cX3_settleSpread 99 = .ok (.iconst 0, 1) := by decide +kernel
theorem dX3_settleSpread_100 : decode cX3_settleSpread 100 = .ok (.putfield 50, 3) := by decide +kernel
theorem dX3_settleSpread_103 : decode cX3_settleSpread 103 = .ok (.return_, 1) := by decide +kernel
theorem dX3_gather_0 : decode cX3_gather 0 = .ok (.iload_n 1, 1) := by decide +kernel
theorem dX3_gather_1 : decode cX3_gather 1 = .ok (.iload_n 2, 1) := by decide +kernel
theorem dX3_gather_2 : decode cX3_gather 2 = .ok (.if_icmp .ne 28, 3) := by decide +kernel
theorem dX3_gather_5 : decode cX3_gather 5 = .ok (.iload 5, 2) := by decide +kernel
theorem dX3_gather_7 : decode cX3_gather 7 = .ok (.aload 4, 2) := by decide +kernel
theorem dX3_gather_9 : decode cX3_gather 9 = .ok (.arraylength, 1) := by decide +kernel
theorem dX3_gather_10 : decode cX3_gather 10 = .ok (.if_icmp .ge 9, 3) := by decide +kernel
theorem dX3_gather_13 : decode cX3_gather 13 = .ok (.aload 4, 2) := by decide +kernel
theorem dX3_gather_15 : decode cX3_gather 15 = .ok (.iload 5, 2) := by decide +kernel
theorem dX3_gather_17 : decode cX3_gather 17 = .ok (.iload_n 3, 1) := by decide +kernel
theorem dX3_gather_18 : decode cX3_gather 18 = .ok (.iastore, 1) := by decide +kernel
theorem dX3_gather_19 : decode cX3_gather 19 = .ok (.iload 5, 2) := by decide +kernel
theorem dX3_gather_21 : decode cX3_gather 21 = .ok (.iconst 1, 1) := by decide +kernel
theorem dX3_gather_22 : decode cX3_gather 22 = .ok (.iadd, 1) := by decide +kernel
theorem dX3_gather_23 : decode cX3_gather 23 = .ok (.aload 4, 2) := by decide +kernel
theorem dX3_gather_25 : decode cX3_gather 25 = .ok (.arraylength, 1) := by decide +kernel
theorem dX3_gather_26 : decode cX3_gather 26 = .ok (.invokestatic 132, 3) := by decide +kernel
theorem dX3_gather_29 : decode cX3_gather 29 = .ok (.ireturn, 1) := by decide +kernel
theorem dX3_gather_30 : decode cX3_gather 30 = .ok (.iload 5, 2) := by decide +kernel
theorem dX3_gather_32 : decode cX3_gather 32 = .ok (.istore 6, 2) := by decide +kernel
theorem dX3_gather_34 : decode cX3_gather 34 = .ok (.iconst 0, 1) := by decide +kernel
theorem dX3_gather_35 : decode cX3_gather 35 = .ok (.istore 7, 2) := by decide +kernel
theorem dX3_gather_37 : decode cX3_gather 37 = .ok (.iload 7, 2) := by decide +kernel
theorem dX3_gather_39 : decode cX3_gather 39 = .ok (.aload_n 0, 1) := by decide +kernel
theorem dX3_gather_40 : decode cX3_gather 40 = .ok (.getfield 60, 3) := by decide +kernel
theorem dX3_gather_43 : decode cX3_gather 43 = .ok (.getfield 79, 3) := by decide +kernel
theorem dX3_gather_46 : decode cX3_gather 46 = .ok (.if_icmp .ge 66, 3) := by decide +kernel
theorem dX3_gather_49 : decode cX3_gather 49 = .ok (.aload_n 0, 1) := by decide +kernel
theorem dX3_gather_50 : decode cX3_gather 50 = .ok (.getfield 18, 3) := by decide +kernel
theorem dX3_gather_53 : decode cX3_gather 53 = .ok (.iload_n 1, 1) := by decide +kernel
theorem dX3_gather_54 : decode cX3_gather 54 = .ok (.bipush 8, 2) := by decide +kernel
theorem dX3_gather_56 : decode cX3_gather 56 = .ok (.imul, 1) := by decide +kernel
theorem dX3_gather_57 : decode cX3_gather 57 = .ok (.iload 7, 2) := by decide +kernel
theorem dX3_gather_59 : decode cX3_gather 59 = .ok (.iadd, 1) := by decide +kernel
theorem dX3_gather_60 : decode cX3_gather 60 = .ok (.iaload, 1) := by decide +kernel
theorem dX3_gather_61 : decode cX3_gather 61 = .ok (.istore 8, 2) := by decide +kernel
theorem dX3_gather_63 : decode cX3_gather 63 = .ok (.iload_n 2, 1) := by decide +kernel
theorem dX3_gather_64 : decode cX3_gather 64 = .ok (.iload 7, 2) := by decide +kernel
theorem dX3_gather_66 : decode cX3_gather 66 = .ok (.ishr, 1) := by decide +kernel
theorem dX3_gather_67 : decode cX3_gather 67 = .ok (.iconst 1, 1) := by decide +kernel
theorem dX3_gather_68 : decode cX3_gather 68 = .ok (.iand, 1) := by decide +kernel
theorem dX3_gather_69 : decode cX3_gather 69 = .ok (.ifCond .eq 37, 3) := by decide +kernel
theorem dX3_gather_72 : decode cX3_gather 72 = .ok (.iload 8, 2) := by decide +kernel
theorem dX3_gather_74 : decode cX3_gather 74 = .ok (.iconst (-1), 1) := by decide +kernel
theorem dX3_gather_75 : decode cX3_gather 75 = .ok (.if_icmp .eq 31, 3) := by decide +kernel
theorem dX3_gather_78 : decode cX3_gather 78 = .ok (.aload_n 0, 1) := by decide +kernel
theorem dX3_gather_79 : decode cX3_gather 79 = .ok (.iload_n 1, 1) := by decide +kernel
theorem dX3_gather_80 : decode cX3_gather 80 = .ok (.iconst 1, 1) := by decide +kernel
theorem dX3_gather_81 : decode cX3_gather 81 = .ok (.iload 7, 2) := by decide +kernel
theorem dX3_gather_83 : decode cX3_gather 83 = .ok (.ishl, 1) := by decide +kernel
theorem dX3_gather_84 : decode cX3_gather 84 = .ok (.ior, 1) := by decide +kernel
theorem dX3_gather_85 : decode cX3_gather 85 = .ok (.iload_n 2, 1) := by decide +kernel
theorem dX3_gather_86 : decode cX3_gather 86 = .ok (.iload_n 3, 1) := by decide +kernel
theorem dX3_gather_87 : decode cX3_gather 87 = .ok (.aload_n 0, 1) := by decide +kernel
theorem dX3_gather_88 : decode cX3_gather 88 = .ok (.getfield 60, 3) := by decide +kernel
theorem dX3_gather_91 : decode cX3_gather 91 = .ok (.iload 8, 2) := by decide +kernel
theorem dX3_gather_93 : decode cX3_gather 93 = .ok (.invokevirtual 129, 3) := by decide +kernel
theorem dX3_gather_96 : decode cX3_gather 96 = .ok (.iadd, 1) := by decide +kernel
theorem dX3_gather_97 : decode cX3_gather 97 = .ok (.aload 4, 2) := by decide +kernel
theorem dX3_gather_99 : decode cX3_gather 99 = .ok (.iload 6, 2) := by decide +kernel
theorem dX3_gather_101 : decode cX3_gather 101 = .ok (.invokestatic 145, 3) := by decide +kernel
theorem dX3_gather_104 : decode cX3_gather 104 = .ok (.istore 6, 2) := by decide +kernel
theorem dX3_gather_106 : decode cX3_gather 106 = .ok (.iinc 7 1, 3) := by decide +kernel
theorem dX3_gather_109 : decode cX3_gather 109 = .ok (.goto (-72), 3) := by decide +kernel
theorem dX3_gather_112 : decode cX3_gather 112 = .ok (.iload 6, 2) := by decide +kernel
theorem dX3_gather_114 : decode cX3_gather 114 = .ok (.ireturn, 1) := by decide +kernel
theorem dX3_joinHalves_0 : decode cX3_joinHalves 0 = .ok (.iconst 0, 1) := by decide +kernel
theorem dX3_joinHalves_1 : decode cX3_joinHalves 1 = .ok (.istore_n 3, 1) := by decide +kernel
theorem dX3_joinHalves_2 : decode cX3_joinHalves 2 = .ok (.iload_n 3, 1) := by decide +kernel
theorem dX3_joinHalves_3 : decode cX3_joinHalves 3 = .ok (.iload_n 1, 1) := by decide +kernel
theorem dX3_joinHalves_4 : decode cX3_joinHalves 4 = .ok (.if_icmp .ge 59, 3) := by decide +kernel
theorem dX3_joinHalves_7 : decode cX3_joinHalves 7 = .ok (.iconst 0, 1) := by decide +kernel
theorem dX3_joinHalves_8 : decode cX3_joinHalves 8 = .ok (.istore 4, 2) := by decide +kernel
theorem dX3_joinHalves_10 : decode cX3_joinHalves 10 = .ok (.iload 4, 2) := by decide +kernel
theorem dX3_joinHalves_12 : decode cX3_joinHalves 12 = .ok (.iload_n 2, 1) := by decide +kernel
theorem dX3_joinHalves_13 : decode cX3_joinHalves 13 = .ok (.if_icmp .ge 44, 3) := by decide +kernel
theorem dX3_joinHalves_16 : decode cX3_joinHalves 16 = .ok (.aload_n 0, 1) := by decide +kernel
theorem dX3_joinHalves_17 : decode cX3_joinHalves 17 = .ok (.getfield 36, 3) := by decide +kernel
theorem dX3_joinHalves_20 : decode cX3_joinHalves 20 = .ok (.iload_n 3, 1) := by decide +kernel
theorem dX3_joinHalves_21 : decode cX3_joinHalves 21 = .ok (.iaload, 1) := by decide +kernel
theorem dX3_joinHalves_22 : decode cX3_joinHalves 22 = .ok (.aload_n 0, 1) := by decide +kernel
theorem dX3_joinHalves_23 : decode cX3_joinHalves 23 = .ok (.getfield 39, 3) := by decide +kernel
theorem dX3_joinHalves_26 : decode cX3_joinHalves 26 = .ok (.iload 4, 2) := by decide +kernel
theorem dX3_joinHalves_28 : decode cX3_joinHalves 28 = .ok (.iaload, 1) := by decide +kernel
theorem dX3_joinHalves_29 : decode cX3_joinHalves 29 = .ok (.iadd, 1) := by decide +kernel
theorem dX3_joinHalves_30 : decode cX3_joinHalves 30 = .ok (.istore 5, 2) := by decide +kernel
theorem dX3_joinHalves_32 : decode cX3_joinHalves 32 = .ok (.iload 5, 2) := by decide +kernel
theorem dX3_joinHalves_34 : decode cX3_joinHalves 34 = .ok (.sipush 180, 3) := by decide +kernel
theorem dX3_joinHalves_37 : decode cX3_joinHalves 37 = .ok (.if_icmp .gt 14, 3) := by decide +kernel
theorem dX3_joinHalves_40 : decode cX3_joinHalves 40 = .ok (.aload_n 0, 1) := by decide +kernel
theorem dX3_joinHalves_41 : decode cX3_joinHalves 41 = .ok (.getfield 33, 3) := by decide +kernel
theorem dX3_joinHalves_44 : decode cX3_joinHalves 44 = .ok (.iload 5, 2) := by decide +kernel
theorem dX3_joinHalves_46 : decode cX3_joinHalves 46 = .ok (.dup2, 1) := by decide +kernel
theorem dX3_joinHalves_47 : decode cX3_joinHalves 47 = .ok (.iaload, 1) := by decide +kernel
theorem dX3_joinHalves_48 : decode cX3_joinHalves 48 = .ok (.iconst 1, 1) := by decide +kernel
theorem dX3_joinHalves_49 : decode cX3_joinHalves 49 = .ok (.iadd, 1) := by decide +kernel
theorem dX3_joinHalves_50 : decode cX3_joinHalves 50 = .ok (.iastore, 1) := by decide +kernel
theorem dX3_joinHalves_51 : decode cX3_joinHalves 51 = .ok (.iinc 4 1, 3) := by decide +kernel
theorem dX3_joinHalves_54 : decode cX3_joinHalves 54 = .ok (.goto (-44), 3) := by decide +kernel
theorem dX3_joinHalves_57 : decode cX3_joinHalves 57 = .ok (.iinc 3 1, 3) := by decide +kernel
theorem dX3_joinHalves_60 : decode cX3_joinHalves 60 = .ok (.goto (-58), 3) := by decide +kernel
theorem dX3_joinHalves_63 : decode cX3_joinHalves 63 = .ok (.return_, 1) := by decide +kernel
theorem dX3_withGaps_0 : decode cX3_withGaps 0 = .ok (.iload_n 1, 1) := by decide +kernel
theorem dX3_withGaps_1 : decode cX3_withGaps 1 = .ok (.sipush 180, 3) := by decide +kernel
theorem dX3_withGaps_4 : decode cX3_withGaps 4 = .ok (.if_icmp .gt 12, 3) := by decide +kernel
theorem dX3_withGaps_7 : decode cX3_withGaps 7 = .ok (.aload_n 0, 1) := by decide +kernel
theorem dX3_withGaps_8 : decode cX3_withGaps 8 = .ok (.getfield 33, 3) := by decide +kernel
theorem dX3_withGaps_11 : decode cX3_withGaps 11 = .ok (.iload_n 1, 1) := by decide +kernel
theorem dX3_withGaps_12 : decode cX3_withGaps 12 = .ok (.iaload, 1) := by decide +kernel
theorem dX3_withGaps_13 : decode cX3_withGaps 13 = .ok (.goto 4, 3) := by decide +kernel
theorem dX3_withGaps_16 : decode cX3_withGaps 16 = .ok (.iconst 0, 1) := by decide +kernel
theorem dX3_withGaps_17 : decode cX3_withGaps 17 = .ok (.ireturn, 1) := by decide +kernel
theorem dX3_withGapsUpTo_0 : decode cX3_withGapsUpTo 0 = .ok (.iconst 0, 1) := by decide +kernel
theorem dX3_withGapsUpTo_1 : decode cX3_withGapsUpTo 1 = .ok (.istore_n 2, 1) := by decide +kernel
theorem dX3_withGapsUpTo_2 : decode cX3_withGapsUpTo 2 = .ok (.iconst 0, 1) := by decide +kernel
theorem dX3_withGapsUpTo_3 : decode cX3_withGapsUpTo 3 = .ok (.istore_n 3, 1) := by decide +kernel
theorem dX3_withGapsUpTo_4 : decode cX3_withGapsUpTo 4 = .ok (.iload_n 3, 1) := by decide +kernel
theorem dX3_withGapsUpTo_5 : decode cX3_withGapsUpTo 5 = .ok (.iload_n 1, 1) := by decide +kernel
theorem dX3_withGapsUpTo_6 : decode cX3_withGapsUpTo 6 = .ok (.if_icmp .gt 25, 3) := by decide +kernel
theorem dX3_withGapsUpTo_9 : decode cX3_withGapsUpTo 9 = .ok (.iload_n 3, 1) := by decide +kernel
theorem dX3_withGapsUpTo_10 : decode cX3_withGapsUpTo 10 = .ok (.sipush 180, 3) := by decide +kernel
theorem dX3_withGapsUpTo_13 : decode cX3_withGapsUpTo 13 = .ok (.if_icmp .gt 18, 3) := by decide +kernel
theorem dX3_withGapsUpTo_16 : decode cX3_withGapsUpTo 16 = .ok (.iload_n 2, 1) := by decide +kernel
theorem dX3_withGapsUpTo_17 : decode cX3_withGapsUpTo 17 = .ok (.aload_n 0, 1) := by decide +kernel
theorem dX3_withGapsUpTo_18 : decode cX3_withGapsUpTo 18 = .ok (.getfield 33, 3) := by decide +kernel
theorem dX3_withGapsUpTo_21 : decode cX3_withGapsUpTo 21 = .ok (.iload_n 3, 1) := by decide +kernel
theorem dX3_withGapsUpTo_22 : decode cX3_withGapsUpTo 22 = .ok (.iaload, 1) := by decide +kernel
theorem dX3_withGapsUpTo_23 : decode cX3_withGapsUpTo 23 = .ok (.iadd, 1) := by decide +kernel
theorem dX3_withGapsUpTo_24 : decode cX3_withGapsUpTo 24 = .ok (.istore_n 2, 1) := by decide +kernel
theorem dX3_withGapsUpTo_25 : decode cX3_withGapsUpTo 25 = .ok (.iinc 3 1, 3) := by decide +kernel
theorem dX3_withGapsUpTo_28 : decode cX3_withGapsUpTo 28 = .ok (.goto (-24), 3) := by decide +kernel
theorem dX3_withGapsUpTo_31 : decode cX3_withGapsUpTo 31 = .ok (.iload_n 2, 1) := by decide +kernel
theorem dX3_withGapsUpTo_32 : decode cX3_withGapsUpTo 32 = .ok (.ireturn, 1) := by decide +kernel
theorem dX3_gapsOfAll_0 : decode cX3_gapsOfAll 0 = .ok (.iconst 0, 1) := by decide +kernel
theorem dX3_gapsOfAll_1 : decode cX3_gapsOfAll 1 = .ok (.istore_n 1, 1) := by decide +kernel
theorem dX3_gapsOfAll_2 : decode cX3_gapsOfAll 2 = .ok (.iconst 0, 1) := by decide +kernel
theorem dX3_gapsOfAll_3 : decode cX3_gapsOfAll 3 = .ok (.istore_n 2, 1) := by decide +kernel
theorem dX3_gapsOfAll_4 : decode cX3_gapsOfAll 4 = .ok (.iload_n 2, 1) := by decide +kernel
theorem dX3_gapsOfAll_5 : decode cX3_gapsOfAll 5 = .ok (.sipush 180, 3) := by decide +kernel
theorem dX3_gapsOfAll_8 : decode cX3_gapsOfAll 8 = .ok (.if_icmp .gt 20, 3) := by decide +kernel
theorem dX3_gapsOfAll_11 : decode cX3_gapsOfAll 11 = .ok (.iload_n 1, 1) := by decide +kernel
theorem dX3_gapsOfAll_12 : decode cX3_gapsOfAll 12 = .ok (.iload_n 2, 1) := by decide +kernel
theorem dX3_gapsOfAll_13 : decode cX3_gapsOfAll 13 = .ok (.aload_n 0, 1) := by decide +kernel
theorem dX3_gapsOfAll_14 : decode cX3_gapsOfAll 14 = .ok (.getfield 33, 3) := by decide +kernel
theorem dX3_gapsOfAll_17 : decode cX3_gapsOfAll 17 = .ok (.iload_n 2, 1) := by decide +kernel
theorem dX3_gapsOfAll_18 : decode cX3_gapsOfAll 18 = .ok (.iaload, 1) := by decide +kernel
theorem dX3_gapsOfAll_19 : decode cX3_gapsOfAll 19 = .ok (.imul, 1) := by decide +kernel
theorem dX3_gapsOfAll_20 : decode cX3_gapsOfAll 20 = .ok (.iadd, 1) := by decide +kernel
theorem dX3_gapsOfAll_21 : decode cX3_gapsOfAll 21 = .ok (.istore_n 1, 1) := by decide +kernel
theorem dX3_gapsOfAll_22 : decode cX3_gapsOfAll 22 = .ok (.iinc 2 1, 3) := by decide +kernel
theorem dX3_gapsOfAll_25 : decode cX3_gapsOfAll 25 = .ok (.goto (-21), 3) := by decide +kernel
theorem dX3_gapsOfAll_28 : decode cX3_gapsOfAll 28 = .ok (.iload_n 1, 1) := by decide +kernel
theorem dX3_gapsOfAll_29 : decode cX3_gapsOfAll 29 = .ok (.ireturn, 1) := by decide +kernel
theorem dX3_fewestLeftOut_0 : decode cX3_fewestLeftOut 0 = .ok (.aload_n 0, 1) := by decide +kernel
theorem dX3_fewestLeftOut_1 : decode cX3_fewestLeftOut 1 = .ok (.getfield 53, 3) := by decide +kernel
theorem dX3_fewestLeftOut_4 : decode cX3_fewestLeftOut 4 = .ok (.ifCond .eq 16, 3) := by decide +kernel
theorem dX3_fewestLeftOut_7 : decode cX3_fewestLeftOut 7 = .ok (.aload_n 0, 1) := by decide +kernel
theorem dX3_fewestLeftOut_8 : decode cX3_fewestLeftOut 8 = .ok (.aload_n 0, 1) := by decide +kernel
theorem dX3_fewestLeftOut_9 : decode cX3_fewestLeftOut 9 = .ok (.invokevirtual 152, 3) := by decide +kernel
theorem dX3_fewestLeftOut_12 : decode cX3_fewestLeftOut 12 = .ok (.putfield 56, 3) := by decide +kernel
theorem dX3_fewestLeftOut_15 : decode cX3_fewestLeftOut 15 = .ok (.aload_n 0, 1) := by decide +kernel
theorem dX3_fewestLeftOut_16 : decode cX3_fewestLeftOut 16 = .ok (.iconst 0, 1) := by decide +kernel
theorem dX3_fewestLeftOut_17 : decode cX3_fewestLeftOut 17 = .ok (.putfield 53, 3) := by decide +kernel
theorem dX3_fewestLeftOut_20 : decode cX3_fewestLeftOut 20 = .ok (.aload_n 0, 1) := by decide +kernel
theorem dX3_fewestLeftOut_21 : decode cX3_fewestLeftOut 21 = .ok (.getfield 56, 3) := by decide +kernel
theorem dX3_fewestLeftOut_24 : decode cX3_fewestLeftOut 24 = .ok (.ireturn, 1) := by decide +kernel
theorem dX3_searchLeftOut_0 : decode cX3_searchLeftOut 0 = .ok (.aload_n 0, 1) := by decide +kernel
theorem dX3_searchLeftOut_1 : decode cX3_searchLeftOut 1 = .ok (.invokevirtual 155, 3) := by decide +kernel
theorem dX3_searchLeftOut_4 : decode cX3_searchLeftOut 4 = .ok (.istore_n 1, 1) := by decide +kernel
theorem dX3_searchLeftOut_5 : decode cX3_searchLeftOut 5 = .ok (.iload_n 1, 1) := by decide +kernel
theorem dX3_searchLeftOut_6 : decode cX3_searchLeftOut 6 = .ok (.invokestatic 142, 3) := by decide +kernel
theorem dX3_searchLeftOut_9 : decode cX3_searchLeftOut 9 = .ok (.istore_n 2, 1) := by decide +kernel
theorem dX3_searchLeftOut_10 : decode cX3_searchLeftOut 10 = .ok (.iconst 0, 1) := by decide +kernel
theorem dX3_searchLeftOut_11 : decode cX3_searchLeftOut 11 = .ok (.istore_n 3, 1) := by decide +kernel
theorem dX3_searchLeftOut_12 : decode cX3_searchLeftOut 12 = .ok (.iload_n 3, 1) := by decide +kernel
theorem dX3_searchLeftOut_13 : decode cX3_searchLeftOut 13 = .ok (.iload_n 2, 1) := by decide +kernel
theorem dX3_searchLeftOut_14 : decode cX3_searchLeftOut 14 = .ok (.if_icmp .ge 68, 3) := by decide +kernel
theorem dX3_searchLeftOut_17 : decode cX3_searchLeftOut 17 = .ok (.iconst 0, 1) := by decide +kernel
theorem dX3_searchLeftOut_18 : decode cX3_searchLeftOut 18 = .ok (.istore 4, 2) := by decide +kernel
theorem dX3_searchLeftOut_20 : decode cX3_searchLeftOut 20 = .ok (.iload 4, 2) := by decide +kernel
theorem dX3_searchLeftOut_22 : decode cX3_searchLeftOut 22 = .ok (.sipush 1023, 3) := by decide +kernel
theorem dX3_searchLeftOut_25 : decode cX3_searchLeftOut 25 = .ok (.if_icmp .gt 51, 3) := by decide +kernel
theorem dX3_searchLeftOut_28 : decode cX3_searchLeftOut 28 = .ok (.iload 4, 2) := by decide +kernel
theorem dX3_searchLeftOut_30 : decode cX3_searchLeftOut 30 = .ok (.invokestatic 142, 3) := by decide +kernel
theorem dX3_searchLeftOut_33 : decode cX3_searchLeftOut 33 = .ok (.iload_n 3, 1) := by decide +kernel
theorem dX3_searchLeftOut_34 : decode cX3_searchLeftOut 34 = .ok (.if_icmp .ne 16, 3) := by decide +kernel
theorem dX3_searchLeftOut_37 : decode cX3_searchLeftOut 37 = .ok (.iload 4, 2) := by decide +kernel
theorem dX3_searchLeftOut_39 : decode cX3_searchLeftOut 39 = .ok (.iload_n 1, 1) := by decide +kernel
theorem dX3_searchLeftOut_40 : decode cX3_searchLeftOut 40 = .ok (.iconst (-1), 1) := by decide +kernel
theorem dX3_searchLeftOut_41 : decode cX3_searchLeftOut 41 = .ok (.ixor, 1) := by decide +kernel
theorem dX3_searchLeftOut_42 : decode cX3_searchLeftOut 42 = .ok (.iand, 1) := by decide +kernel
theorem dX3_searchLeftOut_43 : decode cX3_searchLeftOut 43 = .ok (.ifCond .ne 7, 3) := by decide +kernel
theorem dX3_searchLeftOut_46 : decode cX3_searchLeftOut 46 = .ok (.iconst 1, 1) := by decide +kernel
theorem dX3_searchLeftOut_47 : decode cX3_searchLeftOut 47 = .ok (.goto 4, 3) := by decide +kernel
theorem dX3_searchLeftOut_50 : decode cX3_searchLeftOut 50 = .ok (.iconst 0, 1) := by decide +kernel
theorem dX3_searchLeftOut_51 : decode cX3_searchLeftOut 51 = .ok (.istore 5, 2) := by decide +kernel
theorem dX3_searchLeftOut_53 : decode cX3_searchLeftOut 53 = .ok (.iload 5, 2) := by decide +kernel
theorem dX3_searchLeftOut_55 : decode cX3_searchLeftOut 55 = .ok (.ifCond .eq 15, 3) := by decide +kernel
theorem dX3_searchLeftOut_58 : decode cX3_searchLeftOut 58 = .ok (.aload_n 0, 1) := by decide +kernel
theorem dX3_searchLeftOut_59 : decode cX3_searchLeftOut 59 = .ok (.iload 4, 2) := by decide +kernel
theorem dX3_searchLeftOut_61 : decode cX3_searchLeftOut 61 = .ok (.invokevirtual 158, 3) := by decide +kernel
theorem dX3_searchLeftOut_64 : decode cX3_searchLeftOut 64 = .ok (.ifCond .eq 6, 3) := by decide +kernel
theorem dX3_searchLeftOut_67 : decode cX3_searchLeftOut 67 = .ok (.iload 4, 2) := by decide +kernel
theorem dX3_searchLeftOut_69 : decode cX3_searchLeftOut 69 = .ok (.ireturn, 1) := by decide +kernel
theorem dX3_searchLeftOut_70 : decode cX3_searchLeftOut 70 = .ok (.iinc 4 1, 3) := by decide +kernel
theorem dX3_searchLeftOut_73 : decode cX3_searchLeftOut 73 = .ok (.goto (-53), 3) := by decide +kernel
theorem dX3_searchLeftOut_76 : decode cX3_searchLeftOut 76 = .ok (.iinc 3 1, 3) := by decide +kernel
theorem dX3_searchLeftOut_79 : decode cX3_searchLeftOut 79 = .ok (.goto (-67), 3) := by decide +kernel
theorem dX3_searchLeftOut_82 : decode cX3_searchLeftOut 82 = .ok (.iload_n 1, 1) := by decide +kernel
theorem dX3_searchLeftOut_83 : decode cX3_searchLeftOut 83 = .ok (.ireturn, 1) := by decide +kernel
theorem dX3_kindsWithGaps_0 : decode cX3_kindsWithGaps 0 = .ok (.aload_n 0, 1) := by decide +kernel
theorem dX3_kindsWithGaps_1 : decode cX3_kindsWithGaps 1 = .ok (.invokevirtual 84, 3) := by decide +kernel
theorem dX3_kindsWithGaps_4 : decode cX3_kindsWithGaps 4 = .ok (.istore_n 1, 1) := by decide +kernel
theorem dX3_kindsWithGaps_5 : decode cX3_kindsWithGaps 5 = .ok (.iconst 0, 1) := by decide +kernel
theorem dX3_kindsWithGaps_6 : decode cX3_kindsWithGaps 6 = .ok (.istore_n 2, 1) := by decide +kernel
theorem dX3_kindsWithGaps_7 : decode cX3_kindsWithGaps 7 = .ok (.iconst 0, 1) := by decide +kernel
theorem dX3_kindsWithGaps_8 : decode cX3_kindsWithGaps 8 = .ok (.istore_n 3, 1) := by decide +kernel
theorem dX3_kindsWithGaps_9 : decode cX3_kindsWithGaps 9 = .ok (.iload_n 3, 1) := by decide +kernel
theorem dX3_kindsWithGaps_10 : decode cX3_kindsWithGaps 10 = .ok (.iload_n 1, 1) := by decide +kernel
theorem dX3_kindsWithGaps_11 : decode cX3_kindsWithGaps 11 = .ok (.if_icmp .gt 59, 3) := by decide +kernel
theorem dX3_kindsWithGaps_14 : decode cX3_kindsWithGaps 14 = .ok (.iconst 0, 1) := by decide +kernel
theorem dX3_kindsWithGaps_15 : decode cX3_kindsWithGaps 15 = .ok (.istore 4, 2) := by decide +kernel
theorem dX3_kindsWithGaps_17 : decode cX3_kindsWithGaps 17 = .ok (.iload 4, 2) := by decide +kernel
theorem dX3_kindsWithGaps_19 : decode cX3_kindsWithGaps 19 = .ok (.aload_n 0, 1) := by decide +kernel
theorem dX3_kindsWithGaps_20 : decode cX3_kindsWithGaps 20 = .ok (.getfield 60, 3) := by decide +kernel
theorem dX3_kindsWithGaps_23 : decode cX3_kindsWithGaps 23 = .ok (.getfield 79, 3) := by decide +kernel
theorem dX3_kindsWithGaps_26 : decode cX3_kindsWithGaps 26 = .ok (.if_icmp .ge 38, 3) := by decide +kernel
theorem dX3_kindsWithGaps_29 : decode cX3_kindsWithGaps 29 = .ok (.aload_n 0, 1) := by decide +kernel
theorem dX3_kindsWithGaps_30 : decode cX3_kindsWithGaps 30 = .ok (.getfield 18, 3) := by decide +kernel
theorem dX3_kindsWithGaps_33 : decode cX3_kindsWithGaps 33 = .ok (.iload_n 3, 1) := by decide +kernel
theorem dX3_kindsWithGaps_34 : decode cX3_kindsWithGaps 34 = .ok (.bipush 8, 2) := by decide +kernel
theorem dX3_kindsWithGaps_36 : decode cX3_kindsWithGaps 36 = .ok (.imul, 1) := by decide +kernel
theorem dX3_kindsWithGaps_37 : decode cX3_kindsWithGaps 37 = .ok (.iload 4, 2) := by decide +kernel
theorem dX3_kindsWithGaps_39 : decode cX3_kindsWithGaps 39 = .ok (.iadd, 1) := by decide +kernel
theorem dX3_kindsWithGaps_40 : decode cX3_kindsWithGaps 40 = .ok (.iaload, 1) := by decide +kernel
theorem dX3_kindsWithGaps_41 : decode cX3_kindsWithGaps 41 = .ok (.istore 5, 2) := by decide +kernel
theorem dX3_kindsWithGaps_43 : decode cX3_kindsWithGaps 43 = .ok (.iload_n 2, 1) := by decide +kernel
theorem dX3_kindsWithGaps_44 : decode cX3_kindsWithGaps 44 = .ok (.iload 5, 2) := by decide +kernel
theorem dX3_kindsWithGaps_46 : decode cX3_kindsWithGaps 46 = .ok (.iconst (-1), 1) := by decide +kernel
theorem dX3_kindsWithGaps_47 : decode cX3_kindsWithGaps 47 = .ok (.if_icmp .ne 7, 3) := by decide +kernel
theorem dX3_kindsWithGaps_50 : decode cX3_kindsWithGaps 50 = .ok (.iconst 0, 1) := by decide +kernel
theorem dX3_kindsWithGaps_51 : decode cX3_kindsWithGaps 51 = .ok (.goto 5, 3) := by decide +kernel
theorem dX3_kindsWithGaps_54 : decode cX3_kindsWithGaps 54 = .ok (.iload 5, 2) := by decide +kernel
theorem dX3_kindsWithGaps_56 : decode cX3_kindsWithGaps 56 = .ok (.ior, 1) := by decide +kernel
theorem dX3_kindsWithGaps_57 : decode cX3_kindsWithGaps 57 = .ok (.istore_n 2, 1) := by decide +kernel
theorem dX3_kindsWithGaps_58 : decode cX3_kindsWithGaps 58 = .ok (.iinc 4 1, 3) := by decide +kernel
theorem dX3_kindsWithGaps_61 : decode cX3_kindsWithGaps 61 = .ok (.goto (-44), 3) := by decide +kernel
theorem dX3_kindsWithGaps_64 : decode cX3_kindsWithGaps 64 = .ok (.iinc 3 1, 3) := by decide +kernel
theorem dX3_kindsWithGaps_67 : decode cX3_kindsWithGaps 67 = .ok (.goto (-58), 3) := by decide +kernel
theorem dX3_kindsWithGaps_70 : decode cX3_kindsWithGaps 70 = .ok (.iload_n 2, 1) := by decide +kernel
theorem dX3_kindsWithGaps_71 : decode cX3_kindsWithGaps 71 = .ok (.ireturn, 1) := by decide +kernel
theorem dX3_reachesAllWithout_0 : decode cX3_reachesAllWithout 0 = .ok (.aload_n 0, 1) := by decide +kernel
theorem dX3_reachesAllWithout_1 : decode cX3_reachesAllWithout 1 = .ok (.invokevirtual 84, 3) := by decide +kernel
theorem dX3_reachesAllWithout_4 : decode cX3_reachesAllWithout 4 = .ok (.istore_n 2, 1) := by decide +kernel
theorem dX3_reachesAllWithout_5 : decode cX3_reachesAllWithout 5 = .ok (.iconst 1, 1) := by decide +kernel
theorem dX3_reachesAllWithout_6 : decode cX3_reachesAllWithout 6 = .ok (.istore_n 3, 1) := by decide +kernel
theorem dX3_reachesAllWithout_7 : decode cX3_reachesAllWithout 7 = .ok (.iload_n 3, 1) := by decide +kernel
theorem dX3_reachesAllWithout_8 : decode cX3_reachesAllWithout 8 = .ok (.iload_n 2, 1) := by decide +kernel
theorem dX3_reachesAllWithout_9 : decode cX3_reachesAllWithout 9 = .ok (.if_icmp .gt 16, 3) := by decide +kernel
theorem dX3_reachesAllWithout_12 : decode cX3_reachesAllWithout 12 = .ok (.aload_n 0, 1) := by decide +kernel
theorem dX3_reachesAllWithout_13 : decode cX3_reachesAllWithout 13 = .ok (.getfield 42, 3) := by decide +kernel
theorem dX3_reachesAllWithout_16 : decode cX3_reachesAllWithout 16 = .ok (.iload_n 3, 1) := by decide +kernel
theorem dX3_reachesAllWithout_17 : decode cX3_reachesAllWithout 17 = .ok (.iconst 0, 1) := by decide +kernel
theorem dX3_reachesAllWithout_18 : decode cX3_reachesAllWithout 18 = .ok (.bastore, 1) := by decide +kernel
theorem dX3_reachesAllWithout_19 : decode cX3_reachesAllWithout 19 = .ok (.iinc 3 1, 3) := by decide +kernel
theorem dX3_reachesAllWithout_22 : decode cX3_reachesAllWithout 22 = .ok (.goto (-15), 3) := by decide +kernel
theorem dX3_reachesAllWithout_25 : decode cX3_reachesAllWithout 25 = .ok (.aload_n 0, 1) := by decide +kernel
theorem dX3_reachesAllWithout_26 : decode cX3_reachesAllWithout 26 = .ok (.getfield 42, 3) := by decide +kernel
theorem dX3_reachesAllWithout_29 : decode cX3_reachesAllWithout 29 = .ok (.iconst 0, 1) := by decide +kernel
theorem dX3_reachesAllWithout_30 : decode cX3_reachesAllWithout 30 = .ok (.iconst 1, 1) := by decide +kernel
theorem dX3_reachesAllWithout_31 : decode cX3_reachesAllWithout 31 = .ok (.bastore, 1) := by decide +kernel
theorem dX3_reachesAllWithout_32 : decode cX3_reachesAllWithout 32 = .ok (.iconst 0, 1) := by decide +kernel
theorem dX3_reachesAllWithout_33 : decode cX3_reachesAllWithout 33 = .ok (.istore_n 3, 1) := by decide +kernel
theorem dX3_reachesAllWithout_34 : decode cX3_reachesAllWithout 34 = .ok (.iload_n 3, 1) := by decide +kernel
theorem dX3_reachesAllWithout_35 : decode cX3_reachesAllWithout 35 = .ok (.iload_n 2, 1) := by decide +kernel
theorem dX3_reachesAllWithout_36 : decode cX3_reachesAllWithout 36 = .ok (.if_icmp .ge 80, 3) := by decide +kernel
theorem dX3_reachesAllWithout_39 : decode cX3_reachesAllWithout 39 = .ok (.iconst 0, 1) := by decide +kernel
theorem dX3_reachesAllWithout_40 : decode cX3_reachesAllWithout 40 = .ok (.istore 4, 2) := by decide +kernel
theorem dX3_reachesAllWithout_42 : decode cX3_reachesAllWithout 42 = .ok (.iload 4, 2) := by decide +kernel
theorem dX3_reachesAllWithout_44 : decode cX3_reachesAllWithout 44 = .ok (.aload_n 0, 1) := by decide +kernel
theorem dX3_reachesAllWithout_45 : decode cX3_reachesAllWithout 45 = .ok (.getfield 60, 3) := by decide +kernel
theorem dX3_reachesAllWithout_48 : decode cX3_reachesAllWithout 48 = .ok (.getfield 79, 3) := by decide +kernel
theorem dX3_reachesAllWithout_51 : decode cX3_reachesAllWithout 51 = .ok (.if_icmp .ge 59, 3) := by decide +kernel
theorem dX3_reachesAllWithout_54 : decode cX3_reachesAllWithout 54 = .ok (.aload_n 0, 1) := by decide +kernel
theorem dX3_reachesAllWithout_55 : decode cX3_reachesAllWithout 55 = .ok (.getfield 42, 3) := by decide +kernel
theorem dX3_reachesAllWithout_58 : decode cX3_reachesAllWithout 58 = .ok (.iload_n 3, 1) := by decide +kernel
theorem dX3_reachesAllWithout_59 : decode cX3_reachesAllWithout 59 = .ok (.baload, 1) := by decide +kernel
theorem dX3_reachesAllWithout_60 : decode cX3_reachesAllWithout 60 = .ok (.ifCond .eq 50, 3) := by decide +kernel
theorem dX3_reachesAllWithout_63 : decode cX3_reachesAllWithout 63 = .ok (.aload_n 0, 1) := by decide +kernel
theorem dX3_reachesAllWithout_64 : decode cX3_reachesAllWithout 64 = .ok (.getfield 18, 3) := by decide +kernel
theorem dX3_reachesAllWithout_67 : decode cX3_reachesAllWithout 67 = .ok (.iload_n 3, 1) := by decide +kernel
theorem dX3_reachesAllWithout_68 : decode cX3_reachesAllWithout 68 = .ok (.bipush 8, 2) := by decide +kernel
theorem dX3_reachesAllWithout_70 : decode cX3_reachesAllWithout 70 = .ok (.imul, 1) := by decide +kernel
theorem dX3_reachesAllWithout_71 : decode cX3_reachesAllWithout 71 = .ok (.iload 4, 2) := by decide +kernel
theorem dX3_reachesAllWithout_73 : decode cX3_reachesAllWithout 73 = .ok (.iadd, 1) := by decide +kernel
theorem dX3_reachesAllWithout_74 : decode cX3_reachesAllWithout 74 = .ok (.iaload, 1) := by decide +kernel
theorem dX3_reachesAllWithout_75 : decode cX3_reachesAllWithout 75 = .ok (.istore 5, 2) := by decide +kernel
theorem dX3_reachesAllWithout_77 : decode cX3_reachesAllWithout 77 = .ok (.iload 5, 2) := by decide +kernel
theorem dX3_reachesAllWithout_79 : decode cX3_reachesAllWithout 79 = .ok (.iconst (-1), 1) := by decide +kernel
theorem dX3_reachesAllWithout_80 : decode cX3_reachesAllWithout 80 = .ok (.if_icmp .eq 24, 3) := by decide +kernel
theorem dX3_reachesAllWithout_83 : decode cX3_reachesAllWithout 83 = .ok (.iload 5, 2) := by decide +kernel
theorem dX3_reachesAllWithout_85 : decode cX3_reachesAllWithout 85 = .ok (.iload_n 1, 1) := by decide +kernel
theorem dX3_reachesAllWithout_86 : decode cX3_reachesAllWithout 86 = .ok (.iconst (-1), 1) := by decide +kernel
theorem dX3_reachesAllWithout_87 : decode cX3_reachesAllWithout 87 = .ok (.ixor, 1) := by decide +kernel
theorem dX3_reachesAllWithout_88 : decode cX3_reachesAllWithout 88 = .ok (.iand, 1) := by decide +kernel
theorem dX3_reachesAllWithout_89 : decode cX3_reachesAllWithout 89 = .ok (.ifCond .ne 15, 3) := by decide +kernel
theorem dX3_reachesAllWithout_92 : decode cX3_reachesAllWithout 92 = .ok (.aload_n 0, 1) := by decide +kernel
theorem dX3_reachesAllWithout_93 : decode cX3_reachesAllWithout 93 = .ok (.getfield 42, 3) := by decide +kernel
theorem dX3_reachesAllWithout_96 : decode cX3_reachesAllWithout 96 = .ok (.iload_n 3, 1) := by decide +kernel
theorem dX3_reachesAllWithout_97 : decode cX3_reachesAllWithout 97 = .ok (.iconst 1, 1) := by decide +kernel
theorem dX3_reachesAllWithout_98 : decode cX3_reachesAllWithout 98 = .ok (.iload 4, 2) := by decide +kernel
theorem dX3_reachesAllWithout_100 : decode cX3_reachesAllWithout 100 = .ok (.ishl, 1) := by decide +kernel
theorem dX3_reachesAllWithout_101 : decode cX3_reachesAllWithout 101 = .ok (.ior, 1) := by decide +kernel
theorem dX3_reachesAllWithout_102 : decode cX3_reachesAllWithout 102 = .ok (.iconst 1, 1) := by decide +kernel
theorem dX3_reachesAllWithout_103 : decode cX3_reachesAllWithout 103 = .ok (.bastore, 1) := by decide +kernel
theorem dX3_reachesAllWithout_104 : decode cX3_reachesAllWithout 104 = .ok (.iinc 4 1, 3) := by decide +kernel
theorem dX3_reachesAllWithout_107 : decode cX3_reachesAllWithout 107 = .ok (.goto (-65), 3) := by decide +kernel
theorem dX3_reachesAllWithout_110 : decode cX3_reachesAllWithout 110 = .ok (.iinc 3 1, 3) := by decide +kernel
theorem dX3_reachesAllWithout_113 : decode cX3_reachesAllWithout 113 = .ok (.goto (-79), 3) := by decide +kernel
theorem dX3_reachesAllWithout_116 : decode cX3_reachesAllWithout 116 = .ok (.aload_n 0, 1) := by decide +kernel
theorem dX3_reachesAllWithout_117 : decode cX3_reachesAllWithout 117 = .ok (.getfield 42, 3) := by decide +kernel
theorem dX3_reachesAllWithout_120 : decode cX3_reachesAllWithout 120 = .ok (.iload_n 2, 1) := by decide +kernel
theorem dX3_reachesAllWithout_121 : decode cX3_reachesAllWithout 121 = .ok (.baload, 1) := by decide +kernel
theorem dX3_reachesAllWithout_122 : decode cX3_reachesAllWithout 122 = .ok (.ireturn, 1) := by decide +kernel
theorem dX4_init_0 : decode cX4_init 0 = .ok (.aload_n 0, 1) := by decide +kernel
theorem dX4_init_1 : decode cX4_init 1 = .ok (.invokespecial 3, 3) := by decide +kernel
theorem dX4_init_4 : decode cX4_init 4 = .ok (.aload_n 0, 1) := by decide +kernel
theorem dX4_init_5 : decode cX4_init 5 = .ok (.bipush 40, 2) := by decide +kernel
theorem dX4_init_7 : decode cX4_init 7 = .ok (.newarray .int, 2) := by decide +kernel
theorem dX4_init_9 : decode cX4_init 9 = .ok (.putfield 9, 3) := by decide +kernel
theorem dX4_init_12 : decode cX4_init 12 = .ok (.aload_n 0, 1) := by decide +kernel
theorem dX4_init_13 : decode cX4_init 13 = .ok (.iconst 1, 1) := by decide +kernel
theorem dX4_init_14 : decode cX4_init 14 = .ok (.putfield 15, 3) := by decide +kernel
theorem dX4_init_17 : decode cX4_init 17 = .ok (.aload_n 0, 1) := by decide +kernel
theorem dX4_init_18 : decode cX4_init 18 = .ok (.iconst 0, 1) := by decide +kernel
theorem dX4_init_19 : decode cX4_init 19 = .ok (.putfield 19, 3) := by decide +kernel
theorem dX4_init_22 : decode cX4_init 22 = .ok (.aload_n 0, 1) := by decide +kernel
theorem dX4_init_23 : decode cX4_init 23 = .ok (.iconst 0, 1) := by decide +kernel
theorem dX4_init_24 : decode cX4_init 24 = .ok (.putfield 23, 3) := by decide +kernel
theorem dX4_init_27 : decode cX4_init 27 = .ok (.return_, 1) := by decide +kernel
theorem dX4_renew_0 : decode cX4_renew 0 = .ok (.iconst 0, 1) := by decide +kernel
theorem dX4_renew_1 : decode cX4_renew 1 = .ok (.istore_n 3, 1) := by decide +kernel
theorem dX4_renew_2 : decode cX4_renew 2 = .ok (.iload_n 3, 1) := by decide +kernel
theorem dX4_renew_3 : decode cX4_renew 3 = .ok (.bipush 40, 2) := by decide +kernel
theorem dX4_renew_5 : decode cX4_renew 5 = .ok (.if_icmp .ge 16, 3) := by decide +kernel
theorem dX4_renew_8 : decode cX4_renew 8 = .ok (.aload_n 0, 1) := by decide +kernel
theorem dX4_renew_9 : decode cX4_renew 9 = .ok (.getfield 9, 3) := by decide +kernel
theorem dX4_renew_12 : decode cX4_renew 12 = .ok (.iload_n 3, 1) := by decide +kernel
theorem dX4_renew_13 : decode cX4_renew 13 = .ok (.iconst 0, 1) := by decide +kernel
theorem dX4_renew_14 : decode cX4_renew 14 = .ok (.iastore, 1) := by decide +kernel
theorem dX4_renew_15 : decode cX4_renew 15 = .ok (.iinc 3 1, 3) := by decide +kernel
theorem dX4_renew_18 : decode cX4_renew 18 = .ok (.goto (-16), 3) := by decide +kernel
theorem dX4_renew_21 : decode cX4_renew 21 = .ok (.aload_n 0, 1) := by decide +kernel
theorem dX4_renew_22 : decode cX4_renew 22 = .ok (.iconst 0, 1) := by decide +kernel
theorem dX4_renew_23 : decode cX4_renew 23 = .ok (.putfield 15, 3) := by decide +kernel
theorem dX4_renew_26 : decode cX4_renew 26 = .ok (.aload_n 0, 1) := by decide +kernel
theorem dX4_renew_27 : decode cX4_renew 27 = .ok (.iload_n 1, 1) := by decide +kernel
theorem dX4_renew_28 : decode cX4_renew 28 = .ok (.putfield 19, 3) := by decide +kernel
theorem dX4_renew_31 : decode cX4_renew 31 = .ok (.aload_n 0, 1) := by decide +kernel
theorem dX4_renew_32 : decode cX4_renew 32 = .ok (.iload_n 2, 1) := by decide +kernel
theorem dX4_renew_33 : decode cX4_renew 33 = .ok (.putfield 23, 3) := by decide +kernel
theorem dX4_renew_36 : decode cX4_renew 36 = .ok (.return_, 1) := by decide +kernel
theorem dX4_findingAt_0 : decode cX4_findingAt 0 = .ok (.aload_n 0, 1) := by decide +kernel
theorem dX4_findingAt_1 : decode cX4_findingAt 1 = .ok (.getfield 15, 3) := by decide +kernel
theorem dX4_findingAt_4 : decode cX4_findingAt 4 = .ok (.ifCond .eq 5, 3) := by decide +kernel
theorem dX4_findingAt_7 : decode cX4_findingAt 7 = .ok (.iconst 1, 1) := by decide +kernel
theorem dX4_findingAt_8 : decode cX4_findingAt 8 = .ok (.ireturn, 1) := by decide +kernel
theorem dX4_findingAt_9 : decode cX4_findingAt 9 = .ok (.aload_n 0, 1) := by decide +kernel
theorem dX4_findingAt_10 : decode cX4_findingAt 10 = .ok (.getfield 19, 3) := by decide +kernel
theorem dX4_findingAt_13 : decode cX4_findingAt 13 = .ok (.iload_n 1, 1) := by decide +kernel
theorem dX4_findingAt_14 : decode cX4_findingAt 14 = .ok (.if_icmp .eq 5, 3) := by decide +kernel
theorem dX4_findingAt_17 : decode cX4_findingAt 17 = .ok (.iconst 3, 1) := by decide +kernel
theorem dX4_findingAt_18 : decode cX4_findingAt 18 = .ok (.ireturn, 1) := by decide +kernel
theorem dX4_findingAt_19 : decode cX4_findingAt 19 = .ok (.iload_n 2, 1) := by decide +kernel
theorem dX4_findingAt_20 : decode cX4_findingAt 20 = .ok (.ifCond .lt 11, 3) := by decide +kernel
theorem dX4_findingAt_23 : decode cX4_findingAt 23 = .ok (.iload_n 2, 1) := by decide +kernel
theorem dX4_findingAt_24 : decode cX4_findingAt 24 = .ok (.aload_n 0, 1) := by decide +kernel
theorem dX4_findingAt_25 : decode cX4_findingAt 25 = .ok (.getfield 23, 3) := by decide +kernel
theorem dX4_findingAt_28 : decode cX4_findingAt 28 = .ok (.if_icmp .lt 7, 3) := by decide +kernel
theorem dX4_findingAt_31 : decode cX4_findingAt 31 = .ok (.iconst 2, 1) := by decide +kernel
theorem dX4_findingAt_32 : decode cX4_findingAt 32 = .ok (.goto 4, 3) := by decide +kernel
theorem dX4_findingAt_35 : decode cX4_findingAt 35 = .ok (.iconst 0, 1) := by decide +kernel
theorem dX4_findingAt_36 : decode cX4_findingAt 36 = .ok (.ireturn, 1) := by decide +kernel
theorem dX4_holdsRun_0 : decode cX4_holdsRun 0 = .ok (.iload_n 1, 1) := by decide +kernel
theorem dX4_holdsRun_1 : decode cX4_holdsRun 1 = .ok (.ifCond .lt 21, 3) := by decide +kernel
theorem dX4_holdsRun_4 : decode cX4_holdsRun 4 = .ok (.iload_n 2, 1) := by decide +kernel
theorem dX4_holdsRun_5 : decode cX4_holdsRun 5 = .ok (.ifCond .lt 17, 3) := by decide +kernel
theorem dX4_holdsRun_8 : decode cX4_holdsRun 8 = .ok (.iload_n 1, 1) := by decide +kernel
theorem dX4_holdsRun_9 : decode cX4_holdsRun 9 = .ok (.aload_n 0, 1) := by decide +kernel
theorem dX4_holdsRun_10 : decode cX4_holdsRun 10 = .ok (.getfield 23, 3) := by decide +kernel
theorem dX4_holdsRun_13 : decode cX4_holdsRun 13 = .ok (.iload_n 2, 1) := by decide +kernel
theorem dX4_holdsRun_14 : decode cX4_holdsRun 14 = .ok (.isub, 1) := by decide +kernel
theorem dX4_holdsRun_15 : decode cX4_holdsRun 15 = .ok (.if_icmp .gt 7, 3) := by decide +kernel
theorem dX4_holdsRun_18 : decode cX4_holdsRun 18 = .ok (.iconst 1, 1) := by decide +kernel
theorem dX4_holdsRun_19 : decode cX4_holdsRun 19 = .ok (.goto 4, 3) := by decide +kernel
theorem dX4_holdsRun_22 : decode cX4_holdsRun 22 = .ok (.iconst 0, 1) := by decide +kernel
theorem dX4_holdsRun_23 : decode cX4_holdsRun 23 = .ok (.ireturn, 1) := by decide +kernel
theorem dX4_store_0 : decode cX4_store 0 = .ok (.aload_n 0, 1) := by decide +kernel
theorem dX4_store_1 : decode cX4_store 1 = .ok (.getfield 19, 3) := by decide +kernel
theorem dX4_store_4 : decode cX4_store 4 = .ok (.ifCond .ne 14, 3) := by decide +kernel
theorem dX4_store_7 : decode cX4_store 7 = .ok (.aload_n 0, 1) := by decide +kernel
theorem dX4_store_8 : decode cX4_store 8 = .ok (.getfield 9, 3) := by decide +kernel
theorem dX4_store_11 : decode cX4_store 11 = .ok (.iload_n 1, 1) := by decide +kernel
theorem dX4_store_12 : decode cX4_store 12 = .ok (.iload_n 2, 1) := by decide +kernel
theorem dX4_store_13 : decode cX4_store 13 = .ok (.i2b, 1) := by decide +kernel
theorem dX4_store_14 : decode cX4_store 14 = .ok (.iastore, 1) := by decide +kernel
theorem dX4_store_15 : decode cX4_store 15 = .ok (.goto 23, 3) := by decide +kernel
theorem dX4_store_18 : decode cX4_store 18 = .ok (.aload_n 0, 1) := by decide +kernel
theorem dX4_store_19 : decode cX4_store 19 = .ok (.getfield 9, 3) := by decide +kernel
theorem dX4_store_22 : decode cX4_store 22 = .ok (.iload_n 1, 1) := by decide +kernel
theorem dX4_store_23 : decode cX4_store 23 = .ok (.aload_n 0, 1) := by decide +kernel
theorem dX4_store_24 : decode cX4_store 24 = .ok (.getfield 19, 3) := by decide +kernel
theorem dX4_store_27 : decode cX4_store 27 = .ok (.iconst 1, 1) := by decide +kernel
theorem dX4_store_28 : decode cX4_store 28 = .ok (.if_icmp .ne 8, 3) := by decide +kernel
theorem dX4_store_31 : decode cX4_store 31 = .ok (.iload_n 2, 1) := by decide +kernel
theorem dX4_store_32 : decode cX4_store 32 = .ok (.i2s, 1) := by decide +kernel
theorem dX4_store_33 : decode cX4_store 33 = .ok (.goto 4, 3) := by decide +kernel
theorem dX4_store_36 : decode cX4_store 36 = .ok (.iload_n 2, 1) := by decide +kernel
theorem dX4_store_37 : decode cX4_store 37 = .ok (.iastore, 1) := by decide +kernel
theorem dX4_store_38 : decode cX4_store 38 = .ok (.return_, 1) := by decide +kernel
theorem dX5_init_0 : decode cX5_init 0 = .ok (.aload_n 0, 1) := by decide +kernel
theorem dX5_init_1 : decode cX5_init 1 = .ok (.invokespecial 3, 3) := by decide +kernel
theorem dX5_init_4 : decode cX5_init 4 = .ok (.aload_n 0, 1) := by decide +kernel
theorem dX5_init_5 : decode cX5_init 5 = .ok (.bipush 8, 2) := by decide +kernel
theorem dX5_init_7 : decode cX5_init 7 = .ok (.newarray .int, 2) := by decide +kernel
theorem dX5_init_9 : decode cX5_init 9 = .ok (.putfield 9, 3) := by decide +kernel
theorem dX5_init_12 : decode cX5_init 12 = .ok (.aload_n 0, 1) := by decide +kernel
theorem dX5_init_13 : decode cX5_init 13 = .ok (.bipush 8, 2) := by decide +kernel
theorem dX5_init_15 : decode cX5_init 15 = .ok (.newarray .int, 2) := by decide +kernel
theorem dX5_init_17 : decode cX5_init 17 = .ok (.putfield 15, 3) := by decide +kernel
theorem dX5_init_20 : decode cX5_init 20 = .ok (.aload_n 0, 1) := by decide +kernel
theorem dX5_init_21 : decode cX5_init 21 = .ok (.bipush 8, 2) := by decide +kernel
theorem dX5_init_23 : decode cX5_init 23 = .ok (.newarray .int, 2) := by decide +kernel
theorem dX5_init_25 : decode cX5_init 25 = .ok (.putfield 18, 3) := by decide +kernel
theorem dX5_init_28 : decode cX5_init 28 = .ok (.aload_n 0, 1) := by decide +kernel
theorem dX5_init_29 : decode cX5_init 29 = .ok (.bipush 8, 2) := by decide +kernel
theorem dX5_init_31 : decode cX5_init 31 = .ok (.newarray .int, 2) := by decide +kernel
theorem dX5_init_33 : decode cX5_init 33 = .ok (.putfield 21, 3) := by decide +kernel
theorem dX5_init_36 : decode cX5_init 36 = .ok (.aload_n 0, 1) := by decide +kernel
theorem dX5_init_37 : decode cX5_init 37 = .ok (.iconst 0, 1) := by decide +kernel
theorem dX5_init_38 : decode cX5_init 38 = .ok (.putfield 24, 3) := by decide +kernel
theorem dX5_init_41 : decode cX5_init 41 = .ok (.aload_n 0, 1) := by decide +kernel
theorem dX5_init_42 : decode cX5_init 42 = .ok (.iconst 0, 1) := by decide +kernel
theorem dX5_init_43 : decode cX5_init 43 = .ok (.putfield 28, 3) := by decide +kernel
theorem dX5_init_46 : decode cX5_init 46 = .ok (.aload_n 0, 1) := by decide +kernel
theorem dX5_init_47 : decode cX5_init 47 = .ok (.iconst 0, 1) := by decide +kernel
theorem dX5_init_48 : decode cX5_init 48 = .ok (.putfield 31, 3) := by decide +kernel
theorem dX5_init_51 : decode cX5_init 51 = .ok (.aload_n 0, 1) := by decide +kernel
theorem dX5_init_52 : decode cX5_init 52 = .ok (.sipush 1023, 3) := by decide +kernel
theorem dX5_init_55 : decode cX5_init 55 = .ok (.putfield 34, 3) := by decide +kernel
theorem dX5_init_58 : decode cX5_init 58 = .ok (.aload_n 0, 1) := by decide +kernel
theorem dX5_init_59 : decode cX5_init 59 = .ok (.iconst 0, 1) := by decide +kernel
theorem dX5_init_60 : decode cX5_init 60 = .ok (.putfield 37, 3) := by decide +kernel
theorem dX5_init_63 : decode cX5_init 63 = .ok (.return_, 1) := by decide +kernel
theorem dX5_dig_0 : decode cX5_dig 0 = .ok (.aload_n 0, 1) := by decide +kernel
theorem dX5_dig_1 : decode cX5_dig 1 = .ok (.getfield 9, 3) := by decide +kernel
theorem dX5_dig_4 : decode cX5_dig 4 = .ok (.aload_n 0, 1) := by decide +kernel
theorem dX5_dig_5 : decode cX5_dig 5 = .ok (.getfield 24, 3) := by decide +kernel
theorem dX5_dig_8 : decode cX5_dig 8 = .ok (.iload_n 1, 1) := by decide +kernel
theorem dX5_dig_9 : decode cX5_dig 9 = .ok (.iastore, 1) := by decide +kernel
theorem dX5_dig_10 : decode cX5_dig 10 = .ok (.aload_n 0, 1) := by decide +kernel
theorem dX5_dig_11 : decode cX5_dig 11 = .ok (.getfield 15, 3) := by decide +kernel
theorem dX5_dig_14 : decode cX5_dig 14 = .ok (.aload_n 0, 1) := by decide +kernel
theorem dX5_dig_15 : decode cX5_dig 15 = .ok (.getfield 24, 3) := by decide +kernel
theorem dX5_dig_18 : decode cX5_dig 18 = .ok (.iload_n 2, 1) := by decide +kernel
theorem dX5_dig_19 : decode cX5_dig 19 = .ok (.iastore, 1) := by decide +kernel
theorem dX5_dig_20 : decode cX5_dig 20 = .ok (.aload_n 0, 1) := by decide +kernel
theorem dX5_dig_21 : decode cX5_dig 21 = .ok (.dup, 1) := by decide +kernel
theorem dX5_dig_22 : decode cX5_dig 22 = .ok (.getfield 24, 3) := by decide +kernel
theorem dX5_dig_25 : decode cX5_dig 25 = .ok (.iconst 1, 1) := by decide +kernel
theorem dX5_dig_26 : decode cX5_dig 26 = .ok (.iadd, 1) := by decide +kernel
theorem dX5_dig_27 : decode cX5_dig 27 = .ok (.putfield 24, 3) := by decide +kernel
theorem dX5_dig_30 : decode cX5_dig 30 = .ok (.aload_n 0, 1) := by decide +kernel
theorem dX5_dig_31 : decode cX5_dig 31 = .ok (.getfield 24, 3) := by decide +kernel
theorem dX5_dig_34 : decode cX5_dig 34 = .ok (.iconst 1, 1) := by decide +kernel
theorem dX5_dig_35 : decode cX5_dig 35 = .ok (.isub, 1) := by decide +kernel
theorem dX5_dig_36 : decode cX5_dig 36 = .ok (.ireturn, 1) := by decide +kernel
theorem dX5_reweigh_0 : decode cX5_reweigh 0 = .ok (.aload_n 0, 1) := by decide +kernel
theorem dX5_reweigh_1 : decode cX5_reweigh 1 = .ok (.iconst 1, 1) := by decide +kernel
theorem dX5_reweigh_2 : decode cX5_reweigh 2 = .ok (.iload_n 1, 1) := by decide +kernel
theorem dX5_reweigh_3 : decode cX5_reweigh 3 = .ok (.ishl, 1) := by decide +kernel
theorem dX5_reweigh_4 : decode cX5_reweigh 4 = .ok (.invokevirtual 40, 3) := by decide +kernel
theorem dX5_reweigh_7 : decode cX5_reweigh 7 = .ok (.istore_n 3, 1) := by decide +kernel
theorem dX5_reweigh_8 : decode cX5_reweigh 8 = .ok (.aload_n 0, 1) := by decide +kernel
theorem dX5_reweigh_9 : decode cX5_reweigh 9 = .ok (.aload_n 0, 1) := by decide +kernel
theorem dX5_reweigh_10 : decode cX5_reweigh 10 = .ok (.getfield 34, 3) := by decide +kernel
theorem dX5_reweigh_13 : decode cX5_reweigh 13 = .ok (.iconst 1, 1) := by decide +kernel
theorem dX5_reweigh_14 : decode cX5_reweigh 14 = .ok (.iload_n 1, 1) := by decide +kernel
theorem dX5_reweigh_15 : decode cX5_reweigh 15 = .ok (.ishl, 1) := by decide +kernel
theorem dX5_reweigh_16 : decode cX5_reweigh 16 = .ok (.iconst (-1), 1) := by decide +kernel
theorem dX5_reweigh_17 : decode cX5_reweigh 17 = .ok (.ixor, 1) := by decide +kernel
theorem dX5_reweigh_18 : decode cX5_reweigh 18 = .ok (.iand, 1) := by decide +kernel
theorem dX5_reweigh_19 : decode cX5_reweigh 19 = .ok (.iload_n 2, 1) := by decide +kernel
theorem dX5_reweigh_20 : decode cX5_reweigh 20 = .ok (.iconst 1, 1) := by decide +kernel
theorem dX5_reweigh_21 : decode cX5_reweigh 21 = .ok (.iand, 1) := by decide +kernel
theorem dX5_reweigh_22 : decode cX5_reweigh 22 = .ok (.iload_n 1, 1) := by decide +kernel
theorem dX5_reweigh_23 : decode cX5_reweigh 23 = .ok (.ishl, 1) := by decide +kernel
theorem dX5_reweigh_24 : decode cX5_reweigh 24 = .ok (.ior, 1) := by decide +kernel
theorem dX5_reweigh_25 : decode cX5_reweigh 25 = .ok (.putfield 34, 3) := by decide +kernel
theorem dX5_reweigh_28 : decode cX5_reweigh 28 = .ok (.aload_n 0, 1) := by decide +kernel
theorem dX5_reweigh_29 : decode cX5_reweigh 29 = .ok (.aload_n 0, 1) := by decide +kernel
theorem dX5_reweigh_30 : decode cX5_reweigh 30 = .ok (.getfield 37, 3) := by decide +kernel
theorem dX5_reweigh_33 : decode cX5_reweigh 33 = .ok (.iconst 1, 1) := by decide +kernel
theorem dX5_reweigh_34 : decode cX5_reweigh 34 = .ok (.iload_n 1, 1) := by decide +kernel
theorem dX5_reweigh_35 : decode cX5_reweigh 35 = .ok (.ishl, 1) := by decide +kernel
theorem dX5_reweigh_36 : decode cX5_reweigh 36 = .ok (.iconst (-1), 1) := by decide +kernel
theorem dX5_reweigh_37 : decode cX5_reweigh 37 = .ok (.ixor, 1) := by decide +kernel
theorem dX5_reweigh_38 : decode cX5_reweigh 38 = .ok (.iand, 1) := by decide +kernel
theorem dX5_reweigh_39 : decode cX5_reweigh 39 = .ok (.iload_n 2, 1) := by decide +kernel
theorem dX5_reweigh_40 : decode cX5_reweigh 40 = .ok (.iconst 1, 1) := by decide +kernel
theorem dX5_reweigh_41 : decode cX5_reweigh 41 = .ok (.ishr, 1) := by decide +kernel
theorem dX5_reweigh_42 : decode cX5_reweigh 42 = .ok (.iload_n 1, 1) := by decide +kernel
theorem dX5_reweigh_43 : decode cX5_reweigh 43 = .ok (.ishl, 1) := by decide +kernel
theorem dX5_reweigh_44 : decode cX5_reweigh 44 = .ok (.ior, 1) := by decide +kernel
theorem dX5_reweigh_45 : decode cX5_reweigh 45 = .ok (.putfield 37, 3) := by decide +kernel
theorem dX5_reweigh_48 : decode cX5_reweigh 48 = .ok (.iload_n 3, 1) := by decide +kernel
theorem dX5_reweigh_49 : decode cX5_reweigh 49 = .ok (.ireturn, 1) := by decide +kernel
theorem dX5_weigh_0 : decode cX5_weigh 0 = .ok (.iload_n 1, 1) := by decide +kernel
theorem dX5_weigh_1 : decode cX5_weigh 1 = .ok (.aload_n 0, 1) := by decide +kernel
theorem dX5_weigh_2 : decode cX5_weigh 2 = .ok (.getfield 34, 3) := by decide +kernel
theorem dX5_weigh_5 : decode cX5_weigh 5 = .ok (.iand, 1) := by decide +kernel
theorem dX5_weigh_6 : decode cX5_weigh 6 = .ok (.invokestatic 44, 3) := by decide +kernel
theorem dX5_weigh_9 : decode cX5_weigh 9 = .ok (.iconst 2, 1) := by decide +kernel
theorem dX5_weigh_10 : decode cX5_weigh 10 = .ok (.iload_n 1, 1) := by decide +kernel
theorem dX5_weigh_11 : decode cX5_weigh 11 = .ok (.aload_n 0, 1) := by decide +kernel
theorem dX5_weigh_12 : decode cX5_weigh 12 = .ok (.getfield 37, 3) := by decide +kernel
theorem dX5_weigh_15 : decode cX5_weigh 15 = .ok (.iand, 1) := by decide +kernel
theorem dX5_weigh_16 : decode cX5_weigh 16 = .ok (.invokestatic 44, 3) := by decide +kernel
theorem dX5_weigh_19 : decode cX5_weigh 19 = .ok (.imul, 1) := by decide +kernel
theorem dX5_weigh_20 : decode cX5_weigh 20 = .ok (.iadd, 1) := by decide +kernel
theorem dX5_weigh_21 : decode cX5_weigh 21 = .ok (.ireturn, 1) := by decide +kernel
theorem dX5_kindsOfAll_0 : decode cX5_kindsOfAll 0 = .ok (.iconst 0, 1) := by decide +kernel
theorem dX5_kindsOfAll_1 : decode cX5_kindsOfAll 1 = .ok (.istore_n 1, 1) := by decide +kernel
theorem dX5_kindsOfAll_2 : decode cX5_kindsOfAll 2 = .ok (.iconst 0, 1) := by decide +kernel
theorem dX5_kindsOfAll_3 : decode cX5_kindsOfAll 3 = .ok (.istore_n 2, 1) := by decide +kernel
theorem dX5_kindsOfAll_4 : decode cX5_kindsOfAll 4 = .ok (.iload_n 2, 1) := by decide +kernel
theorem dX5_kindsOfAll_5 : decode cX5_kindsOfAll 5 = .ok (.aload_n 0, 1) := by decide +kernel
theorem dX5_kindsOfAll_6 : decode cX5_kindsOfAll 6 = .ok (.getfield 24, 3) := by decide +kernel
theorem dX5_kindsOfAll_9 : decode cX5_kindsOfAll 9 = .ok (.if_icmp .ge 18, 3) := by decide +kernel
theorem dX5_kindsOfAll_12 : decode cX5_kindsOfAll 12 = .ok (.iload_n 1, 1) := by decide +kernel
theorem dX5_kindsOfAll_13 : decode cX5_kindsOfAll 13 = .ok (.aload_n 0, 1) := by decide +kernel
theorem dX5_kindsOfAll_14 : decode cX5_kindsOfAll 14 = .ok (.getfield 21, 3) := by decide +kernel
theorem dX5_kindsOfAll_17 : decode cX5_kindsOfAll 17 = .ok (.iload_n 2, 1) := by decide +kernel
theorem dX5_kindsOfAll_18 : decode cX5_kindsOfAll 18 = .ok (.iaload, 1) := by decide +kernel
theorem dX5_kindsOfAll_19 : decode cX5_kindsOfAll 19 = .ok (.ior, 1) := by decide +kernel
theorem dX5_kindsOfAll_20 : decode cX5_kindsOfAll 20 = .ok (.istore_n 1, 1) := by decide +kernel
theorem dX5_kindsOfAll_21 : decode cX5_kindsOfAll 21 = .ok (.iinc 2 1, 3) := by decide +kernel
theorem dX5_kindsOfAll_24 : decode cX5_kindsOfAll 24 = .ok (.goto (-20), 3) := by decide +kernel
theorem dX5_kindsOfAll_27 : decode cX5_kindsOfAll 27 = .ok (.iload_n 1, 1) := by decide +kernel
theorem dX5_kindsOfAll_28 : decode cX5_kindsOfAll 28 = .ok (.ireturn, 1) := by decide +kernel
theorem dX5_allFinds_0 : decode cX5_allFinds 0 = .ok (.iconst 0, 1) := by decide +kernel
theorem dX5_allFinds_1 : decode cX5_allFinds 1 = .ok (.istore_n 1, 1) := by decide +kernel
theorem dX5_allFinds_2 : decode cX5_allFinds 2 = .ok (.iconst 0, 1) := by decide +kernel
theorem dX5_allFinds_3 : decode cX5_allFinds 3 = .ok (.istore_n 2, 1) := by decide +kernel
theorem dX5_allFinds_4 : decode cX5_allFinds 4 = .ok (.iload_n 2, 1) := by decide +kernel
theorem dX5_allFinds_5 : decode cX5_allFinds 5 = .ok (.aload_n 0, 1) := by decide +kernel
theorem dX5_allFinds_6 : decode cX5_allFinds 6 = .ok (.getfield 24, 3) := by decide +kernel
theorem dX5_allFinds_9 : decode cX5_allFinds 9 = .ok (.if_icmp .ge 21, 3) := by decide +kernel
theorem dX5_allFinds_12 : decode cX5_allFinds 12 = .ok (.iload_n 1, 1) := by decide +kernel
theorem dX5_allFinds_13 : decode cX5_allFinds 13 = .ok (.aload_n 0, 1) := by decide +kernel
theorem dX5_allFinds_14 : decode cX5_allFinds 14 = .ok (.getfield 21, 3) := by decide +kernel
theorem dX5_allFinds_17 : decode cX5_allFinds 17 = .ok (.iload_n 2, 1) := by decide +kernel
theorem dX5_allFinds_18 : decode cX5_allFinds 18 = .ok (.iaload, 1) := by decide +kernel
theorem dX5_allFinds_19 : decode cX5_allFinds 19 = .ok (.invokestatic 44, 3) := by decide +kernel
theorem dX5_allFinds_22 : decode cX5_allFinds 22 = .ok (.iadd, 1) := by decide +kernel
theorem dX5_allFinds_23 : decode cX5_allFinds 23 = .ok (.istore_n 1, 1) := by decide +kernel
theorem dX5_allFinds_24 : decode cX5_allFinds 24 = .ok (.iinc 2 1, 3) := by decide +kernel
theorem dX5_allFinds_27 : decode cX5_allFinds 27 = .ok (.goto (-23), 3) := by decide +kernel
theorem dX5_allFinds_30 : decode cX5_allFinds 30 = .ok (.iload_n 1, 1) := by decide +kernel
theorem dX5_allFinds_31 : decode cX5_allFinds 31 = .ok (.ireturn, 1) := by decide +kernel
theorem dX5_isOrder_0 : decode cX5_isOrder 0 = .ok (.iload_n 2, 1) := by decide +kernel
theorem dX5_isOrder_1 : decode cX5_isOrder 1 = .ok (.aload_n 0, 1) := by decide +kernel
theorem dX5_isOrder_2 : decode cX5_isOrder 2 = .ok (.getfield 24, 3) := by decide +kernel
theorem dX5_isOrder_5 : decode cX5_isOrder 5 = .ok (.if_icmp .eq 5, 3) := by decide +kernel
theorem dX5_isOrder_8 : decode cX5_isOrder 8 = .ok (.iconst 0, 1) := by decide +kernel
theorem dX5_isOrder_9 : decode cX5_isOrder 9 = .ok (.ireturn, 1) := by decide +kernel
theorem dX5_isOrder_10 : decode cX5_isOrder 10 = .ok (.iconst 0, 1) := by decide +kernel
theorem dX5_isOrder_11 : decode cX5_isOrder 11 = .ok (.istore_n 3, 1) := by decide +kernel
theorem dX5_isOrder_12 : decode cX5_isOrder 12 = .ok (.iconst 0, 1) := by decide +kernel
theorem dX5_isOrder_13 : decode cX5_isOrder 13 = .ok (.istore 4, 2) := by decide +kernel
theorem dX5_isOrder_15 : decode cX5_isOrder 15 = .ok (.iload 4, 2) := by decide +kernel
theorem dX5_isOrder_17 : decode cX5_isOrder 17 = .ok (.aload_n 0, 1) := by decide +kernel
theorem dX5_isOrder_18 : decode cX5_isOrder 18 = .ok (.getfield 24, 3) := by decide +kernel
theorem dX5_isOrder_21 : decode cX5_isOrder 21 = .ok (.if_icmp .ge 47, 3) := by decide +kernel
theorem dX5_isOrder_24 : decode cX5_isOrder 24 = .ok (.aload_n 1, 1) := by decide +kernel
theorem dX5_isOrder_25 : decode cX5_isOrder 25 = .ok (.iload 4, 2) := by decide +kernel
theorem dX5_isOrder_27 : decode cX5_isOrder 27 = .ok (.iaload, 1) := by decide +kernel
theorem dX5_isOrder_28 : decode cX5_isOrder 28 = .ok (.istore 5, 2) := by decide +kernel
theorem dX5_isOrder_30 : decode cX5_isOrder 30 = .ok (.iload 5, 2) := by decide +kernel
theorem dX5_isOrder_32 : decode cX5_isOrder 32 = .ok (.ifCond .lt 21, 3) := by decide +kernel
theorem dX5_isOrder_35 : decode cX5_isOrder 35 = .ok (.iload 5, 2) := by decide +kernel
theorem dX5_isOrder_37 : decode cX5_isOrder 37 = .ok (.aload_n 0, 1) := by decide +kernel
theorem dX5_isOrder_38 : decode cX5_isOrder 38 = .ok (.getfield 24, 3) := by decide +kernel
theorem dX5_isOrder_41 : decode cX5_isOrder 41 = .ok (.if_icmp .ge 12, 3) := by decide +kernel
theorem dX5_isOrder_44 : decode cX5_isOrder 44 = .ok (.iload_n 3, 1) := by decide +kernel
theorem dX5_isOrder_45 : decode cX5_isOrder 45 = .ok (.iload 5, 2) := by decide +kernel
theorem dX5_isOrder_47 : decode cX5_isOrder 47 = .ok (.ishr, 1) := by decide +kernel
theorem dX5_isOrder_48 : decode cX5_isOrder 48 = .ok (.iconst 1, 1) := by decide +kernel
theorem dX5_isOrder_49 : decode cX5_isOrder 49 = .ok (.iand, 1) := by decide +kernel
theorem dX5_isOrder_50 : decode cX5_isOrder 50 = .ok (.ifCond .eq 5, 3) := by decide +kernel
theorem dX5_isOrder_53 : decode cX5_isOrder 53 = .ok (.iconst 0, 1) := by decide +kernel
theorem dX5_isOrder_54 : decode cX5_isOrder 54 = .ok (.ireturn, 1) := by decide +kernel
theorem dX5_isOrder_55 : decode cX5_isOrder 55 = .ok (.iload_n 3, 1) := by decide +kernel
theorem dX5_isOrder_56 : decode cX5_isOrder 56 = .ok (.iconst 1, 1) := by decide +kernel
theorem dX5_isOrder_57 : decode cX5_isOrder 57 = .ok (.iload 5, 2) := by decide +kernel
theorem dX5_isOrder_59 : decode cX5_isOrder 59 = .ok (.ishl, 1) := by decide +kernel
theorem dX5_isOrder_60 : decode cX5_isOrder 60 = .ok (.ior, 1) := by decide +kernel
theorem dX5_isOrder_61 : decode cX5_isOrder 61 = .ok (.istore_n 3, 1) := by decide +kernel
theorem dX5_isOrder_62 : decode cX5_isOrder 62 = .ok (.iinc 4 1, 3) := by decide +kernel
theorem dX5_isOrder_65 : decode cX5_isOrder 65 = .ok (.goto (-50), 3) := by decide +kernel
theorem dX5_isOrder_68 : decode cX5_isOrder 68 = .ok (.iconst 1, 1) := by decide +kernel
theorem dX5_isOrder_69 : decode cX5_isOrder 69 = .ok (.ireturn, 1) := by decide +kernel
theorem dX5_canBe_0 : decode cX5_canBe 0 = .ok (.iconst 0, 1) := by decide +kernel
theorem dX5_canBe_1 : decode cX5_canBe 1 = .ok (.istore_n 2, 1) := by decide +kernel
theorem dX5_canBe_2 : decode cX5_canBe 2 = .ok (.iconst 0, 1) := by decide +kernel
theorem dX5_canBe_3 : decode cX5_canBe 3 = .ok (.istore_n 3, 1) := by decide +kernel
theorem dX5_canBe_4 : decode cX5_canBe 4 = .ok (.iconst 0, 1) := by decide +kernel
theorem dX5_canBe_5 : decode cX5_canBe 5 = .ok (.istore 4, 2) := by decide +kernel
theorem dX5_canBe_7 : decode cX5_canBe 7 = .ok (.iload 4, 2) := by decide +kernel
theorem dX5_canBe_9 : decode cX5_canBe 9 = .ok (.aload_n 0, 1) := by decide +kernel
theorem dX5_canBe_10 : decode cX5_canBe 10 = .ok (.getfield 24, 3) := by decide +kernel
theorem dX5_canBe_13 : decode cX5_canBe 13 = .ok (.if_icmp .ge 61, 3) := by decide +kernel
theorem dX5_canBe_16 : decode cX5_canBe 16 = .ok (.aload_n 1, 1) := by decide +kernel
theorem dX5_canBe_17 : decode cX5_canBe 17 = .ok (.iload 4, 2) := by decide +kernel
theorem dX5_canBe_19 : decode cX5_canBe 19 = .ok (.iaload, 1) := by decide +kernel
theorem dX5_canBe_20 : decode cX5_canBe 20 = .ok (.istore 5, 2) := by decide +kernel
theorem dX5_canBe_22 : decode cX5_canBe 22 = .ok (.iload_n 3, 1) := by decide +kernel
theorem dX5_canBe_23 : decode cX5_canBe 23 = .ok (.aload_n 0, 1) := by decide +kernel
theorem dX5_canBe_24 : decode cX5_canBe 24 = .ok (.getfield 9, 3) := by decide +kernel
theorem dX5_canBe_27 : decode cX5_canBe 27 = .ok (.iload 5, 2) := by decide +kernel
theorem dX5_canBe_29 : decode cX5_canBe 29 = .ok (.iaload, 1) := by decide +kernel
theorem dX5_canBe_30 : decode cX5_canBe 30 = .ok (.invokestatic 49, 3) := by decide +kernel
theorem dX5_canBe_33 : decode cX5_canBe 33 = .ok (.istore_n 3, 1) := by decide +kernel
theorem dX5_canBe_34 : decode cX5_canBe 34 = .ok (.iload_n 3, 1) := by decide +kernel
theorem dX5_canBe_35 : decode cX5_canBe 35 = .ok (.aload_n 0, 1) := by decide +kernel
theorem dX5_canBe_36 : decode cX5_canBe 36 = .ok (.getfield 15, 3) := by decide +kernel
theorem dX5_canBe_39 : decode cX5_canBe 39 = .ok (.iload 5, 2) := by decide +kernel
theorem dX5_canBe_41 : decode cX5_canBe 41 = .ok (.iaload, 1) := by decide +kernel
theorem dX5_canBe_42 : decode cX5_canBe 42 = .ok (.if_icmp .gt 17, 3) := by decide +kernel
theorem dX5_canBe_45 : decode cX5_canBe 45 = .ok (.aload_n 0, 1) := by decide +kernel
theorem dX5_canBe_46 : decode cX5_canBe 46 = .ok (.getfield 18, 3) := by decide +kernel
theorem dX5_canBe_49 : decode cX5_canBe 49 = .ok (.iload 5, 2) := by decide +kernel
theorem dX5_canBe_51 : decode cX5_canBe 51 = .ok (.iaload, 1) := by decide +kernel
theorem dX5_canBe_52 : decode cX5_canBe 52 = .ok (.iload_n 2, 1) := by decide +kernel
theorem dX5_canBe_53 : decode cX5_canBe 53 = .ok (.iconst (-1), 1) := by decide +kernel
theorem dX5_canBe_54 : decode cX5_canBe 54 = .ok (.ixor, 1) := by decide +kernel
theorem dX5_canBe_55 : decode cX5_canBe 55 = .ok (.iand, 1) := by decide +kernel
theorem dX5_canBe_56 : decode cX5_canBe 56 = .ok (.ifCond .eq 5, 3) := by decide +kernel
theorem dX5_canBe_59 : decode cX5_canBe 59 = .ok (.iconst 0, 1) := by decide +kernel
theorem dX5_canBe_60 : decode cX5_canBe 60 = .ok (.ireturn, 1) := by decide +kernel
theorem dX5_canBe_61 : decode cX5_canBe 61 = .ok (.iload_n 2, 1) := by decide +kernel
theorem dX5_canBe_62 : decode cX5_canBe 62 = .ok (.iconst 1, 1) := by decide +kernel
theorem dX5_canBe_63 : decode cX5_canBe 63 = .ok (.iload 5, 2) := by decide +kernel
theorem dX5_canBe_65 : decode cX5_canBe 65 = .ok (.ishl, 1) := by decide +kernel
theorem dX5_canBe_66 : decode cX5_canBe 66 = .ok (.ior, 1) := by decide +kernel
theorem dX5_canBe_67 : decode cX5_canBe 67 = .ok (.istore_n 2, 1) := by decide +kernel
theorem dX5_canBe_68 : decode cX5_canBe 68 = .ok (.iinc 4 1, 3) := by decide +kernel
theorem dX5_canBe_71 : decode cX5_canBe 71 = .ok (.goto (-64), 3) := by decide +kernel
theorem dX5_canBe_74 : decode cX5_canBe 74 = .ok (.iconst 1, 1) := by decide +kernel
theorem dX5_canBe_75 : decode cX5_canBe 75 = .ok (.ireturn, 1) := by decide +kernel
theorem dX5_weightOfBoth_0 : decode cX5_weightOfBoth 0 = .ok (.aload_n 0, 1) := by decide +kernel
theorem dX5_weightOfBoth_1 : decode cX5_weightOfBoth 1 = .ok (.aload_n 0, 1) := by decide +kernel
theorem dX5_weightOfBoth_2 : decode cX5_weightOfBoth 2 = .ok (.getfield 21, 3) := by decide +kernel
theorem dX5_weightOfBoth_5 : decode cX5_weightOfBoth 5 = .ok (.iload_n 1, 1) := by decide +kernel
theorem dX5_weightOfBoth_6 : decode cX5_weightOfBoth 6 = .ok (.iaload, 1) := by decide +kernel
theorem dX5_weightOfBoth_7 : decode cX5_weightOfBoth 7 = .ok (.aload_n 0, 1) := by decide +kernel
theorem dX5_weightOfBoth_8 : decode cX5_weightOfBoth 8 = .ok (.getfield 21, 3) := by decide +kernel
theorem dX5_weightOfBoth_11 : decode cX5_weightOfBoth 11 = .ok (.iload_n 2, 1) := by decide +kernel
theorem dX5_weightOfBoth_12 : decode cX5_weightOfBoth 12 = .ok (.iaload, 1) := by decide +kernel
theorem dX5_weightOfBoth_13 : decode cX5_weightOfBoth 13 = .ok (.iand, 1) := by decide +kernel
theorem dX5_weightOfBoth_14 : decode cX5_weightOfBoth 14 = .ok (.invokevirtual 40, 3) := by decide +kernel
theorem dX5_weightOfBoth_17 : decode cX5_weightOfBoth 17 = .ok (.ireturn, 1) := by decide +kernel
theorem dX5_weightOfEither_0 : decode cX5_weightOfEither 0 = .ok (.aload_n 0, 1) := by decide +kernel
theorem dX5_weightOfEither_1 : decode cX5_weightOfEither 1 = .ok (.aload_n 0, 1) := by decide +kernel
theorem dX5_weightOfEither_2 : decode cX5_weightOfEither 2 = .ok (.getfield 21, 3) := by decide +kernel
theorem dX5_weightOfEither_5 : decode cX5_weightOfEither 5 = .ok (.iload_n 1, 1) := by decide +kernel
theorem dX5_weightOfEither_6 : decode cX5_weightOfEither 6 = .ok (.iaload, 1) := by decide +kernel
theorem dX5_weightOfEither_7 : decode cX5_weightOfEither 7 = .ok (.aload_n 0, 1) := by decide +kernel
theorem dX5_weightOfEither_8 : decode cX5_weightOfEither 8 = .ok (.getfield 21, 3) := by decide +kernel
theorem dX5_weightOfEither_11 : decode cX5_weightOfEither 11 = .ok (.iload_n 2, 1) := by decide +kernel
theorem dX5_weightOfEither_12 : decode cX5_weightOfEither 12 = .ok (.iaload, 1) := by decide +kernel
theorem dX5_weightOfEither_13 : decode cX5_weightOfEither 13 = .ok (.ior, 1) := by decide +kernel
theorem dX5_weightOfEither_14 : decode cX5_weightOfEither 14 = .ok (.invokevirtual 40, 3) := by decide +kernel
theorem dX5_weightOfEither_17 : decode cX5_weightOfEither 17 = .ok (.ireturn, 1) := by decide +kernel
theorem dX5_mostAlike_0 : decode cX5_mostAlike 0 = .ok (.iconst (-1), 1) := by decide +kernel
theorem dX5_mostAlike_1 : decode cX5_mostAlike 1 = .ok (.istore_n 2, 1) := by decide +kernel
theorem dX5_mostAlike_2 : decode cX5_mostAlike 2 = .ok (.iconst 0, 1) := by decide +kernel
theorem dX5_mostAlike_3 : decode cX5_mostAlike 3 = .ok (.istore_n 3, 1) := by decide +kernel
theorem dX5_mostAlike_4 : decode cX5_mostAlike 4 = .ok (.iconst 1, 1) := by decide +kernel
theorem dX5_mostAlike_5 : decode cX5_mostAlike 5 = .ok (.istore 4, 2) := by decide +kernel
theorem dX5_mostAlike_7 : decode cX5_mostAlike 7 = .ok (.iconst 0, 1) := by decide +kernel
theorem dX5_mostAlike_8 : decode cX5_mostAlike 8 = .ok (.istore 5, 2) := by decide +kernel
theorem dX5_mostAlike_10 : decode cX5_mostAlike 10 = .ok (.iload 5, 2) := by decide +kernel
theorem dX5_mostAlike_12 : decode cX5_mostAlike 12 = .ok (.aload_n 0, 1) := by decide +kernel
theorem dX5_mostAlike_13 : decode cX5_mostAlike 13 = .ok (.getfield 24, 3) := by decide +kernel
theorem dX5_mostAlike_16 : decode cX5_mostAlike 16 = .ok (.if_icmp .ge 68, 3) := by decide +kernel
theorem dX5_mostAlike_19 : decode cX5_mostAlike 19 = .ok (.aload_n 0, 1) := by decide +kernel
theorem dX5_mostAlike_20 : decode cX5_mostAlike 20 = .ok (.iload_n 1, 1) := by decide +kernel
theorem dX5_mostAlike_21 : decode cX5_mostAlike 21 = .ok (.iload 5, 2) := by decide +kernel
theorem dX5_mostAlike_23 : decode cX5_mostAlike 23 = .ok (.invokevirtual 55, 3) := by decide +kernel
theorem dX5_mostAlike_26 : decode cX5_mostAlike 26 = .ok (.istore 6, 2) := by decide +kernel
theorem dX5_mostAlike_28 : decode cX5_mostAlike 28 = .ok (.iload 5, 2) := by decide +kernel
theorem dX5_mostAlike_30 : decode cX5_mostAlike 30 = .ok (.iload_n 1, 1) := by decide +kernel
theorem dX5_mostAlike_31 : decode cX5_mostAlike 31 = .ok (.if_icmp .eq 47, 3) := by decide +kernel
theorem dX5_mostAlike_34 : decode cX5_mostAlike 34 = .ok (.iload 6, 2) := by decide +kernel
theorem dX5_mostAlike_36 : decode cX5_mostAlike 36 = .ok (.ifCond .ne 6, 3) := by decide +kernel
theorem dX5_mostAlike_39 : decode cX5_mostAlike 39 = .ok (.goto 39, 3) := by decide +kernel
theorem dX5_mostAlike_42 : decode cX5_mostAlike 42 = .ok (.aload_n 0, 1) := by decide +kernel
theorem dX5_mostAlike_43 : decode cX5_mostAlike 43 = .ok (.iload_n 1, 1) := by decide +kernel
theorem dX5_mostAlike_44 : decode cX5_mostAlike 44 = .ok (.iload 5, 2) := by decide +kernel
theorem dX5_mostAlike_46 : decode cX5_mostAlike 46 = .ok (.invokevirtual 58, 3) := by decide +kernel
theorem dX5_mostAlike_49 : decode cX5_mostAlike 49 = .ok (.istore 7, 2) := by decide +kernel
theorem dX5_mostAlike_51 : decode cX5_mostAlike 51 = .ok (.iload_n 2, 1) := by decide +kernel
theorem dX5_mostAlike_52 : decode cX5_mostAlike 52 = .ok (.iconst (-1), 1) := by decide +kernel
theorem dX5_mostAlike_53 : decode cX5_mostAlike 53 = .ok (.if_icmp .eq 15, 3) := by decide +kernel
theorem dX5_mostAlike_56 : decode cX5_mostAlike 56 = .ok (.iload 7, 2) := by decide +kernel
theorem dX5_mostAlike_58 : decode cX5_mostAlike 58 = .ok (.iload 4, 2) := by decide +kernel
theorem dX5_mostAlike_60 : decode cX5_mostAlike 60 = .ok (.imul, 1) := by decide +kernel
theorem dX5_mostAlike_61 : decode cX5_mostAlike 61 = .ok (.iload_n 3, 1) := by decide +kernel
theorem dX5_mostAlike_62 : decode cX5_mostAlike 62 = .ok (.iload 6, 2) := by decide +kernel
theorem dX5_mostAlike_64 : decode cX5_mostAlike 64 = .ok (.imul, 1) := by decide +kernel
theorem dX5_mostAlike_65 : decode cX5_mostAlike 65 = .ok (.if_icmp .le 13, 3) := by decide +kernel
theorem dX5_mostAlike_68 : decode cX5_mostAlike 68 = .ok (.iload 5, 2) := by decide +kernel
theorem dX5_mostAlike_70 : decode cX5_mostAlike 70 = .ok (.istore_n 2, 1) := by decide +kernel
theorem dX5_mostAlike_71 : decode cX5_mostAlike 71 = .ok (.iload 7, 2) := by decide +kernel
theorem dX5_mostAlike_73 : decode cX5_mostAlike 73 = .ok (.istore_n 3, 1) := by decide +kernel
theorem dX5_mostAlike_74 : decode cX5_mostAlike 74 = .ok (.iload 6, 2) := by decide +kernel
theorem dX5_mostAlike_76 : decode cX5_mostAlike 76 = .ok (.istore 4, 2) := by decide +kernel
theorem dX5_mostAlike_78 : decode cX5_mostAlike 78 = .ok (.iinc 5 1, 3) := by decide +kernel
theorem dX5_mostAlike_81 : decode cX5_mostAlike 81 = .ok (.goto (-71), 3) := by decide +kernel
theorem dX5_mostAlike_84 : decode cX5_mostAlike 84 = .ok (.iload_n 2, 1) := by decide +kernel
theorem dX5_mostAlike_85 : decode cX5_mostAlike 85 = .ok (.ireturn, 1) := by decide +kernel
theorem dX6_init_0 : decode cX6_init 0 = .ok (.aload_n 0, 1) := by decide +kernel
theorem dX6_init_1 : decode cX6_init 1 = .ok (.invokespecial 3, 3) := by decide +kernel
theorem dX6_init_4 : decode cX6_init 4 = .ok (.aload_n 0, 1) := by decide +kernel
theorem dX6_init_5 : decode cX6_init 5 = .ok (.new 9, 3) := by decide +kernel
theorem dX6_init_8 : decode cX6_init 8 = .ok (.dup, 1) := by decide +kernel
theorem dX6_init_9 : decode cX6_init 9 = .ok (.invokespecial 11, 3) := by decide +kernel
theorem dX6_init_12 : decode cX6_init 12 = .ok (.putfield 12, 3) := by decide +kernel
theorem dX6_init_15 : decode cX6_init 15 = .ok (.aload_n 0, 1) := by decide +kernel
theorem dX6_init_16 : decode cX6_init 16 = .ok (.new 16, 3) := by decide +kernel
theorem dX6_init_19 : decode cX6_init 19 = .ok (.dup, 1) := by decide +kernel
theorem dX6_init_20 : decode cX6_init 20 = .ok (.invokespecial 18, 3) := by decide +kernel
theorem dX6_init_23 : decode cX6_init 23 = .ok (.putfield 19, 3) := by decide +kernel
theorem dX6_init_26 : decode cX6_init 26 = .ok (.aload_n 0, 1) := by decide +kernel
theorem dX6_init_27 : decode cX6_init 27 = .ok (.new 23, 3) := by decide +kernel
theorem dX6_init_30 : decode cX6_init 30 = .ok (.dup, 1) := by decide +kernel
theorem dX6_init_31 : decode cX6_init 31 = .ok (.invokespecial 25, 3) := by decide +kernel
theorem dX6_init_34 : decode cX6_init 34 = .ok (.putfield 26, 3) := by decide +kernel
theorem dX6_init_37 : decode cX6_init 37 = .ok (.aload_n 0, 1) := by decide +kernel
theorem dX6_init_38 : decode cX6_init 38 = .ok (.new 30, 3) := by decide +kernel
theorem dX6_init_41 : decode cX6_init 41 = .ok (.dup, 1) := by decide +kernel
theorem dX6_init_42 : decode cX6_init 42 = .ok (.aload_n 0, 1) := by decide +kernel
theorem dX6_init_43 : decode cX6_init 43 = .ok (.getfield 12, 3) := by decide +kernel
theorem dX6_init_46 : decode cX6_init 46 = .ok (.invokespecial 32, 3) := by decide +kernel
theorem dX6_init_49 : decode cX6_init 49 = .ok (.putfield 35, 3) := by decide +kernel
theorem dX6_init_52 : decode cX6_init 52 = .ok (.aload_n 0, 1) := by decide +kernel
theorem dX6_init_53 : decode cX6_init 53 = .ok (.new 39, 3) := by decide +kernel
theorem dX6_init_56 : decode cX6_init 56 = .ok (.dup, 1) := by decide +kernel
theorem dX6_init_57 : decode cX6_init 57 = .ok (.aload_n 0, 1) := by decide +kernel
theorem dX6_init_58 : decode cX6_init 58 = .ok (.getfield 12, 3) := by decide +kernel
theorem dX6_init_61 : decode cX6_init 61 = .ok (.aload_n 0, 1) := by decide +kernel
theorem dX6_init_62 : decode cX6_init 62 = .ok (.getfield 35, 3) := by decide +kernel
theorem dX6_init_65 : decode cX6_init 65 = .ok (.getfield 41, 3) := by decide +kernel
theorem dX6_init_68 : decode cX6_init 68 = .ok (.invokespecial 45, 3) := by decide +kernel
theorem dX6_init_71 : decode cX6_init 71 = .ok (.putfield 48, 3) := by decide +kernel
theorem dX6_init_74 : decode cX6_init 74 = .ok (.aload_n 0, 1) := by decide +kernel
theorem dX6_init_75 : decode cX6_init 75 = .ok (.iconst 4, 1) := by decide +kernel
theorem dX6_init_76 : decode cX6_init 76 = .ok (.anewarray 52, 3) := by decide +kernel
theorem dX6_init_79 : decode cX6_init 79 = .ok (.putfield 54, 3) := by decide +kernel
theorem dX6_init_82 : decode cX6_init 82 = .ok (.aload_n 0, 1) := by decide +kernel
theorem dX6_init_83 : decode cX6_init 83 = .ok (.sipush 999, 3) := by decide +kernel
theorem dX6_init_86 : decode cX6_init 86 = .ok (.putfield 58, 3) := by decide +kernel
theorem dX6_init_89 : decode cX6_init 89 = .ok (.aload_n 0, 1) := by decide +kernel
theorem dX6_init_90 : decode cX6_init 90 = .ok (.iconst 0, 1) := by decide +kernel
theorem dX6_init_91 : decode cX6_init 91 = .ok (.putfield 62, 3) := by decide +kernel
theorem dX6_init_94 : decode cX6_init 94 = .ok (.iconst 0, 1) := by decide +kernel
theorem dX6_init_95 : decode cX6_init 95 = .ok (.istore_n 1, 1) := by decide +kernel
theorem dX6_init_96 : decode cX6_init 96 = .ok (.iload_n 1, 1) := by decide +kernel
theorem dX6_init_97 : decode cX6_init 97 = .ok (.iconst 4, 1) := by decide +kernel
theorem dX6_init_98 : decode cX6_init 98 = .ok (.if_icmp .ge 22, 3) := by decide +kernel
theorem dX6_init_101 : decode cX6_init 101 = .ok (.aload_n 0, 1) := by decide +kernel
theorem dX6_init_102 : decode cX6_init 102 = .ok (.getfield 54, 3) := by decide +kernel
theorem dX6_init_105 : decode cX6_init 105 = .ok (.iload_n 1, 1) := by decide +kernel
theorem dX6_init_106 : decode cX6_init 106 = .ok (.new 52, 3) := by decide +kernel
theorem dX6_init_109 : decode cX6_init 109 = .ok (.dup, 1) := by decide +kernel
theorem dX6_init_110 : decode cX6_init 110 = .ok (.invokespecial 65, 3) := by decide +kernel
theorem dX6_init_113 : decode cX6_init 113 = .ok (.aastore, 1) := by decide +kernel
theorem dX6_init_114 : decode cX6_init 114 = .ok (.iinc 1 1, 3) := by decide +kernel
theorem dX6_init_117 : decode cX6_init 117 = .ok (.goto (-21), 3) := by decide +kernel
theorem dX6_init_120 : decode cX6_init 120 = .ok (.return_, 1) := by decide +kernel
theorem dX6_grave_0 : decode cX6_grave 0 = .ok (.iload_n 1, 1) := by decide +kernel
theorem dX6_grave_1 : decode cX6_grave 1 = .ok (.iconst 0, 1) := by decide +kernel
theorem dX6_grave_2 : decode cX6_grave 2 = .ok (.bipush 99, 2) := by decide +kernel
theorem dX6_grave_4 : decode cX6_grave 4 = .ok (.invokestatic 66, 3) := by decide +kernel
theorem dX6_grave_7 : decode cX6_grave 7 = .ok (.ifCond .eq 13, 3) := by decide +kernel
theorem dX6_grave_10 : decode cX6_grave 10 = .ok (.iload_n 2, 1) := by decide +kernel
theorem dX6_grave_11 : decode cX6_grave 11 = .ok (.iload_n 1, 1) := by decide +kernel
theorem dX6_grave_12 : decode cX6_grave 12 = .ok (.bipush 99, 2) := by decide +kernel
theorem dX6_grave_14 : decode cX6_grave 14 = .ok (.invokestatic 66, 3) := by decide +kernel
theorem dX6_grave_17 : decode cX6_grave 17 = .ok (.ifCond .ne 6, 3) := by decide +kernel
theorem dX6_grave_20 : decode cX6_grave 20 = .ok (.bipush (-2), 2) := by decide +kernel
theorem dX6_grave_22 : decode cX6_grave 22 = .ok (.ireturn, 1) := by decide +kernel
theorem dX6_grave_23 : decode cX6_grave 23 = .ok (.aload_n 0, 1) := by decide +kernel
theorem dX6_grave_24 : decode cX6_grave 24 = .ok (.getfield 12, 3) := by decide +kernel
theorem dX6_grave_27 : decode cX6_grave 27 = .ok (.getfield 70, 3) := by decide +kernel
theorem dX6_grave_30 : decode cX6_grave 30 = .ok (.bipush 8, 2) := by decide +kernel
theorem dX6_grave_32 : decode cX6_grave 32 = .ok (.if_icmp .lt 6, 3) := by decide +kernel
theorem dX6_grave_35 : decode cX6_grave 35 = .ok (.bipush (-4), 2) := by decide +kernel
theorem dX6_grave_37 : decode cX6_grave 37 = .ok (.ireturn, 1) := by decide +kernel
theorem dX6_grave_38 : decode cX6_grave 38 = .ok (.aload_n 0, 1) := by decide +kernel
theorem dX6_grave_39 : decode cX6_grave 39 = .ok (.getfield 35, 3) := by decide +kernel
theorem dX6_grave_42 : decode cX6_grave 42 = .ok (.iconst 1, 1) := by decide +kernel
theorem dX6_grave_43 : decode cX6_grave 43 = .ok (.putfield 73, 3) := by decide +kernel
theorem dX6_grave_46 : decode cX6_grave 46 = .ok (.aload_n 0, 1) := by decide +kernel
theorem dX6_grave_47 : decode cX6_grave 47 = .ok (.getfield 12, 3) := by decide +kernel
theorem dX6_grave_50 : decode cX6_grave 50 = .ok (.iload_n 1, 1) := by decide +kernel
theorem dX6_grave_51 : decode cX6_grave 51 = .ok (.iload_n 2, 1) := by decide +kernel
theorem dX6_grave_52 : decode cX6_grave 52 = .ok (.invokevirtual 77, 3) := by decide +kernel
theorem dX6_grave_55 : decode cX6_grave 55 = .ok (.ireturn, 1) := by decide +kernel
theorem dX6_robbed_0 : decode cX6_robbed 0 = .ok (.aload_n 0, 1) := by decide +kernel
theorem dX6_robbed_1 : decode cX6_robbed 1 = .ok (.iload_n 1, 1) := by decide +kernel
theorem dX6_robbed_2 : decode cX6_robbed 2 = .ok (.invokevirtual 81, 3) := by decide +kernel
theorem dX6_robbed_5 : decode cX6_robbed 5 = .ok (.ifCond .eq 12, 3) := by decide +kernel
theorem dX6_robbed_8 : decode cX6_robbed 8 = .ok (.iload_n 2, 1) := by decide +kernel
theorem dX6_robbed_9 : decode cX6_robbed 9 = .ok (.iconst 0, 1) := by decide +kernel
theorem dX6_robbed_10 : decode cX6_robbed 10 = .ok (.iconst 1, 1) := by decide +kernel
theorem dX6_robbed_11 : decode cX6_robbed 11 = .ok (.invokestatic 66, 3) := by decide +kernel
theorem dX6_robbed_14 : decode cX6_robbed 14 = .ok (.ifCond .ne 6, 3) := by decide +kernel
theorem dX6_robbed_17 : decode cX6_robbed 17 = .ok (.bipush (-2), 2) := by decide +kernel
theorem dX6_robbed_19 : decode cX6_robbed 19 = .ok (.ireturn, 1) := by decide +kernel
theorem dX6_robbed_20 : decode cX6_robbed 20 = .ok (.aload_n 0, 1) := by decide +kernel
theorem dX6_robbed_21 : decode cX6_robbed 21 = .ok (.getfield 12, 3) := by decide +kernel
theorem dX6_robbed_24 : decode cX6_robbed 24 = .ok (.getfield 85, 3) := by decide +kernel
theorem dX6_robbed_27 : decode cX6_robbed 27 = .ok (.iload_n 1, 1) := by decide +kernel
theorem dX6_robbed_28 : decode cX6_robbed 28 = .ok (.ishr, 1) := by decide +kernel
theorem dX6_robbed_29 : decode cX6_robbed 29 = .ok (.iconst 1, 1) := by decide +kernel
theorem dX6_robbed_30 : decode cX6_robbed 30 = .ok (.iand, 1) := by decide +kernel
theorem dX6_robbed_31 : decode cX6_robbed 31 = .ok (.istore_n 3, 1) := by decide +kernel
theorem dX6_robbed_32 : decode cX6_robbed 32 = .ok (.aload_n 0, 1) := by decide +kernel
theorem dX6_robbed_33 : decode cX6_robbed 33 = .ok (.getfield 12, 3) := by decide +kernel
theorem dX6_robbed_36 : decode cX6_robbed 36 = .ok (.aload_n 0, 1) := by decide +kernel
theorem dX6_robbed_37 : decode cX6_robbed 37 = .ok (.getfield 12, 3) := by decide +kernel
theorem dX6_robbed_40 : decode cX6_robbed 40 = .ok (.getfield 85, 3) := by decide +kernel
theorem dX6_robbed_43 : decode cX6_robbed 43 = .ok (.iconst 1, 1) := by decide +kernel
theorem dX6_robbed_44 : decode cX6_robbed 44 = .ok (.iload_n 1, 1) := by decide +kernel
theorem dX6_robbed_45 : decode cX6_robbed 45 = .ok (.ishl, 1) := by decide +kernel
theorem dX6_robbed_46 : decode cX6_robbed 46 = .ok (.iconst (-1), 1) := by decide +kernel
theorem dX6_robbed_47 : decode cX6_robbed 47 = .ok (.ixor, 1) := by decide +kernel
theorem dX6_robbed_48 : decode cX6_robbed 48 = .ok (.iand, 1) := by decide +kernel
theorem dX6_robbed_49 : decode cX6_robbed 49 = .ok (.iload_n 2, 1) := by decide +kernel
theorem dX6_robbed_50 : decode cX6_robbed 50 = .ok (.iload_n 1, 1) := by decide +kernel
theorem dX6_robbed_51 : decode cX6_robbed 51 = .ok (.ishl, 1) := by decide +kernel
theorem dX6_robbed_52 : decode cX6_robbed 52 = .ok (.ior, 1) := by decide +kernel
theorem dX6_robbed_53 : decode cX6_robbed 53 = .ok (.putfield 85, 3) := by decide +kernel
theorem dX6_robbed_56 : decode cX6_robbed 56 = .ok (.aload_n 0, 1) := by decide +kernel
theorem dX6_robbed_57 : decode cX6_robbed 57 = .ok (.getfield 35, 3) := by decide +kernel
theorem dX6_robbed_60 : decode cX6_robbed 60 = .ok (.iconst 1, 1) := by decide +kernel
theorem dX6_robbed_61 : decode cX6_robbed 61 = .ok (.putfield 73, 3) := by decide +kernel
theorem dX6_robbed_64 : decode cX6_robbed 64 = .ok (.iload_n 3, 1) := by decide +kernel
theorem dX6_robbed_65 : decode cX6_robbed 65 = .ok (.ireturn, 1) := by decide +kernel
theorem dX6_weight_0 : decode cX6_weight 0 = .ok (.iload_n 1, 1) := by decide +kernel
theorem dX6_weight_1 : decode cX6_weight 1 = .ok (.invokestatic 88, 3) := by decide +kernel
theorem dX6_weight_4 : decode cX6_weight 4 = .ok (.ifCond .eq 12, 3) := by decide +kernel
theorem dX6_weight_7 : decode cX6_weight 7 = .ok (.iload_n 2, 1) := by decide +kernel
theorem dX6_weight_8 : decode cX6_weight 8 = .ok (.iconst 0, 1) := by decide +kernel
theorem dX6_weight_9 : decode cX6_weight 9 = .ok (.iconst 3, 1) := by decide +kernel
theorem dX6_weight_10 : decode cX6_weight 10 = .ok (.invokestatic 66, 3) := by decide +kernel
theorem dX6_weight_13 : decode cX6_weight 13 = .ok (.ifCond .ne 6, 3) := by decide +kernel
theorem dX6_weight_16 : decode cX6_weight 16 = .ok (.bipush (-2), 2) := by decide +kernel
theorem dX6_weight_18 : decode cX6_weight 18 = .ok (.ireturn, 1) := by decide +kernel
theorem dX6_weight_19 : decode cX6_weight 19 = .ok (.aload_n 0, 1) := by decide +kernel
theorem dX6_weight_20 : decode cX6_weight 20 = .ok (.getfield 35, 3) := by decide +kernel
theorem dX6_weight_23 : decode cX6_weight 23 = .ok (.iconst 1, 1) := by decide +kernel
theorem dX6_weight_24 : decode cX6_weight 24 = .ok (.putfield 73, 3) := by decide +kernel
theorem dX6_weight_27 : decode cX6_weight 27 = .ok (.aload_n 0, 1) := by decide +kernel
theorem dX6_weight_28 : decode cX6_weight 28 = .ok (.getfield 12, 3) := by decide +kernel
theorem dX6_weight_31 : decode cX6_weight 31 = .ok (.iload_n 1, 1) := by decide +kernel
theorem dX6_weight_32 : decode cX6_weight 32 = .ok (.iload_n 2, 1) := by decide +kernel
theorem dX6_weight_33 : decode cX6_weight 33 = .ok (.invokevirtual 91, 3) := by decide +kernel
theorem dX6_weight_36 : decode cX6_weight 36 = .ok (.ireturn, 1) := by decide +kernel
theorem dX6_over_0 : decode cX6_over 0 = .ok (.aload_n 0, 1) := by decide +kernel
theorem dX6_over_1 : decode cX6_over 1 = .ok (.iload_n 1, 1) := by decide +kernel
theorem dX6_over_2 : decode cX6_over 2 = .ok (.iload_n 2, 1) := by decide +kernel
theorem dX6_over_3 : decode cX6_over 3 = .ok (.invokevirtual 94, 3) := by decide +kernel
theorem dX6_over_6 : decode cX6_over 6 = .ok (.ifCond .ne 6, 3) := by decide +kernel
theorem dX6_over_9 : decode cX6_over 9 = .ok (.bipush (-2), 2) := by decide +kernel
theorem dX6_over_11 : decode cX6_over 11 = .ok (.ireturn, 1) := by decide +kernel
theorem dX6_over_12 : decode cX6_over 12 = .ok (.aload_n 0, 1) := by decide +kernel
theorem dX6_over_13 : decode cX6_over 13 = .ok (.getfield 12, 3) := by decide +kernel
theorem dX6_over_16 : decode cX6_over 16 = .ok (.getfield 98, 3) := by decide +kernel
theorem dX6_over_19 : decode cX6_over 19 = .ok (.bipush 16, 2) := by decide +kernel
theorem dX6_over_21 : decode cX6_over 21 = .ok (.if_icmp .lt 6, 3) := by decide +kernel
theorem dX6_over_24 : decode cX6_over 24 = .ok (.bipush (-4), 2) := by decide +kernel
theorem dX6_over_26 : decode cX6_over 26 = .ok (.ireturn, 1) := by decide +kernel
theorem dX6_over_27 : decode cX6_over 27 = .ok (.aload_n 0, 1) := by decide +kernel
theorem dX6_over_28 : decode cX6_over 28 = .ok (.getfield 12, 3) := by decide +kernel
theorem dX6_over_31 : decode cX6_over 31 = .ok (.getfield 101, 3) := by decide +kernel
theorem dX6_over_34 : decode cX6_over 34 = .ok (.iload_n 1, 1) := by decide +kernel
theorem dX6_over_35 : decode cX6_over 35 = .ok (.dup2, 1) := by decide +kernel
theorem dX6_over_36 : decode cX6_over 36 = .ok (.iaload, 1) := by decide +kernel
theorem dX6_over_37 : decode cX6_over 37 = .ok (.iconst 1, 1) := by decide +kernel
theorem dX6_over_38 : decode cX6_over 38 = .ok (.iload_n 2, 1) := by decide +kernel
theorem dX6_over_39 : decode cX6_over 39 = .ok (.ishl, 1) := by decide +kernel
theorem dX6_over_40 : decode cX6_over 40 = .ok (.ior, 1) := by decide +kernel
theorem dX6_over_41 : decode cX6_over 41 = .ok (.iastore, 1) := by decide +kernel
theorem dX6_over_42 : decode cX6_over 42 = .ok (.aload_n 0, 1) := by decide +kernel
theorem dX6_over_43 : decode cX6_over 43 = .ok (.getfield 12, 3) := by decide +kernel
theorem dX6_over_46 : decode cX6_over 46 = .ok (.dup, 1) := by decide +kernel
theorem dX6_over_47 : decode cX6_over 47 = .ok (.getfield 98, 3) := by decide +kernel
theorem dX6_over_50 : decode cX6_over 50 = .ok (.iconst 1, 1) := by decide +kernel
theorem dX6_over_51 : decode cX6_over 51 = .ok (.iadd, 1) := by decide +kernel
theorem dX6_over_52 : decode cX6_over 52 = .ok (.putfield 98, 3) := by decide +kernel
theorem dX6_over_55 : decode cX6_over 55 = .ok (.aload_n 0, 1) := by decide +kernel
theorem dX6_over_56 : decode cX6_over 56 = .ok (.getfield 35, 3) := by decide +kernel
theorem dX6_over_59 : decode cX6_over 59 = .ok (.iconst 1, 1) := by decide +kernel
theorem dX6_over_60 : decode cX6_over 60 = .ok (.putfield 73, 3) := by decide +kernel
theorem dX6_over_63 : decode cX6_over 63 = .ok (.aload_n 0, 1) := by decide +kernel
theorem dX6_over_64 : decode cX6_over 64 = .ok (.getfield 12, 3) := by decide +kernel
theorem dX6_over_67 : decode cX6_over 67 = .ok (.getfield 98, 3) := by decide +kernel
theorem dX6_over_70 : decode cX6_over 70 = .ok (.ireturn, 1) := by decide +kernel
theorem dX6_type_0 : decode cX6_type 0 = .ok (.iload_n 1, 1) := by decide +kernel
theorem dX6_type_1 : decode cX6_type 1 = .ok (.iconst 0, 1) := by decide +kernel
theorem dX6_type_2 : decode cX6_type 2 = .ok (.sipush 255, 3) := by decide +kernel
theorem dX6_type_5 : decode cX6_type 5 = .ok (.invokestatic 66, 3) := by decide +kernel
theorem dX6_type_8 : decode cX6_type 8 = .ok (.ifCond .ne 6, 3) := by decide +kernel
theorem dX6_type_11 : decode cX6_type 11 = .ok (.bipush (-2), 2) := by decide +kernel
theorem dX6_type_13 : decode cX6_type 13 = .ok (.ireturn, 1) := by decide +kernel
theorem dX6_type_14 : decode cX6_type 14 = .ok (.aload_n 0, 1) := by decide +kernel
theorem dX6_type_15 : decode cX6_type 15 = .ok (.getfield 19, 3) := by decide +kernel
theorem dX6_type_18 : decode cX6_type 18 = .ok (.getfield 104, 3) := by decide +kernel
theorem dX6_type_21 : decode cX6_type 21 = .ok (.bipush 40, 2) := by decide +kernel
theorem dX6_type_23 : decode cX6_type 23 = .ok (.if_icmp .lt 6, 3) := by decide +kernel
theorem dX6_type_26 : decode cX6_type 26 = .ok (.bipush (-4), 2) := by decide +kernel
theorem dX6_type_28 : decode cX6_type 28 = .ok (.ireturn, 1) := by decide +kernel
theorem dX6_type_29 : decode cX6_type 29 = .ok (.aload_n 0, 1) := by decide +kernel
theorem dX6_type_30 : decode cX6_type 30 = .ok (.getfield 19, 3) := by decide +kernel
theorem dX6_type_33 : decode cX6_type 33 = .ok (.getfield 107, 3) := by decide +kernel
theorem dX6_type_36 : decode cX6_type 36 = .ok (.aload_n 0, 1) := by decide +kernel
theorem dX6_type_37 : decode cX6_type 37 = .ok (.getfield 19, 3) := by decide +kernel
theorem dX6_type_40 : decode cX6_type 40 = .ok (.getfield 104, 3) := by decide +kernel
theorem dX6_type_43 : decode cX6_type 43 = .ok (.iload_n 1, 1) := by decide +kernel
theorem dX6_type_44 : decode cX6_type 44 = .ok (.iastore, 1) := by decide +kernel
theorem dX6_type_45 : decode cX6_type 45 = .ok (.aload_n 0, 1) := by decide +kernel
theorem dX6_type_46 : decode cX6_type 46 = .ok (.getfield 19, 3) := by decide +kernel
theorem dX6_type_49 : decode cX6_type 49 = .ok (.dup, 1) := by decide +kernel
theorem dX6_type_50 : decode cX6_type 50 = .ok (.getfield 104, 3) := by decide +kernel
theorem dX6_type_53 : decode cX6_type 53 = .ok (.iconst 1, 1) := by decide +kernel
theorem dX6_type_54 : decode cX6_type 54 = .ok (.iadd, 1) := by decide +kernel
theorem dX6_type_55 : decode cX6_type 55 = .ok (.putfield 104, 3) := by decide +kernel
theorem dX6_type_58 : decode cX6_type 58 = .ok (.aload_n 0, 1) := by decide +kernel
theorem dX6_type_59 : decode cX6_type 59 = .ok (.getfield 19, 3) := by decide +kernel
theorem dX6_type_62 : decode cX6_type 62 = .ok (.getfield 104, 3) := by decide +kernel
theorem dX6_type_65 : decode cX6_type 65 = .ok (.ireturn, 1) := by decide +kernel
theorem dX6_wipe_0 : decode cX6_wipe 0 = .ok (.aload_n 0, 1) := by decide +kernel
theorem dX6_wipe_1 : decode cX6_wipe 1 = .ok (.getfield 19, 3) := by decide +kernel
theorem dX6_wipe_4 : decode cX6_wipe 4 = .ok (.getfield 104, 3) := by decide +kernel
theorem dX6_wipe_7 : decode cX6_wipe 7 = .ok (.istore_n 1, 1) := by decide +kernel
theorem dX6_wipe_8 : decode cX6_wipe 8 = .ok (.aload_n 0, 1) := by decide +kernel
theorem dX6_wipe_9 : decode cX6_wipe 9 = .ok (.getfield 19, 3) := by decide +kernel
theorem dX6_wipe_12 : decode cX6_wipe 12 = .ok (.iconst 0, 1) := by decide +kernel
theorem dX6_wipe_13 : decode cX6_wipe 13 = .ok (.putfield 104, 3) := by decide +kernel
theorem dX6_wipe_16 : decode cX6_wipe 16 = .ok (.iload_n 1, 1) := by decide +kernel
theorem dX6_wipe_17 : decode cX6_wipe 17 = .ok (.ireturn, 1) := by decide +kernel
theorem dX6_fault_0 : decode cX6_fault 0 = .ok (.aload_n 0, 1) := by decide +kernel
theorem dX6_fault_1 : decode cX6_fault 1 = .ok (.getfield 19, 3) := by decide +kernel
theorem dX6_fault_4 : decode cX6_fault 4 = .ok (.aload_n 0, 1) := by decide +kernel
theorem dX6_fault_5 : decode cX6_fault 5 = .ok (.getfield 12, 3) := by decide +kernel
theorem dX6_fault_8 : decode cX6_fault 8 = .ok (.getfield 70, 3) := by decide +kernel
theorem dX6_fault_11 : decode cX6_fault 11 = .ok (.invokevirtual 110, 3) := by decide +kernel
theorem dX6_fault_14 : decode cX6_fault 14 = .ok (.ireturn, 1) := by decide +kernel
theorem dX6_tell_0 : decode cX6_tell 0 = .ok (.aload_n 0, 1) := by decide +kernel
theorem dX6_tell_1 : decode cX6_tell 1 = .ok (.iload_n 1, 1) := by decide +kernel
theorem dX6_tell_2 : decode cX6_tell 2 = .ok (.invokevirtual 114, 3) := by decide +kernel
theorem dX6_tell_5 : decode cX6_tell 5 = .ok (.ifCond .ne 6, 3) := by decide +kernel
theorem dX6_tell_8 : decode cX6_tell 8 = .ok (.bipush (-2), 2) := by decide +kernel
theorem dX6_tell_10 : decode cX6_tell 10 = .ok (.ireturn, 1) := by decide +kernel
theorem dX6_tell_11 : decode cX6_tell 11 = .ok (.aload_n 0, 1) := by decide +kernel
theorem dX6_tell_12 : decode cX6_tell 12 = .ok (.getfield 19, 3) := by decide +kernel
theorem dX6_tell_15 : decode cX6_tell 15 = .ok (.aload_n 0, 1) := by decide +kernel
theorem dX6_tell_16 : decode cX6_tell 16 = .ok (.getfield 12, 3) := by decide +kernel
theorem dX6_tell_19 : decode cX6_tell 19 = .ok (.getfield 70, 3) := by decide +kernel
theorem dX6_tell_22 : decode cX6_tell 22 = .ok (.invokevirtual 110, 3) := by decide +kernel
theorem dX6_tell_25 : decode cX6_tell 25 = .ok (.iconst (-1), 1) := by decide +kernel
theorem dX6_tell_26 : decode cX6_tell 26 = .ok (.if_icmp .eq 6, 3) := by decide +kernel
theorem dX6_tell_29 : decode cX6_tell 29 = .ok (.bipush (-3), 2) := by decide +kernel
theorem dX6_tell_31 : decode cX6_tell 31 = .ok (.ireturn, 1) := by decide +kernel
theorem dX6_tell_32 : decode cX6_tell 32 = .ok (.aload_n 0, 1) := by decide +kernel
theorem dX6_tell_33 : decode cX6_tell 33 = .ok (.iload_n 1, 1) := by decide +kernel
theorem dX6_tell_34 : decode cX6_tell 34 = .ok (.invokevirtual 117, 3) := by decide +kernel
theorem dX6_tell_37 : decode cX6_tell 37 = .ok (.istore_n 2, 1) := by decide +kernel
theorem dX6_tell_38 : decode cX6_tell 38 = .ok (.aload_n 0, 1) := by decide +kernel
theorem dX6_tell_39 : decode cX6_tell 39 = .ok (.getfield 19, 3) := by decide +kernel
theorem dX6_tell_42 : decode cX6_tell 42 = .ok (.iconst 0, 1) := by decide +kernel
theorem dX6_tell_43 : decode cX6_tell 43 = .ok (.putfield 104, 3) := by decide +kernel
theorem dX6_tell_46 : decode cX6_tell 46 = .ok (.aload_n 0, 1) := by decide +kernel
theorem dX6_tell_47 : decode cX6_tell 47 = .ok (.invokevirtual 120, 3) := by decide +kernel
theorem dX6_tell_50 : decode cX6_tell 50 = .ok (.iload_n 2, 1) := by decide +kernel
theorem dX6_tell_51 : decode cX6_tell 51 = .ok (.ireturn, 1) := by decide +kernel
theorem dX6_read_0 : decode cX6_read 0 = .ok (.iload_n 1, 1) := by decide +kernel
theorem dX6_read_1 : decode cX6_read 1 = .ok (.invokestatic 123, 3) := by decide +kernel
theorem dX6_read_4 : decode cX6_read 4 = .ok (.ifCond .eq 19, 3) := by decide +kernel
theorem dX6_read_7 : decode cX6_read 7 = .ok (.aload_n 0, 1) := by decide +kernel
theorem dX6_read_8 : decode cX6_read 8 = .ok (.iload_n 2, 1) := by decide +kernel
theorem dX6_read_9 : decode cX6_read 9 = .ok (.invokevirtual 81, 3) := by decide +kernel
theorem dX6_read_12 : decode cX6_read 12 = .ok (.ifCond .eq 11, 3) := by decide +kernel
theorem dX6_read_15 : decode cX6_read 15 = .ok (.aload_n 0, 1) := by decide +kernel
theorem dX6_read_16 : decode cX6_read 16 = .ok (.iload_n 3, 1) := by decide +kernel
theorem dX6_read_17 : decode cX6_read 17 = .ok (.invokevirtual 114, 3) := by decide +kernel
theorem dX6_read_20 : decode cX6_read 20 = .ok (.ifCond .ne 6, 3) := by decide +kernel
theorem dX6_read_23 : decode cX6_read 23 = .ok (.bipush (-2), 2) := by decide +kernel
theorem dX6_read_25 : decode cX6_read 25 = .ok (.ireturn, 1) := by decide +kernel
theorem dX6_read_26 : decode cX6_read 26 = .ok (.aload_n 0, 1) := by decide +kernel
theorem dX6_read_27 : decode cX6_read 27 = .ok (.getfield 54, 3) := by decide +kernel
theorem dX6_read_30 : decode cX6_read 30 = .ok (.iload_n 1, 1) := by decide +kernel
theorem dX6_read_31 : decode cX6_read 31 = .ok (.aaload, 1) := by decide +kernel
theorem dX6_read_32 : decode cX6_read 32 = .ok (.getfield 126, 3) := by decide +kernel
theorem dX6_read_35 : decode cX6_read 35 = .ok (.ifCond .eq 9, 3) := by decide +kernel
theorem dX6_read_38 : decode cX6_read 38 = .ok (.aload_n 0, 1) := by decide +kernel
theorem dX6_read_39 : decode cX6_read 39 = .ok (.iconst 1, 1) := by decide +kernel
theorem dX6_read_40 : decode cX6_read 40 = .ok (.invokevirtual 129, 3) := by decide +kernel
theorem dX6_read_43 : decode cX6_read 43 = .ok (.ireturn, 1) := by decide +kernel
theorem dX6_read_44 : decode cX6_read 44 = .ok (.aload_n 0, 1) := by decide +kernel
theorem dX6_read_45 : decode cX6_read 45 = .ok (.aload_n 0, 1) := by decide +kernel
theorem dX6_read_46 : decode cX6_read 46 = .ok (.getfield 54, 3) := by decide +kernel
theorem dX6_read_49 : decode cX6_read 49 = .ok (.iload_n 1, 1) := by decide +kernel
theorem dX6_read_50 : decode cX6_read 50 = .ok (.aaload, 1) := by decide +kernel
theorem dX6_read_51 : decode cX6_read 51 = .ok (.iload_n 2, 1) := by decide +kernel
theorem dX6_read_52 : decode cX6_read 52 = .ok (.iload_n 3, 1) := by decide +kernel
theorem dX6_read_53 : decode cX6_read 53 = .ok (.invokevirtual 132, 3) := by decide +kernel
theorem dX6_read_56 : decode cX6_read 56 = .ok (.istore 4, 2) := by decide +kernel
theorem dX6_read_58 : decode cX6_read 58 = .ok (.aload_n 0, 1) := by decide +kernel
theorem dX6_read_59 : decode cX6_read 59 = .ok (.invokevirtual 120, 3) := by decide +kernel
theorem dX6_read_62 : decode cX6_read 62 = .ok (.iload 4, 2) := by decide +kernel
theorem dX6_read_64 : decode cX6_read 64 = .ok (.ireturn, 1) := by decide +kernel
theorem dX6_asOf_0 : decode cX6_asOf 0 = .ok (.iload_n 1, 1) := by decide +kernel
theorem dX6_asOf_1 : decode cX6_asOf 1 = .ok (.iconst 0, 1) := by decide +kernel
theorem dX6_asOf_2 : decode cX6_asOf 2 = .ok (.sipush 999, 3) := by decide +kernel
theorem dX6_asOf_5 : decode cX6_asOf 5 = .ok (.invokestatic 66, 3) := by decide +kernel
theorem dX6_asOf_8 : decode cX6_asOf 8 = .ok (.ifCond .ne 6, 3) := by decide +kernel
theorem dX6_asOf_11 : decode cX6_asOf 11 = .ok (.bipush (-2), 2) := by decide +kernel
theorem dX6_asOf_13 : decode cX6_asOf 13 = .ok (.ireturn, 1) := by decide +kernel
theorem dX6_asOf_14 : decode cX6_asOf 14 = .ok (.aload_n 0, 1) := by decide +kernel
theorem dX6_asOf_15 : decode cX6_asOf 15 = .ok (.getfield 58, 3) := by decide +kernel
theorem dX6_asOf_18 : decode cX6_asOf 18 = .ok (.istore_n 2, 1) := by decide +kernel
theorem dX6_asOf_19 : decode cX6_asOf 19 = .ok (.aload_n 0, 1) := by decide +kernel
theorem dX6_asOf_20 : decode cX6_asOf 20 = .ok (.iload_n 1, 1) := by decide +kernel
theorem dX6_asOf_21 : decode cX6_asOf 21 = .ok (.putfield 58, 3) := by decide +kernel
theorem dX6_asOf_24 : decode cX6_asOf 24 = .ok (.aload_n 0, 1) := by decide +kernel
theorem dX6_asOf_25 : decode cX6_asOf 25 = .ok (.invokevirtual 120, 3) := by decide +kernel
theorem dX6_asOf_28 : decode cX6_asOf 28 = .ok (.iload_n 2, 1) := by decide +kernel
theorem dX6_asOf_29 : decode cX6_asOf 29 = .ok (.ireturn, 1) := by decide +kernel
theorem dX6_has_0 : decode cX6_has 0 = .ok (.aload_n 0, 1) := by decide +kernel
theorem dX6_has_1 : decode cX6_has 1 = .ok (.iload_n 1, 1) := by decide +kernel
theorem dX6_has_2 : decode cX6_has 2 = .ok (.invokevirtual 81, 3) := by decide +kernel
theorem dX6_has_5 : decode cX6_has 5 = .ok (.ifCond .eq 15, 3) := by decide +kernel
theorem dX6_has_8 : decode cX6_has 8 = .ok (.aload_n 0, 1) := by decide +kernel
theorem dX6_has_9 : decode cX6_has 9 = .ok (.getfield 12, 3) := by decide +kernel
theorem dX6_has_12 : decode cX6_has 12 = .ok (.getfield 136, 3) := by decide +kernel
theorem dX6_has_15 : decode cX6_has 15 = .ok (.iload_n 1, 1) := by decide +kernel
theorem dX6_has_16 : decode cX6_has 16 = .ok (.iaload, 1) := by decide +kernel
theorem dX6_has_17 : decode cX6_has 17 = .ok (.goto 5, 3) := by decide +kernel
theorem dX6_has_20 : decode cX6_has 20 = .ok (.bipush (-2), 2) := by decide +kernel
theorem dX6_has_22 : decode cX6_has 22 = .ok (.ireturn, 1) := by decide +kernel
theorem dX6_gaps_0 : decode cX6_gaps 0 = .ok (.iload_n 1, 1) := by decide +kernel
theorem dX6_gaps_1 : decode cX6_gaps 1 = .ok (.invokestatic 123, 3) := by decide +kernel
theorem dX6_gaps_4 : decode cX6_gaps 4 = .ok (.ifCond .eq 12, 3) := by decide +kernel
theorem dX6_gaps_7 : decode cX6_gaps 7 = .ok (.iload_n 2, 1) := by decide +kernel
theorem dX6_gaps_8 : decode cX6_gaps 8 = .ok (.iconst 0, 1) := by decide +kernel
theorem dX6_gaps_9 : decode cX6_gaps 9 = .ok (.iconst 1, 1) := by decide +kernel
theorem dX6_gaps_10 : decode cX6_gaps 10 = .ok (.invokestatic 66, 3) := by decide +kernel
theorem dX6_gaps_13 : decode cX6_gaps 13 = .ok (.ifCond .ne 6, 3) := by decide +kernel
theorem dX6_gaps_16 : decode cX6_gaps 16 = .ok (.bipush (-2), 2) := by decide +kernel
theorem dX6_gaps_18 : decode cX6_gaps 18 = .ok (.ireturn, 1) := by decide +kernel
theorem dX6_gaps_19 : decode cX6_gaps 19 = .ok (.aload_n 0, 1) := by decide +kernel
theorem dX6_gaps_20 : decode cX6_gaps 20 = .ok (.getfield 54, 3) := by decide +kernel
theorem dX6_gaps_23 : decode cX6_gaps 23 = .ok (.iload_n 1, 1) := by decide +kernel
theorem dX6_gaps_24 : decode cX6_gaps 24 = .ok (.aaload, 1) := by decide +kernel
theorem dX6_gaps_25 : decode cX6_gaps 25 = .ok (.getfield 126, 3) := by decide +kernel
theorem dX6_gaps_28 : decode cX6_gaps 28 = .ok (.ifCond .eq 9, 3) := by decide +kernel
theorem dX6_gaps_31 : decode cX6_gaps 31 = .ok (.aload_n 0, 1) := by decide +kernel
theorem dX6_gaps_32 : decode cX6_gaps 32 = .ok (.iconst 1, 1) := by decide +kernel
theorem dX6_gaps_33 : decode cX6_gaps 33 = .ok (.invokevirtual 129, 3) := by decide +kernel
theorem dX6_gaps_36 : decode cX6_gaps 36 = .ok (.ireturn, 1) := by decide +kernel
theorem dX6_gaps_37 : decode cX6_gaps 37 = .ok (.aload_n 0, 1) := by decide +kernel
theorem dX6_gaps_38 : decode cX6_gaps 38 = .ok (.getfield 12, 3) := by decide +kernel
theorem dX6_gaps_41 : decode cX6_gaps 41 = .ok (.aload_n 0, 1) := by decide +kernel
theorem dX6_gaps_42 : decode cX6_gaps 42 = .ok (.getfield 54, 3) := by decide +kernel
theorem dX6_gaps_45 : decode cX6_gaps 45 = .ok (.iload_n 1, 1) := by decide +kernel
theorem dX6_gaps_46 : decode cX6_gaps 46 = .ok (.aaload, 1) := by decide +kernel
theorem dX6_gaps_47 : decode cX6_gaps 47 = .ok (.getfield 139, 3) := by decide +kernel
theorem dX6_gaps_50 : decode cX6_gaps 50 = .ok (.aload_n 0, 1) := by decide +kernel
theorem dX6_gaps_51 : decode cX6_gaps 51 = .ok (.getfield 54, 3) := by decide +kernel
theorem dX6_gaps_54 : decode cX6_gaps 54 = .ok (.iload_n 1, 1) := by decide +kernel
theorem dX6_gaps_55 : decode cX6_gaps 55 = .ok (.aaload, 1) := by decide +kernel
theorem dX6_gaps_56 : decode cX6_gaps 56 = .ok (.getfield 142, 3) := by decide +kernel
theorem dX6_gaps_59 : decode cX6_gaps 59 = .ok (.invokevirtual 145, 3) := by decide +kernel
theorem dX6_gaps_62 : decode cX6_gaps 62 = .ok (.ifCond .ne 6, 3) := by decide +kernel
theorem dX6_gaps_65 : decode cX6_gaps 65 = .ok (.bipush (-3), 2) := by decide +kernel
theorem dX6_gaps_67 : decode cX6_gaps 67 = .ok (.ireturn, 1) := by decide +kernel
theorem dX6_gaps_68 : decode cX6_gaps 68 = .ok (.iload_n 2, 1) := by decide +kernel
theorem dX6_gaps_69 : decode cX6_gaps 69 = .ok (.ifCond .ne 20, 3) := by decide +kernel
theorem dX6_gaps_72 : decode cX6_gaps 72 = .ok (.aload_n 0, 1) := by decide +kernel
theorem dX6_gaps_73 : decode cX6_gaps 73 = .ok (.getfield 48, 3) := by decide +kernel
theorem dX6_gaps_76 : decode cX6_gaps 76 = .ok (.aload_n 0, 1) := by decide +kernel
theorem dX6_gaps_77 : decode cX6_gaps 77 = .ok (.getfield 54, 3) := by decide +kernel
theorem dX6_gaps_80 : decode cX6_gaps 80 = .ok (.iload_n 1, 1) := by decide +kernel
theorem dX6_gaps_81 : decode cX6_gaps 81 = .ok (.aaload, 1) := by decide +kernel
theorem dX6_gaps_82 : decode cX6_gaps 82 = .ok (.getfield 139, 3) := by decide +kernel
theorem dX6_gaps_85 : decode cX6_gaps 85 = .ok (.invokevirtual 149, 3) := by decide +kernel
theorem dX6_gaps_88 : decode cX6_gaps 88 = .ok (.ireturn, 1) := by decide +kernel
theorem dX6_gaps_89 : decode cX6_gaps 89 = .ok (.aload_n 0, 1) := by decide +kernel
theorem dX6_gaps_90 : decode cX6_gaps 90 = .ok (.getfield 12, 3) := by decide +kernel
theorem dX6_gaps_93 : decode cX6_gaps 93 = .ok (.aload_n 0, 1) := by decide +kernel
theorem dX6_gaps_94 : decode cX6_gaps 94 = .ok (.getfield 54, 3) := by decide +kernel
theorem dX6_gaps_97 : decode cX6_gaps 97 = .ok (.iload_n 1, 1) := by decide +kernel
theorem dX6_gaps_98 : decode cX6_gaps 98 = .ok (.aaload, 1) := by decide +kernel
theorem dX6_gaps_99 : decode cX6_gaps 99 = .ok (.getfield 139, 3) := by decide +kernel
theorem dX6_gaps_102 : decode cX6_gaps 102 = .ok (.invokevirtual 153, 3) := by decide +kernel
theorem dX6_gaps_105 : decode cX6_gaps 105 = .ok (.invokestatic 157, 3) := by decide +kernel
theorem dX6_gaps_108 : decode cX6_gaps 108 = .ok (.ireturn, 1) := by decide +kernel
theorem dX6_best_0 : decode cX6_best 0 = .ok (.iload_n 1, 1) := by decide +kernel
theorem dX6_best_1 : decode cX6_best 1 = .ok (.iconst 0, 1) := by decide +kernel
theorem dX6_best_2 : decode cX6_best 2 = .ok (.iconst 2, 1) := by decide +kernel
theorem dX6_best_3 : decode cX6_best 3 = .ok (.invokestatic 66, 3) := by decide +kernel
theorem dX6_best_6 : decode cX6_best 6 = .ok (.ifCond .ne 6, 3) := by decide +kernel
theorem dX6_best_9 : decode cX6_best 9 = .ok (.bipush (-2), 2) := by decide +kernel
theorem dX6_best_11 : decode cX6_best 11 = .ok (.ireturn, 1) := by decide +kernel
theorem dX6_best_12 : decode cX6_best 12 = .ok (.aload_n 0, 1) := by decide +kernel
theorem dX6_best_13 : decode cX6_best 13 = .ok (.getfield 35, 3) := by decide +kernel
theorem dX6_best_16 : decode cX6_best 16 = .ok (.invokevirtual 161, 3) := by decide +kernel
theorem dX6_best_19 : decode cX6_best 19 = .ok (.ifCond .ne 6, 3) := by decide +kernel
theorem dX6_best_22 : decode cX6_best 22 = .ok (.bipush (-3), 2) := by decide +kernel
theorem dX6_best_24 : decode cX6_best 24 = .ok (.ireturn, 1) := by decide +kernel
theorem dX6_best_25 : decode cX6_best 25 = .ok (.iload_n 1, 1) := by decide +kernel
theorem dX6_best_26 : decode cX6_best 26 = .ok (.ifCond .ne 13, 3) := by decide +kernel
theorem dX6_best_29 : decode cX6_best 29 = .ok (.aload_n 0, 1) := by decide +kernel
theorem dX6_best_30 : decode cX6_best 30 = .ok (.getfield 35, 3) := by decide +kernel
theorem dX6_best_33 : decode cX6_best 33 = .ok (.getfield 165, 3) := by decide +kernel
theorem dX6_best_36 : decode cX6_best 36 = .ok (.iconst 0, 1) := by decide +kernel
theorem dX6_best_37 : decode cX6_best 37 = .ok (.iaload, 1) := by decide +kernel
theorem dX6_best_38 : decode cX6_best 38 = .ok (.ireturn, 1) := by decide +kernel
theorem dX6_best_39 : decode cX6_best 39 = .ok (.iload_n 1, 1) := by decide +kernel
theorem dX6_best_40 : decode cX6_best 40 = .ok (.iconst 1, 1) := by decide +kernel
theorem dX6_best_41 : decode cX6_best 41 = .ok (.if_icmp .ne 15, 3) := by decide +kernel
theorem dX6_best_44 : decode cX6_best 44 = .ok (.aload_n 0, 1) := by decide +kernel
theorem dX6_best_45 : decode cX6_best 45 = .ok (.getfield 35, 3) := by decide +kernel
theorem dX6_best_48 : decode cX6_best 48 = .ok (.getfield 168, 3) := by decide +kernel
theorem dX6_best_51 : decode cX6_best 51 = .ok (.iconst 0, 1) := by decide +kernel
theorem dX6_best_52 : decode cX6_best 52 = .ok (.iaload, 1) := by decide +kernel
theorem dX6_best_53 : decode cX6_best 53 = .ok (.goto 13, 3) := by decide +kernel
theorem dX6_best_56 : decode cX6_best 56 = .ok (.aload_n 0, 1) := by decide +kernel
theorem dX6_best_57 : decode cX6_best 57 = .ok (.getfield 48, 3) := by decide +kernel
theorem dX6_best_60 : decode cX6_best 60 = .ok (.invokevirtual 171, 3) := by decide +kernel
theorem dX6_best_63 : decode cX6_best 63 = .ok (.invokestatic 157, 3) := by decide +kernel
theorem dX6_best_66 : decode cX6_best 66 = .ok (.ireturn, 1) := by decide +kernel
theorem dX6_first_0 : decode cX6_first 0 = .ok (.iload_n 1, 1) := by decide +kernel
theorem dX6_first_1 : decode cX6_first 1 = .ok (.ifCond .ge 6, 3) := by decide +kernel
theorem dX6_first_4 : decode cX6_first 4 = .ok (.bipush (-2), 2) := by decide +kernel
theorem dX6_first_6 : decode cX6_first 6 = .ok (.ireturn, 1) := by decide +kernel
theorem dX6_first_7 : decode cX6_first 7 = .ok (.aload_n 0, 1) := by decide +kernel
theorem dX6_first_8 : decode cX6_first 8 = .ok (.getfield 35, 3) := by decide +kernel
theorem dX6_first_11 : decode cX6_first 11 = .ok (.invokevirtual 161, 3) := by decide +kernel
theorem dX6_first_14 : decode cX6_first 14 = .ok (.ifCond .ne 6, 3) := by decide +kernel
theorem dX6_first_17 : decode cX6_first 17 = .ok (.bipush (-3), 2) := by decide +kernel
theorem dX6_first_19 : decode cX6_first 19 = .ok (.ireturn, 1) := by decide +kernel
theorem dX6_first_20 : decode cX6_first 20 = .ok (.iload_n 1, 1) := by decide +kernel
theorem dX6_first_21 : decode cX6_first 21 = .ok (.aload_n 0, 1) := by decide +kernel
theorem dX6_first_22 : decode cX6_first 22 = .ok (.getfield 12, 3) := by decide +kernel
theorem dX6_first_25 : decode cX6_first 25 = .ok (.getfield 70, 3) := by decide +kernel
theorem dX6_first_28 : decode cX6_first 28 = .ok (.if_icmp .ge 15, 3) := by decide +kernel
theorem dX6_first_31 : decode cX6_first 31 = .ok (.aload_n 0, 1) := by decide +kernel
theorem dX6_first_32 : decode cX6_first 32 = .ok (.getfield 35, 3) := by decide +kernel
theorem dX6_first_35 : decode cX6_first 35 = .ok (.getfield 41, 3) := by decide +kernel
theorem dX6_first_38 : decode cX6_first 38 = .ok (.iload_n 1, 1) := by decide +kernel
theorem dX6_first_39 : decode cX6_first 39 = .ok (.iaload, 1) := by decide +kernel
theorem dX6_first_40 : decode cX6_first 40 = .ok (.goto 4, 3) := by decide +kernel
theorem dX6_first_43 : decode cX6_first 43 = .ok (.iconst (-1), 1) := by decide +kernel
theorem dX6_first_44 : decode cX6_first 44 = .ok (.ireturn, 1) := by decide +kernel
theorem dX6_sure_0 : decode cX6_sure 0 = .ok (.aload_n 0, 1) := by decide +kernel
theorem dX6_sure_1 : decode cX6_sure 1 = .ok (.iload_n 1, 1) := by decide +kernel
theorem dX6_sure_2 : decode cX6_sure 2 = .ok (.iload_n 2, 1) := by decide +kernel
theorem dX6_sure_3 : decode cX6_sure 3 = .ok (.invokevirtual 94, 3) := by decide +kernel
theorem dX6_sure_6 : decode cX6_sure 6 = .ok (.ifCond .ne 6, 3) := by decide +kernel
theorem dX6_sure_9 : decode cX6_sure 9 = .ok (.bipush (-2), 2) := by decide +kernel
theorem dX6_sure_11 : decode cX6_sure 11 = .ok (.ireturn, 1) := by decide +kernel
theorem dX6_sure_12 : decode cX6_sure 12 = .ok (.aload_n 0, 1) := by decide +kernel
theorem dX6_sure_13 : decode cX6_sure 13 = .ok (.getfield 35, 3) := by decide +kernel
theorem dX6_sure_16 : decode cX6_sure 16 = .ok (.invokevirtual 161, 3) := by decide +kernel
theorem dX6_sure_19 : decode cX6_sure 19 = .ok (.ifCond .ne 6, 3) := by decide +kernel
theorem dX6_sure_22 : decode cX6_sure 22 = .ok (.bipush (-3), 2) := by decide +kernel
theorem dX6_sure_24 : decode cX6_sure 24 = .ok (.ireturn, 1) := by decide +kernel
theorem dX6_sure_25 : decode cX6_sure 25 = .ok (.aload_n 0, 1) := by decide +kernel
theorem dX6_sure_26 : decode cX6_sure 26 = .ok (.getfield 35, 3) := by decide +kernel
theorem dX6_sure_29 : decode cX6_sure 29 = .ok (.iload_n 1, 1) := by decide +kernel
theorem dX6_sure_30 : decode cX6_sure 30 = .ok (.iload_n 2, 1) := by decide +kernel
theorem dX6_sure_31 : decode cX6_sure 31 = .ok (.invokevirtual 174, 3) := by decide +kernel
theorem dX6_sure_34 : decode cX6_sure 34 = .ok (.invokestatic 157, 3) := by decide +kernel
theorem dX6_sure_37 : decode cX6_sure 37 = .ok (.ireturn, 1) := by decide +kernel
theorem dX6_places_0 : decode cX6_places 0 = .ok (.aload_n 0, 1) := by decide +kernel
theorem dX6_places_1 : decode cX6_places 1 = .ok (.iload_n 1, 1) := by decide +kernel
theorem dX6_places_2 : decode cX6_places 2 = .ok (.invokevirtual 81, 3) := by decide +kernel
theorem dX6_places_5 : decode cX6_places 5 = .ok (.ifCond .ne 6, 3) := by decide +kernel
theorem dX6_places_8 : decode cX6_places 8 = .ok (.bipush (-2), 2) := by decide +kernel
theorem dX6_places_10 : decode cX6_places 10 = .ok (.ireturn, 1) := by decide +kernel
theorem dX6_places_11 : decode cX6_places 11 = .ok (.aload_n 0, 1) := by decide +kernel
theorem dX6_places_12 : decode cX6_places 12 = .ok (.getfield 35, 3) := by decide +kernel
theorem dX6_places_15 : decode cX6_places 15 = .ok (.invokevirtual 161, 3) := by decide +kernel
theorem dX6_places_18 : decode cX6_places 18 = .ok (.ifCond .ne 6, 3) := by decide +kernel
theorem dX6_places_21 : decode cX6_places 21 = .ok (.bipush (-3), 2) := by decide +kernel
theorem dX6_places_23 : decode cX6_places 23 = .ok (.ireturn, 1) := by decide +kernel
theorem dX6_places_24 : decode cX6_places 24 = .ok (.aload_n 0, 1) := by decide +kernel
end
section
theorem dX6_places_25 : decode cX6_places 25 = .ok (.getfield 35, 3) := by decide +kernel
theorem dX6_places_28 : decode cX6_places 28 = .ok (.iload_n 1, 1) := by decide +kernel
theorem dX6_places_29 : decode cX6_places 29 = .ok (.invokevirtual 177, 3) := by decide +kernel
theorem dX6_places_32 : decode cX6_places 32 = .ok (.ireturn, 1) := by decide +kernel
theorem dX6_spread_0 : decode cX6_spread 0 = .ok (.iload_n 1, 1) := by decide +kernel
theorem dX6_spread_1 : decode cX6_spread 1 = .ok (.iconst 0, 1) := by decide +kernel
theorem dX6_spread_2 : decode cX6_spread 2 = .ok (.sipush 999, 3) := by decide +kernel
theorem dX6_spread_5 : decode cX6_spread 5 = .ok (.invokestatic 66, 3) := by decide +kernel
theorem dX6_spread_8 : decode cX6_spread 8 = .ok (.ifCond .eq 12, 3) := by decide +kernel
theorem dX6_spread_11 : decode cX6_spread 11 = .ok (.iload_n 2, 1) := by decide +kernel
theorem dX6_spread_12 : decode cX6_spread 12 = .ok (.iconst 0, 1) := by decide +kernel
theorem dX6_spread_13 : decode cX6_spread 13 = .ok (.iconst 1, 1) := by decide +kernel
theorem dX6_spread_14 : decode cX6_spread 14 = .ok (.invokestatic 66, 3) := by decide +kernel
theorem dX6_spread_17 : decode cX6_spread 17 = .ok (.ifCond .ne 6, 3) := by decide +kernel
theorem dX6_spread_20 : decode cX6_spread 20 = .ok (.bipush (-2), 2) := by decide +kernel
theorem dX6_spread_22 : decode cX6_spread 22 = .ok (.ireturn, 1) := by decide +kernel
theorem dX6_spread_23 : decode cX6_spread 23 = .ok (.aload_n 0, 1) := by decide +kernel
theorem dX6_spread_24 : decode cX6_spread 24 = .ok (.getfield 35, 3) := by decide +kernel
theorem dX6_spread_27 : decode cX6_spread 27 = .ok (.invokevirtual 161, 3) := by decide +kernel
theorem dX6_spread_30 : decode cX6_spread 30 = .ok (.pop, 1) := by decide +kernel
theorem dX6_spread_31 : decode cX6_spread 31 = .ok (.aload_n 0, 1) := by decide +kernel
theorem dX6_spread_32 : decode cX6_spread 32 = .ok (.getfield 35, 3) := by decide +kernel
theorem dX6_spread_35 : decode cX6_spread 35 = .ok (.invokevirtual 180, 3) := by decide +kernel
theorem dX6_spread_38 : decode cX6_spread 38 = .ok (.iload_n 2, 1) := by decide +kernel
theorem dX6_spread_39 : decode cX6_spread 39 = .ok (.ifCond .ne 14, 3) := by decide +kernel
theorem dX6_spread_42 : decode cX6_spread 42 = .ok (.aload_n 0, 1) := by decide +kernel
theorem dX6_spread_43 : decode cX6_spread 43 = .ok (.getfield 35, 3) := by decide +kernel
theorem dX6_spread_46 : decode cX6_spread 46 = .ok (.iload_n 1, 1) := by decide +kernel
theorem dX6_spread_47 : decode cX6_spread 47 = .ok (.invokevirtual 183, 3) := by decide +kernel
theorem dX6_spread_50 : decode cX6_spread 50 = .ok (.goto 11, 3) := by decide +kernel
theorem dX6_spread_53 : decode cX6_spread 53 = .ok (.aload_n 0, 1) := by decide +kernel
theorem dX6_spread_54 : decode cX6_spread 54 = .ok (.getfield 35, 3) := by decide +kernel
theorem dX6_spread_57 : decode cX6_spread 57 = .ok (.iload_n 1, 1) := by decide +kernel
theorem dX6_spread_58 : decode cX6_spread 58 = .ok (.invokevirtual 186, 3) := by decide +kernel
theorem dX6_spread_61 : decode cX6_spread 61 = .ok (.ireturn, 1) := by decide +kernel
theorem dX6_mean_0 : decode cX6_mean 0 = .ok (.iload_n 1, 1) := by decide +kernel
theorem dX6_mean_1 : decode cX6_mean 1 = .ok (.iconst 0, 1) := by decide +kernel
theorem dX6_mean_2 : decode cX6_mean 2 = .ok (.iconst 1, 1) := by decide +kernel
theorem dX6_mean_3 : decode cX6_mean 3 = .ok (.invokestatic 66, 3) := by decide +kernel
theorem dX6_mean_6 : decode cX6_mean 6 = .ok (.ifCond .ne 9, 3) := by decide +kernel
theorem dX6_mean_9 : decode cX6_mean 9 = .ok (.bipush (-2), 2) := by decide +kernel
theorem dX6_mean_11 : decode cX6_mean 11 = .ok (.invokestatic 189, 3) := by decide +kernel
theorem dX6_mean_14 : decode cX6_mean 14 = .ok (.lreturn, 1) := by decide +kernel
theorem dX6_mean_15 : decode cX6_mean 15 = .ok (.aload_n 0, 1) := by decide +kernel
theorem dX6_mean_16 : decode cX6_mean 16 = .ok (.getfield 35, 3) := by decide +kernel
theorem dX6_mean_19 : decode cX6_mean 19 = .ok (.invokevirtual 161, 3) := by decide +kernel
theorem dX6_mean_22 : decode cX6_mean 22 = .ok (.ifCond .ne 9, 3) := by decide +kernel
theorem dX6_mean_25 : decode cX6_mean 25 = .ok (.bipush (-3), 2) := by decide +kernel
theorem dX6_mean_27 : decode cX6_mean 27 = .ok (.invokestatic 189, 3) := by decide +kernel
theorem dX6_mean_30 : decode cX6_mean 30 = .ok (.lreturn, 1) := by decide +kernel
theorem dX6_mean_31 : decode cX6_mean 31 = .ok (.aload_n 0, 1) := by decide +kernel
theorem dX6_mean_32 : decode cX6_mean 32 = .ok (.getfield 35, 3) := by decide +kernel
theorem dX6_mean_35 : decode cX6_mean 35 = .ok (.invokevirtual 180, 3) := by decide +kernel
theorem dX6_mean_38 : decode cX6_mean 38 = .ok (.aload_n 0, 1) := by decide +kernel
theorem dX6_mean_39 : decode cX6_mean 39 = .ok (.getfield 35, 3) := by decide +kernel
theorem dX6_mean_42 : decode cX6_mean 42 = .ok (.invokevirtual 193, 3) := by decide +kernel
theorem dX6_mean_45 : decode cX6_mean 45 = .ok (.aload_n 0, 1) := by decide +kernel
theorem dX6_mean_46 : decode cX6_mean 46 = .ok (.getfield 35, 3) := by decide +kernel
theorem dX6_mean_49 : decode cX6_mean 49 = .ok (.sipush 999, 3) := by decide +kernel
theorem dX6_mean_52 : decode cX6_mean 52 = .ok (.invokevirtual 186, 3) := by decide +kernel
theorem dX6_mean_55 : decode cX6_mean 55 = .ok (.iload_n 1, 1) := by decide +kernel
theorem dX6_mean_56 : decode cX6_mean 56 = .ok (.invokestatic 197, 3) := by decide +kernel
theorem dX6_mean_59 : decode cX6_mean 59 = .ok (.lreturn, 1) := by decide +kernel
theorem dX6_leftOut_0 : decode cX6_leftOut 0 = .ok (.aload_n 0, 1) := by decide +kernel
theorem dX6_leftOut_1 : decode cX6_leftOut 1 = .ok (.getfield 35, 3) := by decide +kernel
theorem dX6_leftOut_4 : decode cX6_leftOut 4 = .ok (.invokevirtual 161, 3) := by decide +kernel
theorem dX6_leftOut_7 : decode cX6_leftOut 7 = .ok (.ifCond .eq 13, 3) := by decide +kernel
theorem dX6_leftOut_10 : decode cX6_leftOut 10 = .ok (.aload_n 0, 1) := by decide +kernel
theorem dX6_leftOut_11 : decode cX6_leftOut 11 = .ok (.getfield 35, 3) := by decide +kernel
theorem dX6_leftOut_14 : decode cX6_leftOut 14 = .ok (.invokevirtual 201, 3) := by decide +kernel
theorem dX6_leftOut_17 : decode cX6_leftOut 17 = .ok (.goto 5, 3) := by decide +kernel
theorem dX6_leftOut_20 : decode cX6_leftOut 20 = .ok (.bipush (-3), 2) := by decide +kernel
theorem dX6_leftOut_22 : decode cX6_leftOut 22 = .ok (.ireturn, 1) := by decide +kernel
theorem dX6_mended_0 : decode cX6_mended 0 = .ok (.iload_n 1, 1) := by decide +kernel
theorem dX6_mended_1 : decode cX6_mended 1 = .ok (.invokestatic 88, 3) := by decide +kernel
theorem dX6_mended_4 : decode cX6_mended 4 = .ok (.ifCond .ne 6, 3) := by decide +kernel
theorem dX6_mended_7 : decode cX6_mended 7 = .ok (.bipush (-2), 2) := by decide +kernel
theorem dX6_mended_9 : decode cX6_mended 9 = .ok (.ireturn, 1) := by decide +kernel
theorem dX6_mended_10 : decode cX6_mended 10 = .ok (.aload_n 0, 1) := by decide +kernel
theorem dX6_mended_11 : decode cX6_mended 11 = .ok (.getfield 35, 3) := by decide +kernel
theorem dX6_mended_14 : decode cX6_mended 14 = .ok (.invokevirtual 161, 3) := by decide +kernel
theorem dX6_mended_17 : decode cX6_mended 17 = .ok (.ifCond .eq 14, 3) := by decide +kernel
theorem dX6_mended_20 : decode cX6_mended 20 = .ok (.aload_n 0, 1) := by decide +kernel
theorem dX6_mended_21 : decode cX6_mended 21 = .ok (.getfield 48, 3) := by decide +kernel
theorem dX6_mended_24 : decode cX6_mended 24 = .ok (.iload_n 1, 1) := by decide +kernel
theorem dX6_mended_25 : decode cX6_mended 25 = .ok (.invokevirtual 204, 3) := by decide +kernel
theorem dX6_mended_28 : decode cX6_mended 28 = .ok (.goto 5, 3) := by decide +kernel
theorem dX6_mended_31 : decode cX6_mended 31 = .ok (.bipush (-3), 2) := by decide +kernel
theorem dX6_mended_33 : decode cX6_mended 33 = .ok (.ireturn, 1) := by decide +kernel
theorem dX6_phases_0 : decode cX6_phases 0 = .ok (.iload_n 1, 1) := by decide +kernel
theorem dX6_phases_1 : decode cX6_phases 1 = .ok (.iconst 1, 1) := by decide +kernel
theorem dX6_phases_2 : decode cX6_phases 2 = .ok (.bipush 8, 2) := by decide +kernel
theorem dX6_phases_4 : decode cX6_phases 4 = .ok (.invokestatic 66, 3) := by decide +kernel
theorem dX6_phases_7 : decode cX6_phases 7 = .ok (.ifCond .eq 16, 3) := by decide +kernel
theorem dX6_phases_10 : decode cX6_phases 10 = .ok (.iload_n 2, 1) := by decide +kernel
theorem dX6_phases_11 : decode cX6_phases 11 = .ok (.iconst (-1), 1) := by decide +kernel
theorem dX6_phases_12 : decode cX6_phases 12 = .ok (.if_icmp .eq 14, 3) := by decide +kernel
theorem dX6_phases_15 : decode cX6_phases 15 = .ok (.aload_n 0, 1) := by decide +kernel
theorem dX6_phases_16 : decode cX6_phases 16 = .ok (.iload_n 2, 1) := by decide +kernel
theorem dX6_phases_17 : decode cX6_phases 17 = .ok (.invokevirtual 81, 3) := by decide +kernel
theorem dX6_phases_20 : decode cX6_phases 20 = .ok (.ifCond .ne 6, 3) := by decide +kernel
theorem dX6_phases_23 : decode cX6_phases 23 = .ok (.bipush (-2), 2) := by decide +kernel
theorem dX6_phases_25 : decode cX6_phases 25 = .ok (.ireturn, 1) := by decide +kernel
theorem dX6_phases_26 : decode cX6_phases 26 = .ok (.iload_n 1, 1) := by decide +kernel
theorem dX6_phases_27 : decode cX6_phases 27 = .ok (.aload_n 0, 1) := by decide +kernel
theorem dX6_phases_28 : decode cX6_phases 28 = .ok (.getfield 12, 3) := by decide +kernel
theorem dX6_phases_31 : decode cX6_phases 31 = .ok (.getfield 70, 3) := by decide +kernel
theorem dX6_phases_34 : decode cX6_phases 34 = .ok (.if_icmp .gt 13, 3) := by decide +kernel
theorem dX6_phases_37 : decode cX6_phases 37 = .ok (.aload_n 0, 1) := by decide +kernel
theorem dX6_phases_38 : decode cX6_phases 38 = .ok (.getfield 35, 3) := by decide +kernel
theorem dX6_phases_41 : decode cX6_phases 41 = .ok (.invokevirtual 161, 3) := by decide +kernel
theorem dX6_phases_44 : decode cX6_phases 44 = .ok (.ifCond .ne 6, 3) := by decide +kernel
theorem dX6_phases_47 : decode cX6_phases 47 = .ok (.bipush (-3), 2) := by decide +kernel
theorem dX6_phases_49 : decode cX6_phases 49 = .ok (.ireturn, 1) := by decide +kernel
theorem dX6_phases_50 : decode cX6_phases 50 = .ok (.aload_n 0, 1) := by decide +kernel
theorem dX6_phases_51 : decode cX6_phases 51 = .ok (.getfield 48, 3) := by decide +kernel
theorem dX6_phases_54 : decode cX6_phases 54 = .ok (.iload_n 1, 1) := by decide +kernel
theorem dX6_phases_55 : decode cX6_phases 55 = .ok (.invokevirtual 207, 3) := by decide +kernel
theorem dX6_phases_58 : decode cX6_phases 58 = .ok (.istore_n 3, 1) := by decide +kernel
theorem dX6_phases_59 : decode cX6_phases 59 = .ok (.iload_n 2, 1) := by decide +kernel
theorem dX6_phases_60 : decode cX6_phases 60 = .ok (.iconst (-1), 1) := by decide +kernel
theorem dX6_phases_61 : decode cX6_phases 61 = .ok (.if_icmp .ne 14, 3) := by decide +kernel
theorem dX6_phases_64 : decode cX6_phases 64 = .ok (.aload_n 0, 1) := by decide +kernel
theorem dX6_phases_65 : decode cX6_phases 65 = .ok (.getfield 48, 3) := by decide +kernel
theorem dX6_phases_68 : decode cX6_phases 68 = .ok (.iload_n 3, 1) := by decide +kernel
theorem dX6_phases_69 : decode cX6_phases 69 = .ok (.invokevirtual 210, 3) := by decide +kernel
theorem dX6_phases_72 : decode cX6_phases 72 = .ok (.goto 12, 3) := by decide +kernel
theorem dX6_phases_75 : decode cX6_phases 75 = .ok (.aload_n 0, 1) := by decide +kernel
theorem dX6_phases_76 : decode cX6_phases 76 = .ok (.getfield 48, 3) := by decide +kernel
theorem dX6_phases_79 : decode cX6_phases 79 = .ok (.iload_n 2, 1) := by decide +kernel
theorem dX6_phases_80 : decode cX6_phases 80 = .ok (.iload_n 3, 1) := by decide +kernel
theorem dX6_phases_81 : decode cX6_phases 81 = .ok (.invokevirtual 213, 3) := by decide +kernel
theorem dX6_phases_84 : decode cX6_phases 84 = .ok (.ireturn, 1) := by decide +kernel
theorem dX6_years_0 : decode cX6_years 0 = .ok (.iload_n 1, 1) := by decide +kernel
theorem dX6_years_1 : decode cX6_years 1 = .ok (.iconst 0, 1) := by decide +kernel
theorem dX6_years_2 : decode cX6_years 2 = .ok (.iconst 1, 1) := by decide +kernel
theorem dX6_years_3 : decode cX6_years 3 = .ok (.invokestatic 66, 3) := by decide +kernel
theorem dX6_years_6 : decode cX6_years 6 = .ok (.ifCond .eq 34, 3) := by decide +kernel
theorem dX6_years_9 : decode cX6_years 9 = .ok (.iload_n 3, 1) := by decide +kernel
theorem dX6_years_10 : decode cX6_years 10 = .ok (.iconst 0, 1) := by decide +kernel
theorem dX6_years_11 : decode cX6_years 11 = .ok (.iconst 1, 1) := by decide +kernel
theorem dX6_years_12 : decode cX6_years 12 = .ok (.invokestatic 66, 3) := by decide +kernel
theorem dX6_years_15 : decode cX6_years 15 = .ok (.ifCond .eq 25, 3) := by decide +kernel
theorem dX6_years_18 : decode cX6_years 18 = .ok (.iload_n 1, 1) := by decide +kernel
theorem dX6_years_19 : decode cX6_years 19 = .ok (.ifCond .ne 14, 3) := by decide +kernel
theorem dX6_years_22 : decode cX6_years 22 = .ok (.aload_n 0, 1) := by decide +kernel
theorem dX6_years_23 : decode cX6_years 23 = .ok (.iload_n 2, 1) := by decide +kernel
theorem dX6_years_24 : decode cX6_years 24 = .ok (.invokevirtual 81, 3) := by decide +kernel
theorem dX6_years_27 : decode cX6_years 27 = .ok (.ifCond .eq 13, 3) := by decide +kernel
theorem dX6_years_30 : decode cX6_years 30 = .ok (.goto 13, 3) := by decide +kernel
theorem dX6_years_33 : decode cX6_years 33 = .ok (.iload_n 2, 1) := by decide +kernel
theorem dX6_years_34 : decode cX6_years 34 = .ok (.invokestatic 88, 3) := by decide +kernel
theorem dX6_years_37 : decode cX6_years 37 = .ok (.ifCond .ne 6, 3) := by decide +kernel
theorem dX6_years_40 : decode cX6_years 40 = .ok (.bipush (-2), 2) := by decide +kernel
theorem dX6_years_42 : decode cX6_years 42 = .ok (.ireturn, 1) := by decide +kernel
theorem dX6_years_43 : decode cX6_years 43 = .ok (.aload_n 0, 1) := by decide +kernel
theorem dX6_years_44 : decode cX6_years 44 = .ok (.getfield 35, 3) := by decide +kernel
theorem dX6_years_47 : decode cX6_years 47 = .ok (.invokevirtual 161, 3) := by decide +kernel
theorem dX6_years_50 : decode cX6_years 50 = .ok (.ifCond .ne 6, 3) := by decide +kernel
theorem dX6_years_53 : decode cX6_years 53 = .ok (.bipush (-3), 2) := by decide +kernel
theorem dX6_years_55 : decode cX6_years 55 = .ok (.ireturn, 1) := by decide +kernel
theorem dX6_years_56 : decode cX6_years 56 = .ok (.iload_n 1, 1) := by decide +kernel
theorem dX6_years_57 : decode cX6_years 57 = .ok (.ifCond .ne 13, 3) := by decide +kernel
theorem dX6_years_60 : decode cX6_years 60 = .ok (.aload_n 0, 1) := by decide +kernel
theorem dX6_years_61 : decode cX6_years 61 = .ok (.getfield 48, 3) := by decide +kernel
theorem dX6_years_64 : decode cX6_years 64 = .ok (.iload_n 2, 1) := by decide +kernel
theorem dX6_years_65 : decode cX6_years 65 = .ok (.iload_n 3, 1) := by decide +kernel
theorem dX6_years_66 : decode cX6_years 66 = .ok (.invokevirtual 216, 3) := by decide +kernel
theorem dX6_years_69 : decode cX6_years 69 = .ok (.ireturn, 1) := by decide +kernel
theorem dX6_years_70 : decode cX6_years 70 = .ok (.aload_n 0, 1) := by decide +kernel
theorem dX6_years_71 : decode cX6_years 71 = .ok (.getfield 12, 3) := by decide +kernel
theorem dX6_years_74 : decode cX6_years 74 = .ok (.invokevirtual 219, 3) := by decide +kernel
theorem dX6_years_77 : decode cX6_years 77 = .ok (.iload_n 2, 1) := by decide +kernel
theorem dX6_years_78 : decode cX6_years 78 = .ok (.ishr, 1) := by decide +kernel
theorem dX6_years_79 : decode cX6_years 79 = .ok (.iconst 1, 1) := by decide +kernel
theorem dX6_years_80 : decode cX6_years 80 = .ok (.iand, 1) := by decide +kernel
theorem dX6_years_81 : decode cX6_years 81 = .ok (.ifCond .ne 8, 3) := by decide +kernel
theorem dX6_years_84 : decode cX6_years 84 = .ok (.bipush (-3), 2) := by decide +kernel
theorem dX6_years_86 : decode cX6_years 86 = .ok (.goto 12, 3) := by decide +kernel
theorem dX6_years_89 : decode cX6_years 89 = .ok (.aload_n 0, 1) := by decide +kernel
theorem dX6_years_90 : decode cX6_years 90 = .ok (.getfield 48, 3) := by decide +kernel
theorem dX6_years_93 : decode cX6_years 93 = .ok (.iload_n 2, 1) := by decide +kernel
theorem dX6_years_94 : decode cX6_years 94 = .ok (.iload_n 3, 1) := by decide +kernel
theorem dX6_years_95 : decode cX6_years 95 = .ok (.invokevirtual 222, 3) := by decide +kernel
theorem dX6_years_98 : decode cX6_years 98 = .ok (.ireturn, 1) := by decide +kernel
theorem dX6_fresh_0 : decode cX6_fresh 0 = .ok (.iload_n 1, 1) := by decide +kernel
theorem dX6_fresh_1 : decode cX6_fresh 1 = .ok (.iconst 0, 1) := by decide +kernel
theorem dX6_fresh_2 : decode cX6_fresh 2 = .ok (.sipush 1023, 3) := by decide +kernel
theorem dX6_fresh_5 : decode cX6_fresh 5 = .ok (.invokestatic 66, 3) := by decide +kernel
theorem dX6_fresh_8 : decode cX6_fresh 8 = .ok (.ifCond .eq 12, 3) := by decide +kernel
theorem dX6_fresh_11 : decode cX6_fresh 11 = .ok (.iload_n 2, 1) := by decide +kernel
theorem dX6_fresh_12 : decode cX6_fresh 12 = .ok (.iconst 0, 1) := by decide +kernel
theorem dX6_fresh_13 : decode cX6_fresh 13 = .ok (.iconst 1, 1) := by decide +kernel
theorem dX6_fresh_14 : decode cX6_fresh 14 = .ok (.invokestatic 66, 3) := by decide +kernel
theorem dX6_fresh_17 : decode cX6_fresh 17 = .ok (.ifCond .ne 6, 3) := by decide +kernel
theorem dX6_fresh_20 : decode cX6_fresh 20 = .ok (.bipush (-2), 2) := by decide +kernel
theorem dX6_fresh_22 : decode cX6_fresh 22 = .ok (.ireturn, 1) := by decide +kernel
theorem dX6_fresh_23 : decode cX6_fresh 23 = .ok (.aload_n 0, 1) := by decide +kernel
theorem dX6_fresh_24 : decode cX6_fresh 24 = .ok (.getfield 35, 3) := by decide +kernel
theorem dX6_fresh_27 : decode cX6_fresh 27 = .ok (.invokevirtual 161, 3) := by decide +kernel
theorem dX6_fresh_30 : decode cX6_fresh 30 = .ok (.ifCond .ne 6, 3) := by decide +kernel
theorem dX6_fresh_33 : decode cX6_fresh 33 = .ok (.bipush (-3), 2) := by decide +kernel
theorem dX6_fresh_35 : decode cX6_fresh 35 = .ok (.ireturn, 1) := by decide +kernel
theorem dX6_fresh_36 : decode cX6_fresh 36 = .ok (.aload_n 0, 1) := by decide +kernel
theorem dX6_fresh_37 : decode cX6_fresh 37 = .ok (.getfield 48, 3) := by decide +kernel
theorem dX6_fresh_40 : decode cX6_fresh 40 = .ok (.iload_n 1, 1) := by decide +kernel
theorem dX6_fresh_41 : decode cX6_fresh 41 = .ok (.invokevirtual 225, 3) := by decide +kernel
theorem dX6_fresh_44 : decode cX6_fresh 44 = .ok (.istore_n 3, 1) := by decide +kernel
theorem dX6_fresh_45 : decode cX6_fresh 45 = .ok (.iload_n 2, 1) := by decide +kernel
theorem dX6_fresh_46 : decode cX6_fresh 46 = .ok (.ifCond .ne 15, 3) := by decide +kernel
theorem dX6_fresh_49 : decode cX6_fresh 49 = .ok (.aload_n 0, 1) := by decide +kernel
theorem dX6_fresh_50 : decode cX6_fresh 50 = .ok (.getfield 48, 3) := by decide +kernel
theorem dX6_fresh_53 : decode cX6_fresh 53 = .ok (.iload_n 1, 1) := by decide +kernel
theorem dX6_fresh_54 : decode cX6_fresh 54 = .ok (.iload_n 3, 1) := by decide +kernel
theorem dX6_fresh_55 : decode cX6_fresh 55 = .ok (.invokevirtual 228, 3) := by decide +kernel
theorem dX6_fresh_58 : decode cX6_fresh 58 = .ok (.goto 4, 3) := by decide +kernel
theorem dX6_fresh_61 : decode cX6_fresh 61 = .ok (.iload_n 3, 1) := by decide +kernel
theorem dX6_fresh_62 : decode cX6_fresh 62 = .ok (.ireturn, 1) := by decide +kernel
theorem dX6_alike_0 : decode cX6_alike 0 = .ok (.aload_n 0, 1) := by decide +kernel
theorem dX6_alike_1 : decode cX6_alike 1 = .ok (.iload_n 1, 1) := by decide +kernel
theorem dX6_alike_2 : decode cX6_alike 2 = .ok (.iload_n 2, 1) := by decide +kernel
theorem dX6_alike_3 : decode cX6_alike 3 = .ok (.invokevirtual 94, 3) := by decide +kernel
theorem dX6_alike_6 : decode cX6_alike 6 = .ok (.ifCond .eq 12, 3) := by decide +kernel
theorem dX6_alike_9 : decode cX6_alike 9 = .ok (.iload_n 3, 1) := by decide +kernel
theorem dX6_alike_10 : decode cX6_alike 10 = .ok (.iconst 0, 1) := by decide +kernel
theorem dX6_alike_11 : decode cX6_alike 11 = .ok (.iconst 1, 1) := by decide +kernel
theorem dX6_alike_12 : decode cX6_alike 12 = .ok (.invokestatic 66, 3) := by decide +kernel
theorem dX6_alike_15 : decode cX6_alike 15 = .ok (.ifCond .ne 9, 3) := by decide +kernel
theorem dX6_alike_18 : decode cX6_alike 18 = .ok (.bipush (-2), 2) := by decide +kernel
theorem dX6_alike_20 : decode cX6_alike 20 = .ok (.invokestatic 189, 3) := by decide +kernel
theorem dX6_alike_23 : decode cX6_alike 23 = .ok (.lreturn, 1) := by decide +kernel
theorem dX6_alike_24 : decode cX6_alike 24 = .ok (.aload_n 0, 1) := by decide +kernel
theorem dX6_alike_25 : decode cX6_alike 25 = .ok (.getfield 12, 3) := by decide +kernel
theorem dX6_alike_28 : decode cX6_alike 28 = .ok (.iload_n 1, 1) := by decide +kernel
theorem dX6_alike_29 : decode cX6_alike 29 = .ok (.iload_n 2, 1) := by decide +kernel
theorem dX6_alike_30 : decode cX6_alike 30 = .ok (.invokevirtual 231, 3) := by decide +kernel
theorem dX6_alike_33 : decode cX6_alike 33 = .ok (.istore 4, 2) := by decide +kernel
theorem dX6_alike_35 : decode cX6_alike 35 = .ok (.iload 4, 2) := by decide +kernel
theorem dX6_alike_37 : decode cX6_alike 37 = .ok (.ifCond .ne 11, 3) := by decide +kernel
theorem dX6_alike_40 : decode cX6_alike 40 = .ok (.bipush (-3), 2) := by decide +kernel
theorem dX6_alike_42 : decode cX6_alike 42 = .ok (.invokestatic 189, 3) := by decide +kernel
theorem dX6_alike_45 : decode cX6_alike 45 = .ok (.goto 18, 3) := by decide +kernel
theorem dX6_alike_48 : decode cX6_alike 48 = .ok (.aload_n 0, 1) := by decide +kernel
theorem dX6_alike_49 : decode cX6_alike 49 = .ok (.getfield 12, 3) := by decide +kernel
theorem dX6_alike_52 : decode cX6_alike 52 = .ok (.iload_n 1, 1) := by decide +kernel
theorem dX6_alike_53 : decode cX6_alike 53 = .ok (.iload_n 2, 1) := by decide +kernel
theorem dX6_alike_54 : decode cX6_alike 54 = .ok (.invokevirtual 234, 3) := by decide +kernel
theorem dX6_alike_57 : decode cX6_alike 57 = .ok (.iload 4, 2) := by decide +kernel
theorem dX6_alike_59 : decode cX6_alike 59 = .ok (.iload_n 3, 1) := by decide +kernel
theorem dX6_alike_60 : decode cX6_alike 60 = .ok (.invokestatic 197, 3) := by decide +kernel
theorem dX6_alike_63 : decode cX6_alike 63 = .ok (.lreturn, 1) := by decide +kernel
theorem dX6_nearest_0 : decode cX6_nearest 0 = .ok (.aload_n 0, 1) := by decide +kernel
theorem dX6_nearest_1 : decode cX6_nearest 1 = .ok (.iload_n 1, 1) := by decide +kernel
theorem dX6_nearest_2 : decode cX6_nearest 2 = .ok (.invokevirtual 81, 3) := by decide +kernel
theorem dX6_nearest_5 : decode cX6_nearest 5 = .ok (.ifCond .eq 14, 3) := by decide +kernel
theorem dX6_nearest_8 : decode cX6_nearest 8 = .ok (.aload_n 0, 1) := by decide +kernel
theorem dX6_nearest_9 : decode cX6_nearest 9 = .ok (.getfield 12, 3) := by decide +kernel
theorem dX6_nearest_12 : decode cX6_nearest 12 = .ok (.iload_n 1, 1) := by decide +kernel
theorem dX6_nearest_13 : decode cX6_nearest 13 = .ok (.invokevirtual 237, 3) := by decide +kernel
theorem dX6_nearest_16 : decode cX6_nearest 16 = .ok (.goto 5, 3) := by decide +kernel
theorem dX6_nearest_19 : decode cX6_nearest 19 = .ok (.bipush (-2), 2) := by decide +kernel
theorem dX6_nearest_21 : decode cX6_nearest 21 = .ok (.ireturn, 1) := by decide +kernel
theorem dX6_sheet_0 : decode cX6_sheet 0 = .ok (.iload_n 1, 1) := by decide +kernel
theorem dX6_sheet_1 : decode cX6_sheet 1 = .ok (.invokestatic 123, 3) := by decide +kernel
theorem dX6_sheet_4 : decode cX6_sheet 4 = .ok (.ifCond .eq 18, 3) := by decide +kernel
theorem dX6_sheet_7 : decode cX6_sheet 7 = .ok (.iload_n 2, 1) := by decide +kernel
theorem dX6_sheet_8 : decode cX6_sheet 8 = .ok (.iconst 0, 1) := by decide +kernel
theorem dX6_sheet_9 : decode cX6_sheet 9 = .ok (.iconst 2, 1) := by decide +kernel
theorem dX6_sheet_10 : decode cX6_sheet 10 = .ok (.invokestatic 66, 3) := by decide +kernel
theorem dX6_sheet_13 : decode cX6_sheet 13 = .ok (.ifCond .eq 9, 3) := by decide +kernel
theorem dX6_sheet_16 : decode cX6_sheet 16 = .ok (.iload_n 3, 1) := by decide +kernel
theorem dX6_sheet_17 : decode cX6_sheet 17 = .ok (.bipush 40, 2) := by decide +kernel
theorem dX6_sheet_19 : decode cX6_sheet 19 = .ok (.if_icmp .le 6, 3) := by decide +kernel
theorem dX6_sheet_22 : decode cX6_sheet 22 = .ok (.bipush (-2), 2) := by decide +kernel
theorem dX6_sheet_24 : decode cX6_sheet 24 = .ok (.ireturn, 1) := by decide +kernel
theorem dX6_sheet_25 : decode cX6_sheet 25 = .ok (.iload_n 3, 1) := by decide +kernel
theorem dX6_sheet_26 : decode cX6_sheet 26 = .ok (.ifCond .ge 9, 3) := by decide +kernel
theorem dX6_sheet_29 : decode cX6_sheet 29 = .ok (.aload_n 0, 1) := by decide +kernel
theorem dX6_sheet_30 : decode cX6_sheet 30 = .ok (.iconst 5, 1) := by decide +kernel
theorem dX6_sheet_31 : decode cX6_sheet 31 = .ok (.invokevirtual 129, 3) := by decide +kernel
theorem dX6_sheet_34 : decode cX6_sheet 34 = .ok (.ireturn, 1) := by decide +kernel
theorem dX6_sheet_35 : decode cX6_sheet 35 = .ok (.aload_n 0, 1) := by decide +kernel
theorem dX6_sheet_36 : decode cX6_sheet 36 = .ok (.getfield 54, 3) := by decide +kernel
theorem dX6_sheet_39 : decode cX6_sheet 39 = .ok (.iload_n 1, 1) := by decide +kernel
theorem dX6_sheet_40 : decode cX6_sheet 40 = .ok (.aaload, 1) := by decide +kernel
theorem dX6_sheet_41 : decode cX6_sheet 41 = .ok (.iload_n 2, 1) := by decide +kernel
theorem dX6_sheet_42 : decode cX6_sheet 42 = .ok (.iload_n 3, 1) := by decide +kernel
theorem dX6_sheet_43 : decode cX6_sheet 43 = .ok (.invokevirtual 240, 3) := by decide +kernel
theorem dX6_sheet_46 : decode cX6_sheet 46 = .ok (.iload_n 3, 1) := by decide +kernel
theorem dX6_sheet_47 : decode cX6_sheet 47 = .ok (.ireturn, 1) := by decide +kernel
theorem dX6_lose_0 : decode cX6_lose 0 = .ok (.iload_n 1, 1) := by decide +kernel
theorem dX6_lose_1 : decode cX6_lose 1 = .ok (.invokestatic 123, 3) := by decide +kernel
theorem dX6_lose_4 : decode cX6_lose 4 = .ok (.ifCond .ne 6, 3) := by decide +kernel
theorem dX6_lose_7 : decode cX6_lose 7 = .ok (.bipush (-2), 2) := by decide +kernel
theorem dX6_lose_9 : decode cX6_lose 9 = .ok (.ireturn, 1) := by decide +kernel
theorem dX6_lose_10 : decode cX6_lose 10 = .ok (.aload_n 0, 1) := by decide +kernel
theorem dX6_lose_11 : decode cX6_lose 11 = .ok (.getfield 54, 3) := by decide +kernel
theorem dX6_lose_14 : decode cX6_lose 14 = .ok (.iload_n 1, 1) := by decide +kernel
theorem dX6_lose_15 : decode cX6_lose 15 = .ok (.aaload, 1) := by decide +kernel
theorem dX6_lose_16 : decode cX6_lose 16 = .ok (.getfield 126, 3) := by decide +kernel
theorem dX6_lose_19 : decode cX6_lose 19 = .ok (.ifCond .eq 9, 3) := by decide +kernel
theorem dX6_lose_22 : decode cX6_lose 22 = .ok (.aload_n 0, 1) := by decide +kernel
theorem dX6_lose_23 : decode cX6_lose 23 = .ok (.iconst 1, 1) := by decide +kernel
theorem dX6_lose_24 : decode cX6_lose 24 = .ok (.invokevirtual 129, 3) := by decide +kernel
theorem dX6_lose_27 : decode cX6_lose 27 = .ok (.ireturn, 1) := by decide +kernel
theorem dX6_lose_28 : decode cX6_lose 28 = .ok (.aload_n 0, 1) := by decide +kernel
theorem dX6_lose_29 : decode cX6_lose 29 = .ok (.getfield 54, 3) := by decide +kernel
theorem dX6_lose_32 : decode cX6_lose 32 = .ok (.iload_n 1, 1) := by decide +kernel
theorem dX6_lose_33 : decode cX6_lose 33 = .ok (.aaload, 1) := by decide +kernel
theorem dX6_lose_34 : decode cX6_lose 34 = .ok (.iconst 1, 1) := by decide +kernel
theorem dX6_lose_35 : decode cX6_lose 35 = .ok (.putfield 126, 3) := by decide +kernel
theorem dX6_lose_38 : decode cX6_lose 38 = .ok (.aload_n 0, 1) := by decide +kernel
theorem dX6_lose_39 : decode cX6_lose 39 = .ok (.getfield 54, 3) := by decide +kernel
theorem dX6_lose_42 : decode cX6_lose 42 = .ok (.iload_n 1, 1) := by decide +kernel
theorem dX6_lose_43 : decode cX6_lose 43 = .ok (.aaload, 1) := by decide +kernel
theorem dX6_lose_44 : decode cX6_lose 44 = .ok (.getfield 142, 3) := by decide +kernel
theorem dX6_lose_47 : decode cX6_lose 47 = .ok (.ireturn, 1) := by decide +kernel
theorem dX6_put_0 : decode cX6_put 0 = .ok (.iload_n 1, 1) := by decide +kernel
theorem dX6_put_1 : decode cX6_put 1 = .ok (.invokestatic 123, 3) := by decide +kernel
theorem dX6_put_4 : decode cX6_put 4 = .ok (.ifCond .eq 12, 3) := by decide +kernel
theorem dX6_put_7 : decode cX6_put 7 = .ok (.iload_n 2, 1) := by decide +kernel
theorem dX6_put_8 : decode cX6_put 8 = .ok (.iconst 0, 1) := by decide +kernel
theorem dX6_put_9 : decode cX6_put 9 = .ok (.iconst 2, 1) := by decide +kernel
theorem dX6_put_10 : decode cX6_put 10 = .ok (.invokestatic 66, 3) := by decide +kernel
theorem dX6_put_13 : decode cX6_put 13 = .ok (.ifCond .ne 6, 3) := by decide +kernel
theorem dX6_put_16 : decode cX6_put 16 = .ok (.bipush (-2), 2) := by decide +kernel
theorem dX6_put_18 : decode cX6_put 18 = .ok (.ireturn, 1) := by decide +kernel
theorem dX6_put_19 : decode cX6_put 19 = .ok (.aload_n 0, 1) := by decide +kernel
theorem dX6_put_20 : decode cX6_put 20 = .ok (.getfield 54, 3) := by decide +kernel
theorem dX6_put_23 : decode cX6_put 23 = .ok (.iload_n 1, 1) := by decide +kernel
theorem dX6_put_24 : decode cX6_put 24 = .ok (.aaload, 1) := by decide +kernel
theorem dX6_put_25 : decode cX6_put 25 = .ok (.iload_n 2, 1) := by decide +kernel
theorem dX6_put_26 : decode cX6_put 26 = .ok (.iload_n 3, 1) := by decide +kernel
theorem dX6_put_27 : decode cX6_put 27 = .ok (.invokevirtual 244, 3) := by decide +kernel
theorem dX6_put_30 : decode cX6_put 30 = .ok (.istore 5, 2) := by decide +kernel
theorem dX6_put_32 : decode cX6_put 32 = .ok (.iload 5, 2) := by decide +kernel
theorem dX6_put_34 : decode cX6_put 34 = .ok (.ifCond .eq 10, 3) := by decide +kernel
theorem dX6_put_37 : decode cX6_put 37 = .ok (.aload_n 0, 1) := by decide +kernel
theorem dX6_put_38 : decode cX6_put 38 = .ok (.iload 5, 2) := by decide +kernel
theorem dX6_put_40 : decode cX6_put 40 = .ok (.invokevirtual 129, 3) := by decide +kernel
theorem dX6_put_43 : decode cX6_put 43 = .ok (.ireturn, 1) := by decide +kernel
theorem dX6_put_44 : decode cX6_put 44 = .ok (.aload_n 0, 1) := by decide +kernel
theorem dX6_put_45 : decode cX6_put 45 = .ok (.getfield 54, 3) := by decide +kernel
theorem dX6_put_48 : decode cX6_put 48 = .ok (.iload_n 1, 1) := by decide +kernel
theorem dX6_put_49 : decode cX6_put 49 = .ok (.aaload, 1) := by decide +kernel
theorem dX6_put_50 : decode cX6_put 50 = .ok (.iload_n 3, 1) := by decide +kernel
theorem dX6_put_51 : decode cX6_put 51 = .ok (.iload 4, 2) := by decide +kernel
theorem dX6_put_53 : decode cX6_put 53 = .ok (.invokevirtual 247, 3) := by decide +kernel
theorem dX6_put_56 : decode cX6_put 56 = .ok (.iconst 1, 1) := by decide +kernel
theorem dX6_put_57 : decode cX6_put 57 = .ok (.ireturn, 1) := by decide +kernel
theorem dX6_get_0 : decode cX6_get 0 = .ok (.iload_n 1, 1) := by decide +kernel
theorem dX6_get_1 : decode cX6_get 1 = .ok (.invokestatic 123, 3) := by decide +kernel
theorem dX6_get_4 : decode cX6_get 4 = .ok (.ifCond .eq 12, 3) := by decide +kernel
theorem dX6_get_7 : decode cX6_get 7 = .ok (.iload_n 2, 1) := by decide +kernel
theorem dX6_get_8 : decode cX6_get 8 = .ok (.iconst 0, 1) := by decide +kernel
theorem dX6_get_9 : decode cX6_get 9 = .ok (.iconst 2, 1) := by decide +kernel
theorem dX6_get_10 : decode cX6_get 10 = .ok (.invokestatic 66, 3) := by decide +kernel
theorem dX6_get_13 : decode cX6_get 13 = .ok (.ifCond .ne 6, 3) := by decide +kernel
theorem dX6_get_16 : decode cX6_get 16 = .ok (.ldc 250, 2) := by decide +kernel
theorem dX6_get_18 : decode cX6_get 18 = .ok (.ireturn, 1) := by decide +kernel
theorem dX6_get_19 : decode cX6_get 19 = .ok (.aload_n 0, 1) := by decide +kernel
theorem dX6_get_20 : decode cX6_get 20 = .ok (.getfield 54, 3) := by decide +kernel
theorem dX6_get_23 : decode cX6_get 23 = .ok (.iload_n 1, 1) := by decide +kernel
theorem dX6_get_24 : decode cX6_get 24 = .ok (.aaload, 1) := by decide +kernel
theorem dX6_get_25 : decode cX6_get 25 = .ok (.iload_n 2, 1) := by decide +kernel
theorem dX6_get_26 : decode cX6_get 26 = .ok (.iload_n 3, 1) := by decide +kernel
theorem dX6_get_27 : decode cX6_get 27 = .ok (.invokevirtual 244, 3) := by decide +kernel
theorem dX6_get_30 : decode cX6_get 30 = .ok (.istore 4, 2) := by decide +kernel
theorem dX6_get_32 : decode cX6_get 32 = .ok (.iload 4, 2) := by decide +kernel
theorem dX6_get_34 : decode cX6_get 34 = .ok (.ifCond .eq 12, 3) := by decide +kernel
theorem dX6_get_37 : decode cX6_get 37 = .ok (.aload_n 0, 1) := by decide +kernel
theorem dX6_get_38 : decode cX6_get 38 = .ok (.iload 4, 2) := by decide +kernel
theorem dX6_get_40 : decode cX6_get 40 = .ok (.putfield 62, 3) := by decide +kernel
theorem dX6_get_43 : decode cX6_get 43 = .ok (.ldc 250, 2) := by decide +kernel
theorem dX6_get_45 : decode cX6_get 45 = .ok (.ireturn, 1) := by decide +kernel
theorem dX6_get_46 : decode cX6_get 46 = .ok (.aload_n 0, 1) := by decide +kernel
theorem dX6_get_47 : decode cX6_get 47 = .ok (.getfield 54, 3) := by decide +kernel
theorem dX6_get_50 : decode cX6_get 50 = .ok (.iload_n 1, 1) := by decide +kernel
theorem dX6_get_51 : decode cX6_get 51 = .ok (.aaload, 1) := by decide +kernel
theorem dX6_get_52 : decode cX6_get 52 = .ok (.getfield 139, 3) := by decide +kernel
theorem dX6_get_55 : decode cX6_get 55 = .ok (.iload_n 3, 1) := by decide +kernel
theorem dX6_get_56 : decode cX6_get 56 = .ok (.iaload, 1) := by decide +kernel
theorem dX6_get_57 : decode cX6_get 57 = .ok (.ireturn, 1) := by decide +kernel
theorem dX6_copy_0 : decode cX6_copy 0 = .ok (.iload_n 1, 1) := by decide +kernel
theorem dX6_copy_1 : decode cX6_copy 1 = .ok (.invokestatic 123, 3) := by decide +kernel
theorem dX6_copy_4 : decode cX6_copy 4 = .ok (.ifCond .eq 10, 3) := by decide +kernel
theorem dX6_copy_7 : decode cX6_copy 7 = .ok (.iload_n 3, 1) := by decide +kernel
theorem dX6_copy_8 : decode cX6_copy 8 = .ok (.invokestatic 123, 3) := by decide +kernel
theorem dX6_copy_11 : decode cX6_copy 11 = .ok (.ifCond .ne 6, 3) := by decide +kernel
theorem dX6_copy_14 : decode cX6_copy 14 = .ok (.bipush (-2), 2) := by decide +kernel
theorem dX6_copy_16 : decode cX6_copy 16 = .ok (.ireturn, 1) := by decide +kernel
theorem dX6_copy_17 : decode cX6_copy 17 = .ok (.aload_n 0, 1) := by decide +kernel
theorem dX6_copy_18 : decode cX6_copy 18 = .ok (.getfield 54, 3) := by decide +kernel
theorem dX6_copy_21 : decode cX6_copy 21 = .ok (.iload_n 1, 1) := by decide +kernel
theorem dX6_copy_22 : decode cX6_copy 22 = .ok (.aaload, 1) := by decide +kernel
theorem dX6_copy_23 : decode cX6_copy 23 = .ok (.getfield 126, 3) := by decide +kernel
theorem dX6_copy_26 : decode cX6_copy 26 = .ok (.ifCond .ne 15, 3) := by decide +kernel
theorem dX6_copy_29 : decode cX6_copy 29 = .ok (.aload_n 0, 1) := by decide +kernel
theorem dX6_copy_30 : decode cX6_copy 30 = .ok (.getfield 54, 3) := by decide +kernel
theorem dX6_copy_33 : decode cX6_copy 33 = .ok (.iload_n 3, 1) := by decide +kernel
theorem dX6_copy_34 : decode cX6_copy 34 = .ok (.aaload, 1) := by decide +kernel
theorem dX6_copy_35 : decode cX6_copy 35 = .ok (.getfield 126, 3) := by decide +kernel
theorem dX6_copy_38 : decode cX6_copy 38 = .ok (.ifCond .eq 9, 3) := by decide +kernel
theorem dX6_copy_41 : decode cX6_copy 41 = .ok (.aload_n 0, 1) := by decide +kernel
theorem dX6_copy_42 : decode cX6_copy 42 = .ok (.iconst 1, 1) := by decide +kernel
theorem dX6_copy_43 : decode cX6_copy 43 = .ok (.invokevirtual 129, 3) := by decide +kernel
theorem dX6_copy_46 : decode cX6_copy 46 = .ok (.ireturn, 1) := by decide +kernel
theorem dX6_copy_47 : decode cX6_copy 47 = .ok (.aload_n 0, 1) := by decide +kernel
theorem dX6_copy_48 : decode cX6_copy 48 = .ok (.getfield 54, 3) := by decide +kernel
theorem dX6_copy_51 : decode cX6_copy 51 = .ok (.iload_n 1, 1) := by decide +kernel
theorem dX6_copy_52 : decode cX6_copy 52 = .ok (.aaload, 1) := by decide +kernel
theorem dX6_copy_53 : decode cX6_copy 53 = .ok (.getfield 251, 3) := by decide +kernel
theorem dX6_copy_56 : decode cX6_copy 56 = .ok (.aload_n 0, 1) := by decide +kernel
theorem dX6_copy_57 : decode cX6_copy 57 = .ok (.getfield 54, 3) := by decide +kernel
theorem dX6_copy_60 : decode cX6_copy 60 = .ok (.iload_n 3, 1) := by decide +kernel
theorem dX6_copy_61 : decode cX6_copy 61 = .ok (.aaload, 1) := by decide +kernel
theorem dX6_copy_62 : decode cX6_copy 62 = .ok (.getfield 251, 3) := by decide +kernel
theorem dX6_copy_65 : decode cX6_copy 65 = .ok (.if_icmp .eq 9, 3) := by decide +kernel
theorem dX6_copy_68 : decode cX6_copy 68 = .ok (.aload_n 0, 1) := by decide +kernel
theorem dX6_copy_69 : decode cX6_copy 69 = .ok (.iconst 4, 1) := by decide +kernel
theorem dX6_copy_70 : decode cX6_copy 70 = .ok (.invokevirtual 129, 3) := by decide +kernel
theorem dX6_copy_73 : decode cX6_copy 73 = .ok (.ireturn, 1) := by decide +kernel
theorem dX6_copy_74 : decode cX6_copy 74 = .ok (.aload_n 0, 1) := by decide +kernel
theorem dX6_copy_75 : decode cX6_copy 75 = .ok (.getfield 54, 3) := by decide +kernel
theorem dX6_copy_78 : decode cX6_copy 78 = .ok (.iload_n 1, 1) := by decide +kernel
theorem dX6_copy_79 : decode cX6_copy 79 = .ok (.aaload, 1) := by decide +kernel
theorem dX6_copy_80 : decode cX6_copy 80 = .ok (.iload_n 2, 1) := by decide +kernel
theorem dX6_copy_81 : decode cX6_copy 81 = .ok (.iload 5, 2) := by decide +kernel
theorem dX6_copy_83 : decode cX6_copy 83 = .ok (.invokevirtual 254, 3) := by decide +kernel
theorem dX6_copy_86 : decode cX6_copy 86 = .ok (.ifCond .eq 19, 3) := by decide +kernel
theorem dX6_copy_89 : decode cX6_copy 89 = .ok (.aload_n 0, 1) := by decide +kernel
theorem dX6_copy_90 : decode cX6_copy 90 = .ok (.getfield 54, 3) := by decide +kernel
theorem dX6_copy_93 : decode cX6_copy 93 = .ok (.iload_n 3, 1) := by decide +kernel
theorem dX6_copy_94 : decode cX6_copy 94 = .ok (.aaload, 1) := by decide +kernel
theorem dX6_copy_95 : decode cX6_copy 95 = .ok (.iload 4, 2) := by decide +kernel
theorem dX6_copy_97 : decode cX6_copy 97 = .ok (.iload 5, 2) := by decide +kernel
theorem dX6_copy_99 : decode cX6_copy 99 = .ok (.invokevirtual 254, 3) := by decide +kernel
theorem dX6_copy_102 : decode cX6_copy 102 = .ok (.ifCond .ne 9, 3) := by decide +kernel
theorem dX6_copy_105 : decode cX6_copy 105 = .ok (.aload_n 0, 1) := by decide +kernel
theorem dX6_copy_106 : decode cX6_copy 106 = .ok (.iconst 2, 1) := by decide +kernel
theorem dX6_copy_107 : decode cX6_copy 107 = .ok (.invokevirtual 129, 3) := by decide +kernel
theorem dX6_copy_110 : decode cX6_copy 110 = .ok (.ireturn, 1) := by decide +kernel
theorem dX6_copy_111 : decode cX6_copy 111 = .ok (.aload_n 0, 1) := by decide +kernel
theorem dX6_copy_112 : decode cX6_copy 112 = .ok (.getfield 54, 3) := by decide +kernel
theorem dX6_copy_115 : decode cX6_copy 115 = .ok (.iload_n 1, 1) := by decide +kernel
theorem dX6_copy_116 : decode cX6_copy 116 = .ok (.aaload, 1) := by decide +kernel
theorem dX6_copy_117 : decode cX6_copy 117 = .ok (.getfield 139, 3) := by decide +kernel
theorem dX6_copy_120 : decode cX6_copy 120 = .ok (.iload_n 2, 1) := by decide +kernel
theorem dX6_copy_121 : decode cX6_copy 121 = .ok (.aload_n 0, 1) := by decide +kernel
theorem dX6_copy_122 : decode cX6_copy 122 = .ok (.getfield 54, 3) := by decide +kernel
theorem dX6_copy_125 : decode cX6_copy 125 = .ok (.iload_n 3, 1) := by decide +kernel
theorem dX6_copy_126 : decode cX6_copy 126 = .ok (.aaload, 1) := by decide +kernel
theorem dX6_copy_127 : decode cX6_copy 127 = .ok (.getfield 139, 3) := by decide +kernel
theorem dX6_copy_130 : decode cX6_copy 130 = .ok (.iload 4, 2) := by decide +kernel
theorem dX6_copy_132 : decode cX6_copy 132 = .ok (.iload 5, 2) := by decide +kernel
theorem dX6_copy_134 : decode cX6_copy 134 = .ok (.invokestatic 257, 3) := by decide +kernel
theorem dX6_copy_137 : decode cX6_copy 137 = .ok (.iconst 1, 1) := by decide +kernel
theorem dX6_copy_138 : decode cX6_copy 138 = .ok (.ireturn, 1) := by decide +kernel
theorem dX6_write_0 : decode cX6_write 0 = .ok (.iload_n 1, 1) := by decide +kernel
theorem dX6_write_1 : decode cX6_write 1 = .ok (.invokestatic 123, 3) := by decide +kernel
theorem dX6_write_4 : decode cX6_write 4 = .ok (.ifCond .ne 6, 3) := by decide +kernel
theorem dX6_write_7 : decode cX6_write 7 = .ok (.bipush (-2), 2) := by decide +kernel
theorem dX6_write_9 : decode cX6_write 9 = .ok (.ireturn, 1) := by decide +kernel
theorem dX6_write_10 : decode cX6_write 10 = .ok (.aload_n 0, 1) := by decide +kernel
theorem dX6_write_11 : decode cX6_write 11 = .ok (.getfield 54, 3) := by decide +kernel
theorem dX6_write_14 : decode cX6_write 14 = .ok (.iload_n 1, 1) := by decide +kernel
theorem dX6_write_15 : decode cX6_write 15 = .ok (.aaload, 1) := by decide +kernel
theorem dX6_write_16 : decode cX6_write 16 = .ok (.getfield 126, 3) := by decide +kernel
theorem dX6_write_19 : decode cX6_write 19 = .ok (.ifCond .eq 9, 3) := by decide +kernel
theorem dX6_write_22 : decode cX6_write 22 = .ok (.aload_n 0, 1) := by decide +kernel
theorem dX6_write_23 : decode cX6_write 23 = .ok (.iconst 1, 1) := by decide +kernel
theorem dX6_write_24 : decode cX6_write 24 = .ok (.invokevirtual 129, 3) := by decide +kernel
theorem dX6_write_27 : decode cX6_write 27 = .ok (.ireturn, 1) := by decide +kernel
theorem dX6_write_28 : decode cX6_write 28 = .ok (.aload_n 0, 1) := by decide +kernel
theorem dX6_write_29 : decode cX6_write 29 = .ok (.getfield 35, 3) := by decide +kernel
theorem dX6_write_32 : decode cX6_write 32 = .ok (.invokevirtual 161, 3) := by decide +kernel
theorem dX6_write_35 : decode cX6_write 35 = .ok (.ifCond .ne 6, 3) := by decide +kernel
theorem dX6_write_38 : decode cX6_write 38 = .ok (.bipush (-3), 2) := by decide +kernel
theorem dX6_write_40 : decode cX6_write 40 = .ok (.ireturn, 1) := by decide +kernel
theorem dX6_write_41 : decode cX6_write 41 = .ok (.aload_n 0, 1) := by decide +kernel
theorem dX6_write_42 : decode cX6_write 42 = .ok (.getfield 54, 3) := by decide +kernel
theorem dX6_write_45 : decode cX6_write 45 = .ok (.iload_n 1, 1) := by decide +kernel
theorem dX6_write_46 : decode cX6_write 46 = .ok (.aaload, 1) := by decide +kernel
theorem dX6_write_47 : decode cX6_write 47 = .ok (.getfield 142, 3) := by decide +kernel
theorem dX6_write_50 : decode cX6_write 50 = .ok (.aload_n 0, 1) := by decide +kernel
theorem dX6_write_51 : decode cX6_write 51 = .ok (.getfield 12, 3) := by decide +kernel
theorem dX6_write_54 : decode cX6_write 54 = .ok (.getfield 70, 3) := by decide +kernel
theorem dX6_write_57 : decode cX6_write 57 = .ok (.invokestatic 263, 3) := by decide +kernel
theorem dX6_write_60 : decode cX6_write 60 = .ok (.istore_n 2, 1) := by decide +kernel
theorem dX6_write_61 : decode cX6_write 61 = .ok (.iconst 0, 1) := by decide +kernel
theorem dX6_write_62 : decode cX6_write 62 = .ok (.istore_n 3, 1) := by decide +kernel
theorem dX6_write_63 : decode cX6_write 63 = .ok (.iload_n 3, 1) := by decide +kernel
theorem dX6_write_64 : decode cX6_write 64 = .ok (.iload_n 2, 1) := by decide +kernel
theorem dX6_write_65 : decode cX6_write 65 = .ok (.if_icmp .ge 28, 3) := by decide +kernel
theorem dX6_write_68 : decode cX6_write 68 = .ok (.aload_n 0, 1) := by decide +kernel
theorem dX6_write_69 : decode cX6_write 69 = .ok (.getfield 54, 3) := by decide +kernel
theorem dX6_write_72 : decode cX6_write 72 = .ok (.iload_n 1, 1) := by decide +kernel
theorem dX6_write_73 : decode cX6_write 73 = .ok (.aaload, 1) := by decide +kernel
theorem dX6_write_74 : decode cX6_write 74 = .ok (.iload_n 3, 1) := by decide +kernel
theorem dX6_write_75 : decode cX6_write 75 = .ok (.aload_n 0, 1) := by decide +kernel
theorem dX6_write_76 : decode cX6_write 76 = .ok (.getfield 35, 3) := by decide +kernel
theorem dX6_write_79 : decode cX6_write 79 = .ok (.getfield 41, 3) := by decide +kernel
theorem dX6_write_82 : decode cX6_write 82 = .ok (.iload_n 3, 1) := by decide +kernel
theorem dX6_write_83 : decode cX6_write 83 = .ok (.iaload, 1) := by decide +kernel
theorem dX6_write_84 : decode cX6_write 84 = .ok (.invokevirtual 247, 3) := by decide +kernel
theorem dX6_write_87 : decode cX6_write 87 = .ok (.iinc 3 1, 3) := by decide +kernel
theorem dX6_write_90 : decode cX6_write 90 = .ok (.goto (-27), 3) := by decide +kernel
theorem dX6_write_93 : decode cX6_write 93 = .ok (.iload_n 2, 1) := by decide +kernel
theorem dX6_write_94 : decode cX6_write 94 = .ok (.ireturn, 1) := by decide +kernel
theorem dX6_count_0 : decode cX6_count 0 = .ok (.iload_n 1, 1) := by decide +kernel
theorem dX6_count_1 : decode cX6_count 1 = .ok (.tableswitch 117 0 8 #[51, 59, 67, 75, 83, 91, 99, 104, 112], 51) := by decide +kernel
theorem dX6_count_52 : decode cX6_count 52 = .ok (.aload_n 0, 1) := by decide +kernel
theorem dX6_count_53 : decode cX6_count 53 = .ok (.getfield 12, 3) := by decide +kernel
theorem dX6_count_56 : decode cX6_count 56 = .ok (.getfield 70, 3) := by decide +kernel
theorem dX6_count_59 : decode cX6_count 59 = .ok (.ireturn, 1) := by decide +kernel
theorem dX6_count_60 : decode cX6_count 60 = .ok (.aload_n 0, 1) := by decide +kernel
theorem dX6_count_61 : decode cX6_count 61 = .ok (.getfield 26, 3) := by decide +kernel
theorem dX6_count_64 : decode cX6_count 64 = .ok (.getfield 268, 3) := by decide +kernel
theorem dX6_count_67 : decode cX6_count 67 = .ok (.ireturn, 1) := by decide +kernel
theorem dX6_count_68 : decode cX6_count 68 = .ok (.aload_n 0, 1) := by decide +kernel
theorem dX6_count_69 : decode cX6_count 69 = .ok (.getfield 12, 3) := by decide +kernel
theorem dX6_count_72 : decode cX6_count 72 = .ok (.invokevirtual 219, 3) := by decide +kernel
theorem dX6_count_75 : decode cX6_count 75 = .ok (.ireturn, 1) := by decide +kernel
theorem dX6_count_76 : decode cX6_count 76 = .ok (.aload_n 0, 1) := by decide +kernel
theorem dX6_count_77 : decode cX6_count 77 = .ok (.getfield 12, 3) := by decide +kernel
theorem dX6_count_80 : decode cX6_count 80 = .ok (.invokevirtual 269, 3) := by decide +kernel
theorem dX6_count_83 : decode cX6_count 83 = .ok (.ireturn, 1) := by decide +kernel
theorem dX6_count_84 : decode cX6_count 84 = .ok (.aload_n 0, 1) := by decide +kernel
theorem dX6_count_85 : decode cX6_count 85 = .ok (.getfield 12, 3) := by decide +kernel
theorem dX6_count_88 : decode cX6_count 88 = .ok (.getfield 98, 3) := by decide +kernel
theorem dX6_count_91 : decode cX6_count 91 = .ok (.ireturn, 1) := by decide +kernel
theorem dX6_count_92 : decode cX6_count 92 = .ok (.aload_n 0, 1) := by decide +kernel
theorem dX6_count_93 : decode cX6_count 93 = .ok (.getfield 19, 3) := by decide +kernel
theorem dX6_count_96 : decode cX6_count 96 = .ok (.getfield 104, 3) := by decide +kernel
theorem dX6_count_99 : decode cX6_count 99 = .ok (.ireturn, 1) := by decide +kernel
theorem dX6_count_100 : decode cX6_count 100 = .ok (.aload_n 0, 1) := by decide +kernel
theorem dX6_count_101 : decode cX6_count 101 = .ok (.getfield 58, 3) := by decide +kernel
theorem dX6_count_104 : decode cX6_count 104 = .ok (.ireturn, 1) := by decide +kernel
theorem dX6_count_105 : decode cX6_count 105 = .ok (.aload_n 0, 1) := by decide +kernel
theorem dX6_count_106 : decode cX6_count 106 = .ok (.getfield 12, 3) := by decide +kernel
theorem dX6_count_109 : decode cX6_count 109 = .ok (.getfield 85, 3) := by decide +kernel
theorem dX6_count_112 : decode cX6_count 112 = .ok (.ireturn, 1) := by decide +kernel
theorem dX6_count_113 : decode cX6_count 113 = .ok (.aload_n 0, 1) := by decide +kernel
theorem dX6_count_114 : decode cX6_count 114 = .ok (.getfield 62, 3) := by decide +kernel
theorem dX6_count_117 : decode cX6_count 117 = .ok (.ireturn, 1) := by decide +kernel
theorem dX6_count_118 : decode cX6_count 118 = .ok (.bipush (-2), 2) := by decide +kernel
theorem dX6_count_120 : decode cX6_count 120 = .ok (.ireturn, 1) := by decide +kernel
theorem dX6_digest_0 : decode cX6_digest 0 = .ok (.ldc2_w 272, 3) := by decide +kernel
theorem dX6_digest_3 : decode cX6_digest 3 = .ok (.lstore_n 1, 1) := by decide +kernel
theorem dX6_digest_4 : decode cX6_digest 4 = .ok (.iconst 0, 1) := by decide +kernel
theorem dX6_digest_5 : decode cX6_digest 5 = .ok (.istore_n 3, 1) := by decide +kernel
theorem dX6_digest_6 : decode cX6_digest 6 = .ok (.iload_n 3, 1) := by decide +kernel
theorem dX6_digest_7 : decode cX6_digest 7 = .ok (.bipush 8, 2) := by decide +kernel
theorem dX6_digest_9 : decode cX6_digest 9 = .ok (.if_icmp .ge 22, 3) := by decide +kernel
theorem dX6_digest_12 : decode cX6_digest 12 = .ok (.ldc2_w 274, 3) := by decide +kernel
theorem dX6_digest_15 : decode cX6_digest 15 = .ok (.lload_n 1, 1) := by decide +kernel
theorem dX6_digest_16 : decode cX6_digest 16 = .ok (.lmul, 1) := by decide +kernel
theorem dX6_digest_17 : decode cX6_digest 17 = .ok (.aload_n 0, 1) := by decide +kernel
theorem dX6_digest_18 : decode cX6_digest 18 = .ok (.iload_n 3, 1) := by decide +kernel
theorem dX6_digest_19 : decode cX6_digest 19 = .ok (.invokevirtual 276, 3) := by decide +kernel
theorem dX6_digest_22 : decode cX6_digest 22 = .ok (.i2l, 1) := by decide +kernel
theorem dX6_digest_23 : decode cX6_digest 23 = .ok (.ladd, 1) := by decide +kernel
theorem dX6_digest_24 : decode cX6_digest 24 = .ok (.lstore_n 1, 1) := by decide +kernel
theorem dX6_digest_25 : decode cX6_digest 25 = .ok (.iinc 3 1, 3) := by decide +kernel
theorem dX6_digest_28 : decode cX6_digest 28 = .ok (.goto (-22), 3) := by decide +kernel
theorem dX6_digest_31 : decode cX6_digest 31 = .ok (.ldc2_w 274, 3) := by decide +kernel
theorem dX6_digest_34 : decode cX6_digest 34 = .ok (.lload_n 1, 1) := by decide +kernel
theorem dX6_digest_35 : decode cX6_digest 35 = .ok (.lmul, 1) := by decide +kernel
theorem dX6_digest_36 : decode cX6_digest 36 = .ok (.aload_n 0, 1) := by decide +kernel
theorem dX6_digest_37 : decode cX6_digest 37 = .ok (.invokevirtual 279, 3) := by decide +kernel
theorem dX6_digest_40 : decode cX6_digest 40 = .ok (.i2l, 1) := by decide +kernel
theorem dX6_digest_41 : decode cX6_digest 41 = .ok (.ladd, 1) := by decide +kernel
theorem dX6_digest_42 : decode cX6_digest 42 = .ok (.lstore_n 1, 1) := by decide +kernel
theorem dX6_digest_43 : decode cX6_digest 43 = .ok (.aload_n 0, 1) := by decide +kernel
theorem dX6_digest_44 : decode cX6_digest 44 = .ok (.aload_n 0, 1) := by decide +kernel
theorem dX6_digest_45 : decode cX6_digest 45 = .ok (.lload_n 1, 1) := by decide +kernel
theorem dX6_digest_46 : decode cX6_digest 46 = .ok (.invokevirtual 282, 3) := by decide +kernel
theorem dX6_digest_49 : decode cX6_digest 49 = .ok (.invokevirtual 286, 3) := by decide +kernel
theorem dX6_digest_52 : decode cX6_digest 52 = .ok (.lstore_n 1, 1) := by decide +kernel
theorem dX6_digest_53 : decode cX6_digest 53 = .ok (.iconst 0, 1) := by decide +kernel
theorem dX6_digest_54 : decode cX6_digest 54 = .ok (.istore_n 3, 1) := by decide +kernel
theorem dX6_digest_55 : decode cX6_digest 55 = .ok (.iload_n 3, 1) := by decide +kernel
theorem dX6_digest_56 : decode cX6_digest 56 = .ok (.bipush 10, 2) := by decide +kernel
theorem dX6_digest_58 : decode cX6_digest 58 = .ok (.if_icmp .ge 22, 3) := by decide +kernel
theorem dX6_digest_61 : decode cX6_digest 61 = .ok (.ldc2_w 274, 3) := by decide +kernel
theorem dX6_digest_64 : decode cX6_digest 64 = .ok (.lload_n 1, 1) := by decide +kernel
theorem dX6_digest_65 : decode cX6_digest 65 = .ok (.lmul, 1) := by decide +kernel
theorem dX6_digest_66 : decode cX6_digest 66 = .ok (.aload_n 0, 1) := by decide +kernel
theorem dX6_digest_67 : decode cX6_digest 67 = .ok (.iload_n 3, 1) := by decide +kernel
theorem dX6_digest_68 : decode cX6_digest 68 = .ok (.invokevirtual 289, 3) := by decide +kernel
theorem dX6_digest_71 : decode cX6_digest 71 = .ok (.i2l, 1) := by decide +kernel
theorem dX6_digest_72 : decode cX6_digest 72 = .ok (.ladd, 1) := by decide +kernel
theorem dX6_digest_73 : decode cX6_digest 73 = .ok (.lstore_n 1, 1) := by decide +kernel
theorem dX6_digest_74 : decode cX6_digest 74 = .ok (.iinc 3 1, 3) := by decide +kernel
theorem dX6_digest_77 : decode cX6_digest 77 = .ok (.goto (-22), 3) := by decide +kernel
theorem dX6_digest_80 : decode cX6_digest 80 = .ok (.lload_n 1, 1) := by decide +kernel
theorem dX6_digest_81 : decode cX6_digest 81 = .ok (.lreturn, 1) := by decide +kernel
theorem dX6_digestOfGraves_0 : decode cX6_digestOfGraves 0 = .ok (.lload_n 1, 1) := by decide +kernel
theorem dX6_digestOfGraves_1 : decode cX6_digestOfGraves 1 = .ok (.lstore_n 3, 1) := by decide +kernel
theorem dX6_digestOfGraves_2 : decode cX6_digestOfGraves 2 = .ok (.iconst 0, 1) := by decide +kernel
theorem dX6_digestOfGraves_3 : decode cX6_digestOfGraves 3 = .ok (.istore 5, 2) := by decide +kernel
theorem dX6_digestOfGraves_5 : decode cX6_digestOfGraves 5 = .ok (.iload 5, 2) := by decide +kernel
theorem dX6_digestOfGraves_7 : decode cX6_digestOfGraves 7 = .ok (.aload_n 0, 1) := by decide +kernel
theorem dX6_digestOfGraves_8 : decode cX6_digestOfGraves 8 = .ok (.getfield 12, 3) := by decide +kernel
theorem dX6_digestOfGraves_11 : decode cX6_digestOfGraves 11 = .ok (.getfield 70, 3) := by decide +kernel
theorem dX6_digestOfGraves_14 : decode cX6_digestOfGraves 14 = .ok (.if_icmp .ge 97, 3) := by decide +kernel
theorem dX6_digestOfGraves_17 : decode cX6_digestOfGraves 17 = .ok (.ldc2_w 274, 3) := by decide +kernel
theorem dX6_digestOfGraves_20 : decode cX6_digestOfGraves 20 = .ok (.lload_n 3, 1) := by decide +kernel
theorem dX6_digestOfGraves_21 : decode cX6_digestOfGraves 21 = .ok (.lmul, 1) := by decide +kernel
theorem dX6_digestOfGraves_22 : decode cX6_digestOfGraves 22 = .ok (.aload_n 0, 1) := by decide +kernel
theorem dX6_digestOfGraves_23 : decode cX6_digestOfGraves 23 = .ok (.iload 5, 2) := by decide +kernel
theorem dX6_digestOfGraves_25 : decode cX6_digestOfGraves 25 = .ok (.invokevirtual 292, 3) := by decide +kernel
theorem dX6_digestOfGraves_28 : decode cX6_digestOfGraves 28 = .ok (.i2l, 1) := by decide +kernel
theorem dX6_digestOfGraves_29 : decode cX6_digestOfGraves 29 = .ok (.ladd, 1) := by decide +kernel
theorem dX6_digestOfGraves_30 : decode cX6_digestOfGraves 30 = .ok (.lstore_n 3, 1) := by decide +kernel
theorem dX6_digestOfGraves_31 : decode cX6_digestOfGraves 31 = .ok (.ldc2_w 274, 3) := by decide +kernel
theorem dX6_digestOfGraves_34 : decode cX6_digestOfGraves 34 = .ok (.lload_n 3, 1) := by decide +kernel
theorem dX6_digestOfGraves_35 : decode cX6_digestOfGraves 35 = .ok (.lmul, 1) := by decide +kernel
theorem dX6_digestOfGraves_36 : decode cX6_digestOfGraves 36 = .ok (.aload_n 0, 1) := by decide +kernel
theorem dX6_digestOfGraves_37 : decode cX6_digestOfGraves 37 = .ok (.iload 5, 2) := by decide +kernel
theorem dX6_digestOfGraves_39 : decode cX6_digestOfGraves 39 = .ok (.invokevirtual 295, 3) := by decide +kernel
theorem dX6_digestOfGraves_42 : decode cX6_digestOfGraves 42 = .ok (.i2l, 1) := by decide +kernel
theorem dX6_digestOfGraves_43 : decode cX6_digestOfGraves 43 = .ok (.ladd, 1) := by decide +kernel
theorem dX6_digestOfGraves_44 : decode cX6_digestOfGraves 44 = .ok (.lstore_n 3, 1) := by decide +kernel
theorem dX6_digestOfGraves_45 : decode cX6_digestOfGraves 45 = .ok (.ldc2_w 274, 3) := by decide +kernel
theorem dX6_digestOfGraves_48 : decode cX6_digestOfGraves 48 = .ok (.lload_n 3, 1) := by decide +kernel
theorem dX6_digestOfGraves_49 : decode cX6_digestOfGraves 49 = .ok (.lmul, 1) := by decide +kernel
theorem dX6_digestOfGraves_50 : decode cX6_digestOfGraves 50 = .ok (.aload_n 0, 1) := by decide +kernel
theorem dX6_digestOfGraves_51 : decode cX6_digestOfGraves 51 = .ok (.iload 5, 2) := by decide +kernel
theorem dX6_digestOfGraves_53 : decode cX6_digestOfGraves 53 = .ok (.invokevirtual 298, 3) := by decide +kernel
theorem dX6_digestOfGraves_56 : decode cX6_digestOfGraves 56 = .ok (.i2l, 1) := by decide +kernel
theorem dX6_digestOfGraves_57 : decode cX6_digestOfGraves 57 = .ok (.ladd, 1) := by decide +kernel
theorem dX6_digestOfGraves_58 : decode cX6_digestOfGraves 58 = .ok (.lstore_n 3, 1) := by decide +kernel
theorem dX6_digestOfGraves_59 : decode cX6_digestOfGraves 59 = .ok (.ldc2_w 274, 3) := by decide +kernel
theorem dX6_digestOfGraves_62 : decode cX6_digestOfGraves 62 = .ok (.lload_n 3, 1) := by decide +kernel
theorem dX6_digestOfGraves_63 : decode cX6_digestOfGraves 63 = .ok (.lmul, 1) := by decide +kernel
theorem dX6_digestOfGraves_64 : decode cX6_digestOfGraves 64 = .ok (.aload_n 0, 1) := by decide +kernel
theorem dX6_digestOfGraves_65 : decode cX6_digestOfGraves 65 = .ok (.iconst 0, 1) := by decide +kernel
theorem dX6_digestOfGraves_66 : decode cX6_digestOfGraves 66 = .ok (.iload 5, 2) := by decide +kernel
theorem dX6_digestOfGraves_68 : decode cX6_digestOfGraves 68 = .ok (.iconst 0, 1) := by decide +kernel
theorem dX6_digestOfGraves_69 : decode cX6_digestOfGraves 69 = .ok (.invokevirtual 301, 3) := by decide +kernel
theorem dX6_digestOfGraves_72 : decode cX6_digestOfGraves 72 = .ok (.i2l, 1) := by decide +kernel
theorem dX6_digestOfGraves_73 : decode cX6_digestOfGraves 73 = .ok (.ladd, 1) := by decide +kernel
theorem dX6_digestOfGraves_74 : decode cX6_digestOfGraves 74 = .ok (.lstore_n 3, 1) := by decide +kernel
theorem dX6_digestOfGraves_75 : decode cX6_digestOfGraves 75 = .ok (.ldc2_w 274, 3) := by decide +kernel
theorem dX6_digestOfGraves_78 : decode cX6_digestOfGraves 78 = .ok (.lload_n 3, 1) := by decide +kernel
theorem dX6_digestOfGraves_79 : decode cX6_digestOfGraves 79 = .ok (.lmul, 1) := by decide +kernel
theorem dX6_digestOfGraves_80 : decode cX6_digestOfGraves 80 = .ok (.aload_n 0, 1) := by decide +kernel
theorem dX6_digestOfGraves_81 : decode cX6_digestOfGraves 81 = .ok (.iconst 0, 1) := by decide +kernel
theorem dX6_digestOfGraves_82 : decode cX6_digestOfGraves 82 = .ok (.iload 5, 2) := by decide +kernel
theorem dX6_digestOfGraves_84 : decode cX6_digestOfGraves 84 = .ok (.iconst 1, 1) := by decide +kernel
theorem dX6_digestOfGraves_85 : decode cX6_digestOfGraves 85 = .ok (.invokevirtual 301, 3) := by decide +kernel
theorem dX6_digestOfGraves_88 : decode cX6_digestOfGraves 88 = .ok (.i2l, 1) := by decide +kernel
theorem dX6_digestOfGraves_89 : decode cX6_digestOfGraves 89 = .ok (.ladd, 1) := by decide +kernel
theorem dX6_digestOfGraves_90 : decode cX6_digestOfGraves 90 = .ok (.lstore_n 3, 1) := by decide +kernel
theorem dX6_digestOfGraves_91 : decode cX6_digestOfGraves 91 = .ok (.ldc2_w 274, 3) := by decide +kernel
theorem dX6_digestOfGraves_94 : decode cX6_digestOfGraves 94 = .ok (.lload_n 3, 1) := by decide +kernel
theorem dX6_digestOfGraves_95 : decode cX6_digestOfGraves 95 = .ok (.lmul, 1) := by decide +kernel
theorem dX6_digestOfGraves_96 : decode cX6_digestOfGraves 96 = .ok (.aload_n 0, 1) := by decide +kernel
theorem dX6_digestOfGraves_97 : decode cX6_digestOfGraves 97 = .ok (.iload 5, 2) := by decide +kernel
theorem dX6_digestOfGraves_99 : decode cX6_digestOfGraves 99 = .ok (.invokevirtual 305, 3) := by decide +kernel
theorem dX6_digestOfGraves_102 : decode cX6_digestOfGraves 102 = .ok (.i2l, 1) := by decide +kernel
theorem dX6_digestOfGraves_103 : decode cX6_digestOfGraves 103 = .ok (.ladd, 1) := by decide +kernel
theorem dX6_digestOfGraves_104 : decode cX6_digestOfGraves 104 = .ok (.lstore_n 3, 1) := by decide +kernel
theorem dX6_digestOfGraves_105 : decode cX6_digestOfGraves 105 = .ok (.iinc 5 1, 3) := by decide +kernel
theorem dX6_digestOfGraves_108 : decode cX6_digestOfGraves 108 = .ok (.goto (-103), 3) := by decide +kernel
theorem dX6_digestOfGraves_111 : decode cX6_digestOfGraves 111 = .ok (.lload_n 3, 1) := by decide +kernel
theorem dX6_digestOfGraves_112 : decode cX6_digestOfGraves 112 = .ok (.lreturn, 1) := by decide +kernel
theorem dX6_digestOfOrders_0 : decode cX6_digestOfOrders 0 = .ok (.lload_n 1, 1) := by decide +kernel
theorem dX6_digestOfOrders_1 : decode cX6_digestOfOrders 1 = .ok (.lstore_n 3, 1) := by decide +kernel
theorem dX6_digestOfOrders_2 : decode cX6_digestOfOrders 2 = .ok (.iconst 0, 1) := by decide +kernel
theorem dX6_digestOfOrders_3 : decode cX6_digestOfOrders 3 = .ok (.istore 5, 2) := by decide +kernel
theorem dX6_digestOfOrders_5 : decode cX6_digestOfOrders 5 = .ok (.iload 5, 2) := by decide +kernel
theorem dX6_digestOfOrders_7 : decode cX6_digestOfOrders 7 = .ok (.iconst 3, 1) := by decide +kernel
theorem dX6_digestOfOrders_8 : decode cX6_digestOfOrders 8 = .ok (.if_icmp .ge 23, 3) := by decide +kernel
theorem dX6_digestOfOrders_11 : decode cX6_digestOfOrders 11 = .ok (.ldc2_w 274, 3) := by decide +kernel
theorem dX6_digestOfOrders_14 : decode cX6_digestOfOrders 14 = .ok (.lload_n 3, 1) := by decide +kernel
theorem dX6_digestOfOrders_15 : decode cX6_digestOfOrders 15 = .ok (.lmul, 1) := by decide +kernel
theorem dX6_digestOfOrders_16 : decode cX6_digestOfOrders 16 = .ok (.aload_n 0, 1) := by decide +kernel
theorem dX6_digestOfOrders_17 : decode cX6_digestOfOrders 17 = .ok (.iload 5, 2) := by decide +kernel
theorem dX6_digestOfOrders_19 : decode cX6_digestOfOrders 19 = .ok (.invokevirtual 308, 3) := by decide +kernel
theorem dX6_digestOfOrders_22 : decode cX6_digestOfOrders 22 = .ok (.i2l, 1) := by decide +kernel
theorem dX6_digestOfOrders_23 : decode cX6_digestOfOrders 23 = .ok (.ladd, 1) := by decide +kernel
theorem dX6_digestOfOrders_24 : decode cX6_digestOfOrders 24 = .ok (.lstore_n 3, 1) := by decide +kernel
theorem dX6_digestOfOrders_25 : decode cX6_digestOfOrders 25 = .ok (.iinc 5 1, 3) := by decide +kernel
theorem dX6_digestOfOrders_28 : decode cX6_digestOfOrders 28 = .ok (.goto (-23), 3) := by decide +kernel
theorem dX6_digestOfOrders_31 : decode cX6_digestOfOrders 31 = .ok (.ldc2_w 274, 3) := by decide +kernel
theorem dX6_digestOfOrders_34 : decode cX6_digestOfOrders 34 = .ok (.lload_n 3, 1) := by decide +kernel
theorem dX6_digestOfOrders_35 : decode cX6_digestOfOrders 35 = .ok (.lmul, 1) := by decide +kernel
theorem dX6_digestOfOrders_36 : decode cX6_digestOfOrders 36 = .ok (.aload_n 0, 1) := by decide +kernel
theorem dX6_digestOfOrders_37 : decode cX6_digestOfOrders 37 = .ok (.iconst 0, 1) := by decide +kernel
theorem dX6_digestOfOrders_38 : decode cX6_digestOfOrders 38 = .ok (.iconst 1, 1) := by decide +kernel
theorem dX6_digestOfOrders_39 : decode cX6_digestOfOrders 39 = .ok (.invokevirtual 311, 3) := by decide +kernel
theorem dX6_digestOfOrders_42 : decode cX6_digestOfOrders 42 = .ok (.i2l, 1) := by decide +kernel
theorem dX6_digestOfOrders_43 : decode cX6_digestOfOrders 43 = .ok (.ladd, 1) := by decide +kernel
theorem dX6_digestOfOrders_44 : decode cX6_digestOfOrders 44 = .ok (.lstore_n 3, 1) := by decide +kernel
theorem dX6_digestOfOrders_45 : decode cX6_digestOfOrders 45 = .ok (.ldc2_w 274, 3) := by decide +kernel
theorem dX6_digestOfOrders_48 : decode cX6_digestOfOrders 48 = .ok (.lload_n 3, 1) := by decide +kernel
theorem dX6_digestOfOrders_49 : decode cX6_digestOfOrders 49 = .ok (.lmul, 1) := by decide +kernel
theorem dX6_digestOfOrders_50 : decode cX6_digestOfOrders 50 = .ok (.aload_n 0, 1) := by decide +kernel
theorem dX6_digestOfOrders_51 : decode cX6_digestOfOrders 51 = .ok (.iconst 0, 1) := by decide +kernel
theorem dX6_digestOfOrders_52 : decode cX6_digestOfOrders 52 = .ok (.invokevirtual 314, 3) := by decide +kernel
theorem dX6_digestOfOrders_55 : decode cX6_digestOfOrders 55 = .ok (.ladd, 1) := by decide +kernel
theorem dX6_digestOfOrders_56 : decode cX6_digestOfOrders 56 = .ok (.lstore_n 3, 1) := by decide +kernel
theorem dX6_digestOfOrders_57 : decode cX6_digestOfOrders 57 = .ok (.ldc2_w 274, 3) := by decide +kernel
theorem dX6_digestOfOrders_60 : decode cX6_digestOfOrders 60 = .ok (.lload_n 3, 1) := by decide +kernel
theorem dX6_digestOfOrders_61 : decode cX6_digestOfOrders 61 = .ok (.lmul, 1) := by decide +kernel
theorem dX6_digestOfOrders_62 : decode cX6_digestOfOrders 62 = .ok (.aload_n 0, 1) := by decide +kernel
theorem dX6_digestOfOrders_63 : decode cX6_digestOfOrders 63 = .ok (.iconst 1, 1) := by decide +kernel
theorem dX6_digestOfOrders_64 : decode cX6_digestOfOrders 64 = .ok (.invokevirtual 314, 3) := by decide +kernel
theorem dX6_digestOfOrders_67 : decode cX6_digestOfOrders 67 = .ok (.ladd, 1) := by decide +kernel
theorem dX6_digestOfOrders_68 : decode cX6_digestOfOrders 68 = .ok (.lstore_n 3, 1) := by decide +kernel
theorem dX6_digestOfOrders_69 : decode cX6_digestOfOrders 69 = .ok (.ldc2_w 274, 3) := by decide +kernel
theorem dX6_digestOfOrders_72 : decode cX6_digestOfOrders 72 = .ok (.lload_n 3, 1) := by decide +kernel
theorem dX6_digestOfOrders_73 : decode cX6_digestOfOrders 73 = .ok (.lmul, 1) := by decide +kernel
theorem dX6_digestOfOrders_74 : decode cX6_digestOfOrders 74 = .ok (.aload_n 0, 1) := by decide +kernel
theorem dX6_digestOfOrders_75 : decode cX6_digestOfOrders 75 = .ok (.invokevirtual 317, 3) := by decide +kernel
theorem dX6_digestOfOrders_78 : decode cX6_digestOfOrders 78 = .ok (.i2l, 1) := by decide +kernel
theorem dX6_digestOfOrders_79 : decode cX6_digestOfOrders 79 = .ok (.ladd, 1) := by decide +kernel
theorem dX6_digestOfOrders_80 : decode cX6_digestOfOrders 80 = .ok (.lstore_n 3, 1) := by decide +kernel
theorem dX6_digestOfOrders_81 : decode cX6_digestOfOrders 81 = .ok (.ldc2_w 274, 3) := by decide +kernel
theorem dX6_digestOfOrders_84 : decode cX6_digestOfOrders 84 = .ok (.lload_n 3, 1) := by decide +kernel
theorem dX6_digestOfOrders_85 : decode cX6_digestOfOrders 85 = .ok (.lmul, 1) := by decide +kernel
theorem dX6_digestOfOrders_86 : decode cX6_digestOfOrders 86 = .ok (.aload_n 0, 1) := by decide +kernel
theorem dX6_digestOfOrders_87 : decode cX6_digestOfOrders 87 = .ok (.iconst 2, 1) := by decide +kernel
theorem dX6_digestOfOrders_88 : decode cX6_digestOfOrders 88 = .ok (.iconst (-1), 1) := by decide +kernel
theorem dX6_digestOfOrders_89 : decode cX6_digestOfOrders 89 = .ok (.invokevirtual 320, 3) := by decide +kernel
theorem dX6_digestOfOrders_92 : decode cX6_digestOfOrders 92 = .ok (.i2l, 1) := by decide +kernel
theorem dX6_digestOfOrders_93 : decode cX6_digestOfOrders 93 = .ok (.ladd, 1) := by decide +kernel
theorem dX6_digestOfOrders_94 : decode cX6_digestOfOrders 94 = .ok (.lreturn, 1) := by decide +kernel
theorem dX6_within_0 : decode cX6_within 0 = .ok (.iload_n 0, 1) := by decide +kernel
theorem dX6_within_1 : decode cX6_within 1 = .ok (.iload_n 1, 1) := by decide +kernel
theorem dX6_within_2 : decode cX6_within 2 = .ok (.if_icmp .lt 12, 3) := by decide +kernel
theorem dX6_within_5 : decode cX6_within 5 = .ok (.iload_n 0, 1) := by decide +kernel
theorem dX6_within_6 : decode cX6_within 6 = .ok (.iload_n 2, 1) := by decide +kernel
theorem dX6_within_7 : decode cX6_within 7 = .ok (.if_icmp .gt 7, 3) := by decide +kernel
theorem dX6_within_10 : decode cX6_within 10 = .ok (.iconst 1, 1) := by decide +kernel
theorem dX6_within_11 : decode cX6_within 11 = .ok (.goto 4, 3) := by decide +kernel
theorem dX6_within_14 : decode cX6_within 14 = .ok (.iconst 0, 1) := by decide +kernel
theorem dX6_within_15 : decode cX6_within 15 = .ok (.ireturn, 1) := by decide +kernel
theorem dX6_bit_0 : decode cX6_bit 0 = .ok (.iload_n 0, 1) := by decide +kernel
theorem dX6_bit_1 : decode cX6_bit 1 = .ok (.ifCond .eq 7, 3) := by decide +kernel
theorem dX6_bit_4 : decode cX6_bit 4 = .ok (.iconst 1, 1) := by decide +kernel
theorem dX6_bit_5 : decode cX6_bit 5 = .ok (.goto 4, 3) := by decide +kernel
theorem dX6_bit_8 : decode cX6_bit 8 = .ok (.iconst 0, 1) := by decide +kernel
theorem dX6_bit_9 : decode cX6_bit 9 = .ok (.ireturn, 1) := by decide +kernel
theorem dX6_longRefusal_0 : decode cX6_longRefusal 0 = .ok (.ldc2_w 323, 3) := by decide +kernel
theorem dX6_longRefusal_3 : decode cX6_longRefusal 3 = .ok (.iload_n 0, 1) := by decide +kernel
theorem dX6_longRefusal_4 : decode cX6_longRefusal 4 = .ok (.i2l, 1) := by decide +kernel
theorem dX6_longRefusal_5 : decode cX6_longRefusal 5 = .ok (.lsub, 1) := by decide +kernel
theorem dX6_longRefusal_6 : decode cX6_longRefusal 6 = .ok (.lreturn, 1) := by decide +kernel
theorem dX6_inLowestTerms_0 : decode cX6_inLowestTerms 0 = .ok (.iconst 1, 1) := by decide +kernel
theorem dX6_inLowestTerms_1 : decode cX6_inLowestTerms 1 = .ok (.iload_n 0, 1) := by decide +kernel
theorem dX6_inLowestTerms_2 : decode cX6_inLowestTerms 2 = .ok (.iload_n 1, 1) := by decide +kernel
theorem dX6_inLowestTerms_3 : decode cX6_inLowestTerms 3 = .ok (.invokestatic 325, 3) := by decide +kernel
theorem dX6_inLowestTerms_6 : decode cX6_inLowestTerms 6 = .ok (.invokestatic 328, 3) := by decide +kernel
theorem dX6_inLowestTerms_9 : decode cX6_inLowestTerms 9 = .ok (.istore_n 3, 1) := by decide +kernel
theorem dX6_inLowestTerms_10 : decode cX6_inLowestTerms 10 = .ok (.iload_n 2, 1) := by decide +kernel
theorem dX6_inLowestTerms_11 : decode cX6_inLowestTerms 11 = .ok (.ifCond .ne 7, 3) := by decide +kernel
theorem dX6_inLowestTerms_14 : decode cX6_inLowestTerms 14 = .ok (.iload_n 0, 1) := by decide +kernel
theorem dX6_inLowestTerms_15 : decode cX6_inLowestTerms 15 = .ok (.goto 4, 3) := by decide +kernel
theorem dX6_inLowestTerms_18 : decode cX6_inLowestTerms 18 = .ok (.iload_n 1, 1) := by decide +kernel
theorem dX6_inLowestTerms_19 : decode cX6_inLowestTerms 19 = .ok (.iload_n 3, 1) := by decide +kernel
theorem dX6_inLowestTerms_20 : decode cX6_inLowestTerms 20 = .ok (.idiv, 1) := by decide +kernel
theorem dX6_inLowestTerms_21 : decode cX6_inLowestTerms 21 = .ok (.i2l, 1) := by decide +kernel
theorem dX6_inLowestTerms_22 : decode cX6_inLowestTerms 22 = .ok (.lreturn, 1) := by decide +kernel
theorem dX6_commonDivisor_0 : decode cX6_commonDivisor 0 = .ok (.iload_n 0, 1) := by decide +kernel
theorem dX6_commonDivisor_1 : decode cX6_commonDivisor 1 = .ok (.istore_n 2, 1) := by decide +kernel
theorem dX6_commonDivisor_2 : decode cX6_commonDivisor 2 = .ok (.iload_n 1, 1) := by decide +kernel
theorem dX6_commonDivisor_3 : decode cX6_commonDivisor 3 = .ok (.istore_n 3, 1) := by decide +kernel
theorem dX6_commonDivisor_4 : decode cX6_commonDivisor 4 = .ok (.iconst 0, 1) := by decide +kernel
theorem dX6_commonDivisor_5 : decode cX6_commonDivisor 5 = .ok (.istore 4, 2) := by decide +kernel
theorem dX6_commonDivisor_7 : decode cX6_commonDivisor 7 = .ok (.iload 4, 2) := by decide +kernel
theorem dX6_commonDivisor_9 : decode cX6_commonDivisor 9 = .ok (.bipush 50, 2) := by decide +kernel
theorem dX6_commonDivisor_11 : decode cX6_commonDivisor 11 = .ok (.if_icmp .ge 23, 3) := by decide +kernel
theorem dX6_commonDivisor_14 : decode cX6_commonDivisor 14 = .ok (.iload_n 3, 1) := by decide +kernel
theorem dX6_commonDivisor_15 : decode cX6_commonDivisor 15 = .ok (.ifCond .eq 19, 3) := by decide +kernel
theorem dX6_commonDivisor_18 : decode cX6_commonDivisor 18 = .ok (.iload_n 2, 1) := by decide +kernel
theorem dX6_commonDivisor_19 : decode cX6_commonDivisor 19 = .ok (.iload_n 3, 1) := by decide +kernel
theorem dX6_commonDivisor_20 : decode cX6_commonDivisor 20 = .ok (.irem, 1) := by decide +kernel
theorem dX6_commonDivisor_21 : decode cX6_commonDivisor 21 = .ok (.istore 5, 2) := by decide +kernel
theorem dX6_commonDivisor_23 : decode cX6_commonDivisor 23 = .ok (.iload_n 3, 1) := by decide +kernel
theorem dX6_commonDivisor_24 : decode cX6_commonDivisor 24 = .ok (.istore_n 2, 1) := by decide +kernel
theorem dX6_commonDivisor_25 : decode cX6_commonDivisor 25 = .ok (.iload 5, 2) := by decide +kernel
theorem dX6_commonDivisor_27 : decode cX6_commonDivisor 27 = .ok (.istore_n 3, 1) := by decide +kernel
theorem dX6_commonDivisor_28 : decode cX6_commonDivisor 28 = .ok (.iinc 4 1, 3) := by decide +kernel
theorem dX6_commonDivisor_31 : decode cX6_commonDivisor 31 = .ok (.goto (-24), 3) := by decide +kernel
theorem dX6_commonDivisor_34 : decode cX6_commonDivisor 34 = .ok (.iload_n 2, 1) := by decide +kernel
theorem dX6_commonDivisor_35 : decode cX6_commonDivisor 35 = .ok (.ireturn, 1) := by decide +kernel
theorem dX6_isGrave_0 : decode cX6_isGrave 0 = .ok (.iload_n 1, 1) := by decide +kernel
theorem dX6_isGrave_1 : decode cX6_isGrave 1 = .ok (.iconst 0, 1) := by decide +kernel
theorem dX6_isGrave_2 : decode cX6_isGrave 2 = .ok (.aload_n 0, 1) := by decide +kernel
theorem dX6_isGrave_3 : decode cX6_isGrave 3 = .ok (.getfield 12, 3) := by decide +kernel
theorem dX6_isGrave_6 : decode cX6_isGrave 6 = .ok (.getfield 70, 3) := by decide +kernel
theorem dX6_isGrave_9 : decode cX6_isGrave 9 = .ok (.iconst 1, 1) := by decide +kernel
theorem dX6_isGrave_10 : decode cX6_isGrave 10 = .ok (.isub, 1) := by decide +kernel
theorem dX6_isGrave_11 : decode cX6_isGrave 11 = .ok (.invokestatic 66, 3) := by decide +kernel
theorem dX6_isGrave_14 : decode cX6_isGrave 14 = .ok (.ireturn, 1) := by decide +kernel
theorem dX6_isPair_0 : decode cX6_isPair 0 = .ok (.aload_n 0, 1) := by decide +kernel
theorem dX6_isPair_1 : decode cX6_isPair 1 = .ok (.iload_n 1, 1) := by decide +kernel
theorem dX6_isPair_2 : decode cX6_isPair 2 = .ok (.invokevirtual 81, 3) := by decide +kernel
theorem dX6_isPair_5 : decode cX6_isPair 5 = .ok (.ifCond .eq 20, 3) := by decide +kernel
theorem dX6_isPair_8 : decode cX6_isPair 8 = .ok (.aload_n 0, 1) := by decide +kernel
theorem dX6_isPair_9 : decode cX6_isPair 9 = .ok (.iload_n 2, 1) := by decide +kernel
theorem dX6_isPair_10 : decode cX6_isPair 10 = .ok (.invokevirtual 81, 3) := by decide +kernel
theorem dX6_isPair_13 : decode cX6_isPair 13 = .ok (.ifCond .eq 12, 3) := by decide +kernel
theorem dX6_isPair_16 : decode cX6_isPair 16 = .ok (.iload_n 1, 1) := by decide +kernel
theorem dX6_isPair_17 : decode cX6_isPair 17 = .ok (.iload_n 2, 1) := by decide +kernel
theorem dX6_isPair_18 : decode cX6_isPair 18 = .ok (.if_icmp .eq 7, 3) := by decide +kernel
theorem dX6_isPair_21 : decode cX6_isPair 21 = .ok (.iconst 1, 1) := by decide +kernel
theorem dX6_isPair_22 : decode cX6_isPair 22 = .ok (.goto 4, 3) := by decide +kernel
theorem dX6_isPair_25 : decode cX6_isPair 25 = .ok (.iconst 0, 1) := by decide +kernel
theorem dX6_isPair_26 : decode cX6_isPair 26 = .ok (.ireturn, 1) := by decide +kernel
theorem dX6_isKind_0 : decode cX6_isKind 0 = .ok (.iload_n 0, 1) := by decide +kernel
theorem dX6_isKind_1 : decode cX6_isKind 1 = .ok (.iconst 0, 1) := by decide +kernel
theorem dX6_isKind_2 : decode cX6_isKind 2 = .ok (.bipush 9, 2) := by decide +kernel
theorem dX6_isKind_4 : decode cX6_isKind 4 = .ok (.invokestatic 66, 3) := by decide +kernel
theorem dX6_isKind_7 : decode cX6_isKind 7 = .ok (.ireturn, 1) := by decide +kernel
theorem dX6_isSheet_0 : decode cX6_isSheet 0 = .ok (.iload_n 0, 1) := by decide +kernel
theorem dX6_isSheet_1 : decode cX6_isSheet 1 = .ok (.iconst 0, 1) := by decide +kernel
theorem dX6_isSheet_2 : decode cX6_isSheet 2 = .ok (.iconst 3, 1) := by decide +kernel
theorem dX6_isSheet_3 : decode cX6_isSheet 3 = .ok (.invokestatic 66, 3) := by decide +kernel
theorem dX6_isSheet_6 : decode cX6_isSheet 6 = .ok (.ireturn, 1) := by decide +kernel
theorem dX6_canTellAt_0 : decode cX6_canTellAt 0 = .ok (.iload_n 1, 1) := by decide +kernel
theorem dX6_canTellAt_1 : decode cX6_canTellAt 1 = .ok (.aload_n 0, 1) := by decide +kernel
theorem dX6_canTellAt_2 : decode cX6_canTellAt 2 = .ok (.getfield 26, 3) := by decide +kernel
theorem dX6_canTellAt_5 : decode cX6_canTellAt 5 = .ok (.invokevirtual 331, 3) := by decide +kernel
theorem dX6_canTellAt_8 : decode cX6_canTellAt 8 = .ok (.sipush 999, 3) := by decide +kernel
theorem dX6_canTellAt_11 : decode cX6_canTellAt 11 = .ok (.invokestatic 66, 3) := by decide +kernel
theorem dX6_canTellAt_14 : decode cX6_canTellAt 14 = .ok (.ireturn, 1) := by decide +kernel
theorem dX6_finding_0 : decode cX6_finding 0 = .ok (.aload_n 0, 1) := by decide +kernel
theorem dX6_finding_1 : decode cX6_finding 1 = .ok (.iload_n 1, 1) := by decide +kernel
theorem dX6_finding_2 : decode cX6_finding 2 = .ok (.putfield 62, 3) := by decide +kernel
theorem dX6_finding_5 : decode cX6_finding 5 = .ok (.bipush (-10), 2) := by decide +kernel
theorem dX6_finding_7 : decode cX6_finding 7 = .ok (.iload_n 1, 1) := by decide +kernel
theorem dX6_finding_8 : decode cX6_finding 8 = .ok (.isub, 1) := by decide +kernel
theorem dX6_finding_9 : decode cX6_finding 9 = .ok (.ireturn, 1) := by decide +kernel
theorem dX6_findsChanged_0 : decode cX6_findsChanged 0 = .ok (.aload_n 0, 1) := by decide +kernel
theorem dX6_findsChanged_1 : decode cX6_findsChanged 1 = .ok (.getfield 26, 3) := by decide +kernel
theorem dX6_findsChanged_4 : decode cX6_findsChanged 4 = .ok (.aload_n 0, 1) := by decide +kernel
theorem dX6_findsChanged_5 : decode cX6_findsChanged 5 = .ok (.getfield 12, 3) := by decide +kernel
theorem dX6_findsChanged_8 : decode cX6_findsChanged 8 = .ok (.getfield 136, 3) := by decide +kernel
theorem dX6_findsChanged_11 : decode cX6_findsChanged 11 = .ok (.aload_n 0, 1) := by decide +kernel
theorem dX6_findsChanged_12 : decode cX6_findsChanged 12 = .ok (.getfield 58, 3) := by decide +kernel
theorem dX6_findsChanged_15 : decode cX6_findsChanged 15 = .ok (.invokevirtual 334, 3) := by decide +kernel
theorem dX6_findsChanged_18 : decode cX6_findsChanged 18 = .ok (.aload_n 0, 1) := by decide +kernel
theorem dX6_findsChanged_19 : decode cX6_findsChanged 19 = .ok (.getfield 35, 3) := by decide +kernel
theorem dX6_findsChanged_22 : decode cX6_findsChanged 22 = .ok (.iconst 1, 1) := by decide +kernel
theorem dX6_findsChanged_23 : decode cX6_findsChanged 23 = .ok (.putfield 73, 3) := by decide +kernel
theorem dX6_findsChanged_26 : decode cX6_findsChanged 26 = .ok (.return_, 1) := by decide +kernel
theorem dX6_tellLine_0 : decode cX6_tellLine 0 = .ok (.iconst 0, 1) := by decide +kernel
theorem dX6_tellLine_1 : decode cX6_tellLine 1 = .ok (.istore_n 2, 1) := by decide +kernel
theorem dX6_tellLine_2 : decode cX6_tellLine 2 = .ok (.iconst 0, 1) := by decide +kernel
theorem dX6_tellLine_3 : decode cX6_tellLine 3 = .ok (.istore_n 3, 1) := by decide +kernel
theorem dX6_tellLine_4 : decode cX6_tellLine 4 = .ok (.iconst 0, 1) := by decide +kernel
theorem dX6_tellLine_5 : decode cX6_tellLine 5 = .ok (.istore 4, 2) := by decide +kernel
theorem dX6_tellLine_7 : decode cX6_tellLine 7 = .ok (.iconst 0, 1) := by decide +kernel
theorem dX6_tellLine_8 : decode cX6_tellLine 8 = .ok (.istore 5, 2) := by decide +kernel
theorem dX6_tellLine_10 : decode cX6_tellLine 10 = .ok (.iload 5, 2) := by decide +kernel
theorem dX6_tellLine_12 : decode cX6_tellLine 12 = .ok (.aload_n 0, 1) := by decide +kernel
theorem dX6_tellLine_13 : decode cX6_tellLine 13 = .ok (.getfield 19, 3) := by decide +kernel
theorem dX6_tellLine_16 : decode cX6_tellLine 16 = .ok (.getfield 104, 3) := by decide +kernel
theorem dX6_tellLine_19 : decode cX6_tellLine 19 = .ok (.if_icmp .ge 85, 3) := by decide +kernel
theorem dX6_tellLine_22 : decode cX6_tellLine 22 = .ok (.aload_n 0, 1) := by decide +kernel
theorem dX6_tellLine_23 : decode cX6_tellLine 23 = .ok (.getfield 19, 3) := by decide +kernel
theorem dX6_tellLine_26 : decode cX6_tellLine 26 = .ok (.getfield 107, 3) := by decide +kernel
theorem dX6_tellLine_29 : decode cX6_tellLine 29 = .ok (.iload 5, 2) := by decide +kernel
theorem dX6_tellLine_31 : decode cX6_tellLine 31 = .ok (.iaload, 1) := by decide +kernel
theorem dX6_tellLine_32 : decode cX6_tellLine 32 = .ok (.istore 6, 2) := by decide +kernel
theorem dX6_tellLine_34 : decode cX6_tellLine 34 = .ok (.iload_n 2, 1) := by decide +kernel
theorem dX6_tellLine_35 : decode cX6_tellLine 35 = .ok (.iload 6, 2) := by decide +kernel
theorem dX6_tellLine_37 : decode cX6_tellLine 37 = .ok (.aload_n 0, 1) := by decide +kernel
theorem dX6_tellLine_38 : decode cX6_tellLine 38 = .ok (.getfield 12, 3) := by decide +kernel
theorem dX6_tellLine_41 : decode cX6_tellLine 41 = .ok (.getfield 70, 3) := by decide +kernel
theorem dX6_tellLine_44 : decode cX6_tellLine 44 = .ok (.invokestatic 338, 3) := by decide +kernel
theorem dX6_tellLine_47 : decode cX6_tellLine 47 = .ok (.istore 7, 2) := by decide +kernel
theorem dX6_tellLine_49 : decode cX6_tellLine 49 = .ok (.iload_n 2, 1) := by decide +kernel
theorem dX6_tellLine_50 : decode cX6_tellLine 50 = .ok (.ifCond .ne 9, 3) := by decide +kernel
theorem dX6_tellLine_53 : decode cX6_tellLine 53 = .ok (.iload 6, 2) := by decide +kernel
theorem dX6_tellLine_55 : decode cX6_tellLine 55 = .ok (.bipush 48, 2) := by decide +kernel
theorem dX6_tellLine_57 : decode cX6_tellLine 57 = .ok (.isub, 1) := by decide +kernel
theorem dX6_tellLine_58 : decode cX6_tellLine 58 = .ok (.istore_n 3, 1) := by decide +kernel
theorem dX6_tellLine_59 : decode cX6_tellLine 59 = .ok (.iload 7, 2) := by decide +kernel
theorem dX6_tellLine_61 : decode cX6_tellLine 61 = .ok (.iconst 4, 1) := by decide +kernel
theorem dX6_tellLine_62 : decode cX6_tellLine 62 = .ok (.if_icmp .ne 33, 3) := by decide +kernel
theorem dX6_tellLine_65 : decode cX6_tellLine 65 = .ok (.aload_n 0, 1) := by decide +kernel
theorem dX6_tellLine_66 : decode cX6_tellLine 66 = .ok (.getfield 26, 3) := by decide +kernel
theorem dX6_tellLine_69 : decode cX6_tellLine 69 = .ok (.iload_n 1, 1) := by decide +kernel
theorem dX6_tellLine_70 : decode cX6_tellLine 70 = .ok (.iload_n 3, 1) := by decide +kernel
theorem dX6_tellLine_71 : decode cX6_tellLine 71 = .ok (.iload 6, 2) := by decide +kernel
theorem dX6_tellLine_73 : decode cX6_tellLine 73 = .ok (.bipush 48, 2) := by decide +kernel
theorem dX6_tellLine_75 : decode cX6_tellLine 75 = .ok (.isub, 1) := by decide +kernel
theorem dX6_tellLine_76 : decode cX6_tellLine 76 = .ok (.iload_n 2, 1) := by decide +kernel
theorem dX6_tellLine_77 : decode cX6_tellLine 77 = .ok (.iconst 2, 1) := by decide +kernel
theorem dX6_tellLine_78 : decode cX6_tellLine 78 = .ok (.if_icmp .ne 7, 3) := by decide +kernel
theorem dX6_tellLine_81 : decode cX6_tellLine 81 = .ok (.iconst 1, 1) := by decide +kernel
theorem dX6_tellLine_82 : decode cX6_tellLine 82 = .ok (.goto 4, 3) := by decide +kernel
theorem dX6_tellLine_85 : decode cX6_tellLine 85 = .ok (.iconst 0, 1) := by decide +kernel
theorem dX6_tellLine_86 : decode cX6_tellLine 86 = .ok (.invokevirtual 341, 3) := by decide +kernel
theorem dX6_tellLine_89 : decode cX6_tellLine 89 = .ok (.ifCond .eq 6, 3) := by decide +kernel
theorem dX6_tellLine_92 : decode cX6_tellLine 92 = .ok (.iinc 4 1, 3) := by decide +kernel
theorem dX6_tellLine_95 : decode cX6_tellLine 95 = .ok (.iload 7, 2) := by decide +kernel
theorem dX6_tellLine_97 : decode cX6_tellLine 97 = .ok (.istore_n 2, 1) := by decide +kernel
theorem dX6_tellLine_98 : decode cX6_tellLine 98 = .ok (.iinc 5 1, 3) := by decide +kernel
theorem dX6_tellLine_101 : decode cX6_tellLine 101 = .ok (.goto (-91), 3) := by decide +kernel
theorem dX6_tellLine_104 : decode cX6_tellLine 104 = .ok (.iload 4, 2) := by decide +kernel
theorem dX6_tellLine_106 : decode cX6_tellLine 106 = .ok (.ireturn, 1) := by decide +kernel
theorem dX6_tellSheet_0 : decode cX6_tellSheet 0 = .ok (.iconst 0, 1) := by decide +kernel
theorem dX6_tellSheet_1 : decode cX6_tellSheet 1 = .ok (.istore 4, 2) := by decide +kernel
theorem dX6_tellSheet_3 : decode cX6_tellSheet 3 = .ok (.iconst 0, 1) := by decide +kernel
theorem dX6_tellSheet_4 : decode cX6_tellSheet 4 = .ok (.istore 5, 2) := by decide +kernel
theorem dX6_tellSheet_6 : decode cX6_tellSheet 6 = .ok (.iload 5, 2) := by decide +kernel
theorem dX6_tellSheet_8 : decode cX6_tellSheet 8 = .ok (.bipush 10, 2) := by decide +kernel
theorem dX6_tellSheet_10 : decode cX6_tellSheet 10 = .ok (.if_icmp .ge 68, 3) := by decide +kernel
theorem dX6_tellSheet_13 : decode cX6_tellSheet 13 = .ok (.iload 5, 2) := by decide +kernel
theorem dX6_tellSheet_15 : decode cX6_tellSheet 15 = .ok (.aload_n 1, 1) := by decide +kernel
theorem dX6_tellSheet_16 : decode cX6_tellSheet 16 = .ok (.getfield 142, 3) := by decide +kernel
theorem dX6_tellSheet_19 : decode cX6_tellSheet 19 = .ok (.if_icmp .ge 59, 3) := by decide +kernel
theorem dX6_tellSheet_22 : decode cX6_tellSheet 22 = .ok (.aload_n 1, 1) := by decide +kernel
theorem dX6_tellSheet_23 : decode cX6_tellSheet 23 = .ok (.getfield 139, 3) := by decide +kernel
theorem dX6_tellSheet_26 : decode cX6_tellSheet 26 = .ok (.iload 5, 2) := by decide +kernel
theorem dX6_tellSheet_28 : decode cX6_tellSheet 28 = .ok (.iaload, 1) := by decide +kernel
theorem dX6_tellSheet_29 : decode cX6_tellSheet 29 = .ok (.istore 6, 2) := by decide +kernel
theorem dX6_tellSheet_31 : decode cX6_tellSheet 31 = .ok (.iload 6, 2) := by decide +kernel
theorem dX6_tellSheet_33 : decode cX6_tellSheet 33 = .ok (.iconst 0, 1) := by decide +kernel
theorem dX6_tellSheet_34 : decode cX6_tellSheet 34 = .ok (.iconst 1, 1) := by decide +kernel
theorem dX6_tellSheet_35 : decode cX6_tellSheet 35 = .ok (.invokestatic 66, 3) := by decide +kernel
theorem dX6_tellSheet_38 : decode cX6_tellSheet 38 = .ok (.ifCond .eq 40, 3) := by decide +kernel
theorem dX6_tellSheet_41 : decode cX6_tellSheet 41 = .ok (.aload_n 0, 1) := by decide +kernel
theorem dX6_tellSheet_42 : decode cX6_tellSheet 42 = .ok (.getfield 26, 3) := by decide +kernel
theorem dX6_tellSheet_45 : decode cX6_tellSheet 45 = .ok (.iload_n 3, 1) := by decide +kernel
theorem dX6_tellSheet_46 : decode cX6_tellSheet 46 = .ok (.iload_n 2, 1) := by decide +kernel
theorem dX6_tellSheet_47 : decode cX6_tellSheet 47 = .ok (.iload 5, 2) := by decide +kernel
theorem dX6_tellSheet_49 : decode cX6_tellSheet 49 = .ok (.iload 6, 2) := by decide +kernel
theorem dX6_tellSheet_51 : decode cX6_tellSheet 51 = .ok (.iconst 1, 1) := by decide +kernel
theorem dX6_tellSheet_52 : decode cX6_tellSheet 52 = .ok (.if_icmp .ne 7, 3) := by decide +kernel
theorem dX6_tellSheet_55 : decode cX6_tellSheet 55 = .ok (.iconst 1, 1) := by decide +kernel
theorem dX6_tellSheet_56 : decode cX6_tellSheet 56 = .ok (.goto 4, 3) := by decide +kernel
theorem dX6_tellSheet_59 : decode cX6_tellSheet 59 = .ok (.iconst 0, 1) := by decide +kernel
theorem dX6_tellSheet_60 : decode cX6_tellSheet 60 = .ok (.invokevirtual 341, 3) := by decide +kernel
theorem dX6_tellSheet_63 : decode cX6_tellSheet 63 = .ok (.ifCond .ne 6, 3) := by decide +kernel
theorem dX6_tellSheet_66 : decode cX6_tellSheet 66 = .ok (.goto 12, 3) := by decide +kernel
theorem dX6_tellSheet_69 : decode cX6_tellSheet 69 = .ok (.iinc 4 1, 3) := by decide +kernel
theorem dX6_tellSheet_72 : decode cX6_tellSheet 72 = .ok (.iinc 5 1, 3) := by decide +kernel
theorem dX6_tellSheet_75 : decode cX6_tellSheet 75 = .ok (.goto (-69), 3) := by decide +kernel
theorem dX6_tellSheet_78 : decode cX6_tellSheet 78 = .ok (.iload 4, 2) := by decide +kernel
theorem dX6_tellSheet_80 : decode cX6_tellSheet 80 = .ok (.ireturn, 1) := by decide +kernel
theorem dX7_init_0 : decode cX7_init 0 = .ok (.aload_n 0, 1) := by decide +kernel
theorem dX7_init_1 : decode cX7_init 1 = .ok (.invokespecial 1, 3) := by decide +kernel
theorem dX7_init_4 : decode cX7_init 4 = .ok (.aload_n 0, 1) := by decide +kernel
theorem dX7_init_5 : decode cX7_init 5 = .ok (.bipush 8, 2) := by decide +kernel
theorem dX7_init_7 : decode cX7_init 7 = .ok (.newarray .int, 2) := by decide +kernel
theorem dX7_init_9 : decode cX7_init 9 = .ok (.putfield 7, 3) := by decide +kernel
theorem dX7_init_12 : decode cX7_init 12 = .ok (.aload_n 0, 1) := by decide +kernel
theorem dX7_init_13 : decode cX7_init 13 = .ok (.bipush 8, 2) := by decide +kernel
theorem dX7_init_15 : decode cX7_init 15 = .ok (.newarray .int, 2) := by decide +kernel
theorem dX7_init_17 : decode cX7_init 17 = .ok (.putfield 13, 3) := by decide +kernel
theorem dX7_init_20 : decode cX7_init 20 = .ok (.aload_n 0, 1) := by decide +kernel
theorem dX7_init_21 : decode cX7_init 21 = .ok (.bipush 10, 2) := by decide +kernel
theorem dX7_init_23 : decode cX7_init 23 = .ok (.newarray .int, 2) := by decide +kernel
theorem dX7_init_25 : decode cX7_init 25 = .ok (.putfield 16, 3) := by decide +kernel
theorem dX7_init_28 : decode cX7_init 28 = .ok (.aload_n 0, 1) := by decide +kernel
theorem dX7_init_29 : decode cX7_init 29 = .ok (.bipush 16, 2) := by decide +kernel
theorem dX7_init_31 : decode cX7_init 31 = .ok (.newarray .int, 2) := by decide +kernel
theorem dX7_init_33 : decode cX7_init 33 = .ok (.putfield 19, 3) := by decide +kernel
theorem dX7_init_36 : decode cX7_init 36 = .ok (.aload_n 0, 1) := by decide +kernel
theorem dX7_init_37 : decode cX7_init 37 = .ok (.bipush 16, 2) := by decide +kernel
theorem dX7_init_39 : decode cX7_init 39 = .ok (.newarray .int, 2) := by decide +kernel
theorem dX7_init_41 : decode cX7_init 41 = .ok (.putfield 22, 3) := by decide +kernel
theorem dX7_init_44 : decode cX7_init 44 = .ok (.aload_n 0, 1) := by decide +kernel
theorem dX7_init_45 : decode cX7_init 45 = .ok (.bipush 60, 2) := by decide +kernel
theorem dX7_init_47 : decode cX7_init 47 = .ok (.newarray .int, 2) := by decide +kernel
theorem dX7_init_49 : decode cX7_init 49 = .ok (.putfield 25, 3) := by decide +kernel
theorem dX7_init_52 : decode cX7_init 52 = .ok (.aload_n 0, 1) := by decide +kernel
theorem dX7_init_53 : decode cX7_init 53 = .ok (.bipush 60, 2) := by decide +kernel
theorem dX7_init_55 : decode cX7_init 55 = .ok (.newarray .int, 2) := by decide +kernel
theorem dX7_init_57 : decode cX7_init 57 = .ok (.putfield 28, 3) := by decide +kernel
theorem dX7_init_60 : decode cX7_init 60 = .ok (.aload_n 0, 1) := by decide +kernel
theorem dX7_init_61 : decode cX7_init 61 = .ok (.bipush 60, 2) := by decide +kernel
theorem dX7_init_63 : decode cX7_init 63 = .ok (.newarray .int, 2) := by decide +kernel
theorem dX7_init_65 : decode cX7_init 65 = .ok (.putfield 31, 3) := by decide +kernel
theorem dX7_init_68 : decode cX7_init 68 = .ok (.aload_n 0, 1) := by decide +kernel
theorem dX7_init_69 : decode cX7_init 69 = .ok (.bipush 60, 2) := by decide +kernel
theorem dX7_init_71 : decode cX7_init 71 = .ok (.newarray .int, 2) := by decide +kernel
theorem dX7_init_73 : decode cX7_init 73 = .ok (.putfield 34, 3) := by decide +kernel
theorem dX7_init_76 : decode cX7_init 76 = .ok (.aload_n 0, 1) := by decide +kernel
theorem dX7_init_77 : decode cX7_init 77 = .ok (.sipush 999, 3) := by decide +kernel
theorem dX7_init_80 : decode cX7_init 80 = .ok (.putfield 37, 3) := by decide +kernel
theorem dX7_init_83 : decode cX7_init 83 = .ok (.aload_n 0, 1) := by decide +kernel
theorem dX7_init_84 : decode cX7_init 84 = .ok (.bipush 40, 2) := by decide +kernel
theorem dX7_init_86 : decode cX7_init 86 = .ok (.newarray .int, 2) := by decide +kernel
theorem dX7_init_88 : decode cX7_init 88 = .ok (.putfield 41, 3) := by decide +kernel
theorem dX7_init_91 : decode cX7_init 91 = .ok (.aload_n 0, 1) := by decide +kernel
theorem dX7_init_92 : decode cX7_init 92 = .ok (.bipush 40, 2) := by decide +kernel
theorem dX7_init_94 : decode cX7_init 94 = .ok (.newarray .int, 2) := by decide +kernel
theorem dX7_init_96 : decode cX7_init 96 = .ok (.putfield 44, 3) := by decide +kernel
theorem dX7_init_99 : decode cX7_init 99 = .ok (.aload_n 0, 1) := by decide +kernel
theorem dX7_init_100 : decode cX7_init 100 = .ok (.bipush 40, 2) := by decide +kernel
theorem dX7_init_102 : decode cX7_init 102 = .ok (.newarray .int, 2) := by decide +kernel
theorem dX7_init_104 : decode cX7_init 104 = .ok (.putfield 47, 3) := by decide +kernel
theorem dX7_init_107 : decode cX7_init 107 = .ok (.aload_n 0, 1) := by decide +kernel
theorem dX7_init_108 : decode cX7_init 108 = .ok (.bipush 40, 2) := by decide +kernel
theorem dX7_init_110 : decode cX7_init 110 = .ok (.newarray .int, 2) := by decide +kernel
theorem dX7_init_112 : decode cX7_init 112 = .ok (.putfield 50, 3) := by decide +kernel
theorem dX7_init_115 : decode cX7_init 115 = .ok (.aload_n 0, 1) := by decide +kernel
theorem dX7_init_116 : decode cX7_init 116 = .ok (.bipush 8, 2) := by decide +kernel
theorem dX7_init_118 : decode cX7_init 118 = .ok (.newarray .int, 2) := by decide +kernel
theorem dX7_init_120 : decode cX7_init 120 = .ok (.putfield 53, 3) := by decide +kernel
theorem dX7_init_123 : decode cX7_init 123 = .ok (.aload_n 0, 1) := by decide +kernel
theorem dX7_init_124 : decode cX7_init 124 = .ok (.bipush 8, 2) := by decide +kernel
theorem dX7_init_126 : decode cX7_init 126 = .ok (.newarray .int, 2) := by decide +kernel
theorem dX7_init_128 : decode cX7_init 128 = .ok (.putfield 56, 3) := by decide +kernel
theorem dX7_init_131 : decode cX7_init 131 = .ok (.aload_n 0, 1) := by decide +kernel
theorem dX7_init_132 : decode cX7_init 132 = .ok (.sipush 1000, 3) := by decide +kernel
theorem dX7_init_135 : decode cX7_init 135 = .ok (.newarray .int, 2) := by decide +kernel
theorem dX7_init_137 : decode cX7_init 137 = .ok (.putfield 59, 3) := by decide +kernel
theorem dX7_init_140 : decode cX7_init 140 = .ok (.aload_n 0, 1) := by decide +kernel
theorem dX7_init_141 : decode cX7_init 141 = .ok (.bipush 8, 2) := by decide +kernel
theorem dX7_init_143 : decode cX7_init 143 = .ok (.newarray .int, 2) := by decide +kernel
theorem dX7_init_145 : decode cX7_init 145 = .ok (.putfield 62, 3) := by decide +kernel
theorem dX7_init_148 : decode cX7_init 148 = .ok (.aload_n 0, 1) := by decide +kernel
theorem dX7_init_149 : decode cX7_init 149 = .ok (.bipush 8, 2) := by decide +kernel
theorem dX7_init_151 : decode cX7_init 151 = .ok (.newarray .int, 2) := by decide +kernel
theorem dX7_init_153 : decode cX7_init 153 = .ok (.putfield 65, 3) := by decide +kernel
theorem dX7_init_156 : decode cX7_init 156 = .ok (.aload_n 0, 1) := by decide +kernel
theorem dX7_init_157 : decode cX7_init 157 = .ok (.bipush 8, 2) := by decide +kernel
theorem dX7_init_159 : decode cX7_init 159 = .ok (.newarray .int, 2) := by decide +kernel
theorem dX7_init_161 : decode cX7_init 161 = .ok (.putfield 68, 3) := by decide +kernel
theorem dX7_init_164 : decode cX7_init 164 = .ok (.aload_n 0, 1) := by decide +kernel
theorem dX7_init_165 : decode cX7_init 165 = .ok (.bipush 8, 2) := by decide +kernel
theorem dX7_init_167 : decode cX7_init 167 = .ok (.newarray .int, 2) := by decide +kernel
theorem dX7_init_169 : decode cX7_init 169 = .ok (.putfield 71, 3) := by decide +kernel
theorem dX7_init_172 : decode cX7_init 172 = .ok (.aload_n 0, 1) := by decide +kernel
theorem dX7_init_173 : decode cX7_init 173 = .ok (.bipush 8, 2) := by decide +kernel
theorem dX7_init_175 : decode cX7_init 175 = .ok (.newarray .int, 2) := by decide +kernel
theorem dX7_init_177 : decode cX7_init 177 = .ok (.putfield 74, 3) := by decide +kernel
theorem dX7_init_180 : decode cX7_init 180 = .ok (.aload_n 0, 1) := by decide +kernel
theorem dX7_init_181 : decode cX7_init 181 = .ok (.iconst 4, 1) := by decide +kernel
theorem dX7_init_182 : decode cX7_init 182 = .ok (.newarray .boolean, 2) := by decide +kernel
theorem dX7_init_184 : decode cX7_init 184 = .ok (.putfield 77, 3) := by decide +kernel
theorem dX7_init_187 : decode cX7_init 187 = .ok (.aload_n 0, 1) := by decide +kernel
theorem dX7_init_188 : decode cX7_init 188 = .ok (.iconst 4, 1) := by decide +kernel
theorem dX7_init_189 : decode cX7_init 189 = .ok (.newarray .int, 2) := by decide +kernel
theorem dX7_init_191 : decode cX7_init 191 = .ok (.putfield 81, 3) := by decide +kernel
theorem dX7_init_194 : decode cX7_init 194 = .ok (.aload_n 0, 1) := by decide +kernel
theorem dX7_init_195 : decode cX7_init 195 = .ok (.iconst 4, 1) := by decide +kernel
theorem dX7_init_196 : decode cX7_init 196 = .ok (.newarray .int, 2) := by decide +kernel
theorem dX7_init_198 : decode cX7_init 198 = .ok (.putfield 84, 3) := by decide +kernel
theorem dX7_init_201 : decode cX7_init 201 = .ok (.aload_n 0, 1) := by decide +kernel
theorem dX7_init_202 : decode cX7_init 202 = .ok (.sipush 160, 3) := by decide +kernel
theorem dX7_init_205 : decode cX7_init 205 = .ok (.newarray .int, 2) := by decide +kernel
theorem dX7_init_207 : decode cX7_init 207 = .ok (.putfield 87, 3) := by decide +kernel
theorem dX7_init_210 : decode cX7_init 210 = .ok (.aload_n 0, 1) := by decide +kernel
theorem dX7_init_211 : decode cX7_init 211 = .ok (.bipush 40, 2) := by decide +kernel
theorem dX7_init_213 : decode cX7_init 213 = .ok (.newarray .int, 2) := by decide +kernel
theorem dX7_init_215 : decode cX7_init 215 = .ok (.putfield 90, 3) := by decide +kernel
theorem dX7_init_218 : decode cX7_init 218 = .ok (.iconst 0, 1) := by decide +kernel
theorem dX7_init_219 : decode cX7_init 219 = .ok (.istore_n 1, 1) := by decide +kernel
theorem dX7_init_220 : decode cX7_init 220 = .ok (.iload_n 1, 1) := by decide +kernel
theorem dX7_init_221 : decode cX7_init 221 = .ok (.bipush 10, 2) := by decide +kernel
theorem dX7_init_223 : decode cX7_init 223 = .ok (.if_icmp .ge 16, 3) := by decide +kernel
theorem dX7_init_226 : decode cX7_init 226 = .ok (.aload_n 0, 1) := by decide +kernel
theorem dX7_init_227 : decode cX7_init 227 = .ok (.getfield 16, 3) := by decide +kernel
theorem dX7_init_230 : decode cX7_init 230 = .ok (.iload_n 1, 1) := by decide +kernel
theorem dX7_init_231 : decode cX7_init 231 = .ok (.iconst 1, 1) := by decide +kernel
theorem dX7_init_232 : decode cX7_init 232 = .ok (.iastore, 1) := by decide +kernel
theorem dX7_init_233 : decode cX7_init 233 = .ok (.iinc 1 1, 3) := by decide +kernel
theorem dX7_init_236 : decode cX7_init 236 = .ok (.goto (-16), 3) := by decide +kernel
theorem dX7_init_239 : decode cX7_init 239 = .ok (.return_, 1) := by decide +kernel
theorem dX7_in_0 : decode cX7_in 0 = .ok (.iload_n 0, 1) := by decide +kernel
theorem dX7_in_1 : decode cX7_in 1 = .ok (.iload_n 1, 1) := by decide +kernel
theorem dX7_in_2 : decode cX7_in 2 = .ok (.if_icmp .lt 12, 3) := by decide +kernel
theorem dX7_in_5 : decode cX7_in 5 = .ok (.iload_n 0, 1) := by decide +kernel
theorem dX7_in_6 : decode cX7_in 6 = .ok (.iload_n 2, 1) := by decide +kernel
theorem dX7_in_7 : decode cX7_in 7 = .ok (.if_icmp .gt 7, 3) := by decide +kernel
theorem dX7_in_10 : decode cX7_in 10 = .ok (.iconst 1, 1) := by decide +kernel
theorem dX7_in_11 : decode cX7_in 11 = .ok (.goto 4, 3) := by decide +kernel
theorem dX7_in_14 : decode cX7_in 14 = .ok (.iconst 0, 1) := by decide +kernel
theorem dX7_in_15 : decode cX7_in 15 = .ok (.ireturn, 1) := by decide +kernel
theorem dX7_is_0 : decode cX7_is 0 = .ok (.iload_n 0, 1) := by decide +kernel
theorem dX7_is_1 : decode cX7_is 1 = .ok (.iload_n 1, 1) := by decide +kernel
theorem dX7_is_2 : decode cX7_is 2 = .ok (.ishr, 1) := by decide +kernel
theorem dX7_is_3 : decode cX7_is 3 = .ok (.iconst 1, 1) := by decide +kernel
theorem dX7_is_4 : decode cX7_is 4 = .ok (.iand, 1) := by decide +kernel
theorem dX7_is_5 : decode cX7_is 5 = .ok (.iconst 1, 1) := by decide +kernel
theorem dX7_is_6 : decode cX7_is 6 = .ok (.if_icmp .ne 7, 3) := by decide +kernel
theorem dX7_is_9 : decode cX7_is 9 = .ok (.iconst 1, 1) := by decide +kernel
theorem dX7_is_10 : decode cX7_is 10 = .ok (.goto 4, 3) := by decide +kernel
theorem dX7_is_13 : decode cX7_is 13 = .ok (.iconst 0, 1) := by decide +kernel
theorem dX7_is_14 : decode cX7_is 14 = .ok (.ireturn, 1) := by decide +kernel
theorem dX7_ones_0 : decode cX7_ones 0 = .ok (.iconst 0, 1) := by decide +kernel
theorem dX7_ones_1 : decode cX7_ones 1 = .ok (.istore_n 1, 1) := by decide +kernel
theorem dX7_ones_2 : decode cX7_ones 2 = .ok (.iconst 0, 1) := by decide +kernel
theorem dX7_ones_3 : decode cX7_ones 3 = .ok (.istore_n 2, 1) := by decide +kernel
theorem dX7_ones_4 : decode cX7_ones 4 = .ok (.iload_n 2, 1) := by decide +kernel
theorem dX7_ones_5 : decode cX7_ones 5 = .ok (.bipush 12, 2) := by decide +kernel
theorem dX7_ones_7 : decode cX7_ones 7 = .ok (.if_icmp .ge 17, 3) := by decide +kernel
theorem dX7_ones_10 : decode cX7_ones 10 = .ok (.iload_n 1, 1) := by decide +kernel
theorem dX7_ones_11 : decode cX7_ones 11 = .ok (.iload_n 0, 1) := by decide +kernel
theorem dX7_ones_12 : decode cX7_ones 12 = .ok (.iload_n 2, 1) := by decide +kernel
theorem dX7_ones_13 : decode cX7_ones 13 = .ok (.ishr, 1) := by decide +kernel
theorem dX7_ones_14 : decode cX7_ones 14 = .ok (.iconst 1, 1) := by decide +kernel
theorem dX7_ones_15 : decode cX7_ones 15 = .ok (.iand, 1) := by decide +kernel
theorem dX7_ones_16 : decode cX7_ones 16 = .ok (.iadd, 1) := by decide +kernel
theorem dX7_ones_17 : decode cX7_ones 17 = .ok (.istore_n 1, 1) := by decide +kernel
theorem dX7_ones_18 : decode cX7_ones 18 = .ok (.iinc 2 1, 3) := by decide +kernel
theorem dX7_ones_21 : decode cX7_ones 21 = .ok (.goto (-17), 3) := by decide +kernel
theorem dX7_ones_24 : decode cX7_ones 24 = .ok (.iload_n 1, 1) := by decide +kernel
theorem dX7_ones_25 : decode cX7_ones 25 = .ok (.ireturn, 1) := by decide +kernel
theorem dX7_no_0 : decode cX7_no 0 = .ok (.ldc2_w 93, 3) := by decide +kernel
theorem dX7_no_3 : decode cX7_no 3 = .ok (.iload_n 0, 1) := by decide +kernel
theorem dX7_no_4 : decode cX7_no 4 = .ok (.i2l, 1) := by decide +kernel
theorem dX7_no_5 : decode cX7_no 5 = .ok (.lsub, 1) := by decide +kernel
theorem dX7_no_6 : decode cX7_no 6 = .ok (.lreturn, 1) := by decide +kernel
theorem dX7_lowest_0 : decode cX7_lowest 0 = .ok (.lload_n 0, 1) := by decide +kernel
theorem dX7_lowest_1 : decode cX7_lowest 1 = .ok (.lstore 5, 2) := by decide +kernel
theorem dX7_lowest_3 : decode cX7_lowest 3 = .ok (.lload_n 2, 1) := by decide +kernel
theorem dX7_lowest_4 : decode cX7_lowest 4 = .ok (.lstore 7, 2) := by decide +kernel
theorem dX7_lowest_6 : decode cX7_lowest 6 = .ok (.lload 7, 2) := by decide +kernel
theorem dX7_lowest_8 : decode cX7_lowest 8 = .ok (.lconst 0, 1) := by decide +kernel
theorem dX7_lowest_9 : decode cX7_lowest 9 = .ok (.lcmp, 1) := by decide +kernel
theorem dX7_lowest_10 : decode cX7_lowest 10 = .ok (.ifCond .eq 21, 3) := by decide +kernel
theorem dX7_lowest_13 : decode cX7_lowest 13 = .ok (.lload 5, 2) := by decide +kernel
theorem dX7_lowest_15 : decode cX7_lowest 15 = .ok (.lload 7, 2) := by decide +kernel
theorem dX7_lowest_17 : decode cX7_lowest 17 = .ok (.lrem, 1) := by decide +kernel
theorem dX7_lowest_18 : decode cX7_lowest 18 = .ok (.lstore 9, 2) := by decide +kernel
theorem dX7_lowest_20 : decode cX7_lowest 20 = .ok (.lload 7, 2) := by decide +kernel
theorem dX7_lowest_22 : decode cX7_lowest 22 = .ok (.lstore 5, 2) := by decide +kernel
theorem dX7_lowest_24 : decode cX7_lowest 24 = .ok (.lload 9, 2) := by decide +kernel
theorem dX7_lowest_26 : decode cX7_lowest 26 = .ok (.lstore 7, 2) := by decide +kernel
theorem dX7_lowest_28 : decode cX7_lowest 28 = .ok (.goto (-22), 3) := by decide +kernel
theorem dX7_lowest_31 : decode cX7_lowest 31 = .ok (.iload 4, 2) := by decide +kernel
theorem dX7_lowest_33 : decode cX7_lowest 33 = .ok (.ifCond .ne 10, 3) := by decide +kernel
theorem dX7_lowest_36 : decode cX7_lowest 36 = .ok (.lload_n 0, 1) := by decide +kernel
theorem dX7_lowest_37 : decode cX7_lowest 37 = .ok (.lload 5, 2) := by decide +kernel
theorem dX7_lowest_39 : decode cX7_lowest 39 = .ok (.ldiv, 1) := by decide +kernel
theorem dX7_lowest_40 : decode cX7_lowest 40 = .ok (.goto 7, 3) := by decide +kernel
theorem dX7_lowest_43 : decode cX7_lowest 43 = .ok (.lload_n 2, 1) := by decide +kernel
theorem dX7_lowest_44 : decode cX7_lowest 44 = .ok (.lload 5, 2) := by decide +kernel
theorem dX7_lowest_46 : decode cX7_lowest 46 = .ok (.ldiv, 1) := by decide +kernel
theorem dX7_lowest_47 : decode cX7_lowest 47 = .ok (.lreturn, 1) := by decide +kernel
theorem dX7_isGrave_0 : decode cX7_isGrave 0 = .ok (.iload_n 1, 1) := by decide +kernel
theorem dX7_isGrave_1 : decode cX7_isGrave 1 = .ok (.iconst 0, 1) := by decide +kernel
theorem dX7_isGrave_2 : decode cX7_isGrave 2 = .ok (.aload_n 0, 1) := by decide +kernel
theorem dX7_isGrave_3 : decode cX7_isGrave 3 = .ok (.getfield 95, 3) := by decide +kernel
theorem dX7_isGrave_6 : decode cX7_isGrave 6 = .ok (.iconst 1, 1) := by decide +kernel
theorem dX7_isGrave_7 : decode cX7_isGrave 7 = .ok (.isub, 1) := by decide +kernel
theorem dX7_isGrave_8 : decode cX7_isGrave 8 = .ok (.invokestatic 98, 3) := by decide +kernel
theorem dX7_isGrave_11 : decode cX7_isGrave 11 = .ok (.ireturn, 1) := by decide +kernel
theorem dX7_isKind_0 : decode cX7_isKind 0 = .ok (.iload_n 0, 1) := by decide +kernel
theorem dX7_isKind_1 : decode cX7_isKind 1 = .ok (.iconst 0, 1) := by decide +kernel
theorem dX7_isKind_2 : decode cX7_isKind 2 = .ok (.bipush 9, 2) := by decide +kernel
theorem dX7_isKind_4 : decode cX7_isKind 4 = .ok (.invokestatic 98, 3) := by decide +kernel
theorem dX7_isKind_7 : decode cX7_isKind 7 = .ok (.ireturn, 1) := by decide +kernel
theorem dX7_grave_0 : decode cX7_grave 0 = .ok (.iload_n 1, 1) := by decide +kernel
theorem dX7_grave_1 : decode cX7_grave 1 = .ok (.iconst 0, 1) := by decide +kernel
theorem dX7_grave_2 : decode cX7_grave 2 = .ok (.bipush 99, 2) := by decide +kernel
theorem dX7_grave_4 : decode cX7_grave 4 = .ok (.invokestatic 98, 3) := by decide +kernel
theorem dX7_grave_7 : decode cX7_grave 7 = .ok (.ifCond .eq 13, 3) := by decide +kernel
theorem dX7_grave_10 : decode cX7_grave 10 = .ok (.iload_n 2, 1) := by decide +kernel
theorem dX7_grave_11 : decode cX7_grave 11 = .ok (.iload_n 1, 1) := by decide +kernel
theorem dX7_grave_12 : decode cX7_grave 12 = .ok (.bipush 99, 2) := by decide +kernel
theorem dX7_grave_14 : decode cX7_grave 14 = .ok (.invokestatic 98, 3) := by decide +kernel
theorem dX7_grave_17 : decode cX7_grave 17 = .ok (.ifCond .ne 6, 3) := by decide +kernel
theorem dX7_grave_20 : decode cX7_grave 20 = .ok (.bipush (-2), 2) := by decide +kernel
theorem dX7_grave_22 : decode cX7_grave 22 = .ok (.ireturn, 1) := by decide +kernel
theorem dX7_grave_23 : decode cX7_grave 23 = .ok (.aload_n 0, 1) := by decide +kernel
theorem dX7_grave_24 : decode cX7_grave 24 = .ok (.getfield 95, 3) := by decide +kernel
theorem dX7_grave_27 : decode cX7_grave 27 = .ok (.bipush 8, 2) := by decide +kernel
theorem dX7_grave_29 : decode cX7_grave 29 = .ok (.if_icmp .ne 6, 3) := by decide +kernel
theorem dX7_grave_32 : decode cX7_grave 32 = .ok (.bipush (-4), 2) := by decide +kernel
theorem dX7_grave_34 : decode cX7_grave 34 = .ok (.ireturn, 1) := by decide +kernel
theorem dX7_grave_35 : decode cX7_grave 35 = .ok (.aload_n 0, 1) := by decide +kernel
theorem dX7_grave_36 : decode cX7_grave 36 = .ok (.getfield 7, 3) := by decide +kernel
theorem dX7_grave_39 : decode cX7_grave 39 = .ok (.aload_n 0, 1) := by decide +kernel
theorem dX7_grave_40 : decode cX7_grave 40 = .ok (.getfield 95, 3) := by decide +kernel
theorem dX7_grave_43 : decode cX7_grave 43 = .ok (.iload_n 1, 1) := by decide +kernel
theorem dX7_grave_44 : decode cX7_grave 44 = .ok (.iastore, 1) := by decide +kernel
theorem dX7_grave_45 : decode cX7_grave 45 = .ok (.aload_n 0, 1) := by decide +kernel
theorem dX7_grave_46 : decode cX7_grave 46 = .ok (.getfield 13, 3) := by decide +kernel
theorem dX7_grave_49 : decode cX7_grave 49 = .ok (.aload_n 0, 1) := by decide +kernel
theorem dX7_grave_50 : decode cX7_grave 50 = .ok (.getfield 95, 3) := by decide +kernel
theorem dX7_grave_53 : decode cX7_grave 53 = .ok (.iload_n 2, 1) := by decide +kernel
theorem dX7_grave_54 : decode cX7_grave 54 = .ok (.iastore, 1) := by decide +kernel
theorem dX7_grave_55 : decode cX7_grave 55 = .ok (.aload_n 0, 1) := by decide +kernel
theorem dX7_grave_56 : decode cX7_grave 56 = .ok (.dup, 1) := by decide +kernel
theorem dX7_grave_57 : decode cX7_grave 57 = .ok (.getfield 95, 3) := by decide +kernel
theorem dX7_grave_60 : decode cX7_grave 60 = .ok (.iconst 1, 1) := by decide +kernel
theorem dX7_grave_61 : decode cX7_grave 61 = .ok (.iadd, 1) := by decide +kernel
theorem dX7_grave_62 : decode cX7_grave 62 = .ok (.putfield 95, 3) := by decide +kernel
theorem dX7_grave_65 : decode cX7_grave 65 = .ok (.aload_n 0, 1) := by decide +kernel
theorem dX7_grave_66 : decode cX7_grave 66 = .ok (.iconst 0, 1) := by decide +kernel
theorem dX7_grave_67 : decode cX7_grave 67 = .ok (.putfield 102, 3) := by decide +kernel
theorem dX7_grave_70 : decode cX7_grave 70 = .ok (.aload_n 0, 1) := by decide +kernel
theorem dX7_grave_71 : decode cX7_grave 71 = .ok (.getfield 95, 3) := by decide +kernel
theorem dX7_grave_74 : decode cX7_grave 74 = .ok (.iconst 1, 1) := by decide +kernel
theorem dX7_grave_75 : decode cX7_grave 75 = .ok (.isub, 1) := by decide +kernel
theorem dX7_grave_76 : decode cX7_grave 76 = .ok (.ireturn, 1) := by decide +kernel
theorem dX7_robbed_0 : decode cX7_robbed 0 = .ok (.aload_n 0, 1) := by decide +kernel
theorem dX7_robbed_1 : decode cX7_robbed 1 = .ok (.iload_n 1, 1) := by decide +kernel
theorem dX7_robbed_2 : decode cX7_robbed 2 = .ok (.invokevirtual 106, 3) := by decide +kernel
theorem dX7_robbed_5 : decode cX7_robbed 5 = .ok (.ifCond .eq 12, 3) := by decide +kernel
theorem dX7_robbed_8 : decode cX7_robbed 8 = .ok (.iload_n 2, 1) := by decide +kernel
theorem dX7_robbed_9 : decode cX7_robbed 9 = .ok (.iconst 0, 1) := by decide +kernel
theorem dX7_robbed_10 : decode cX7_robbed 10 = .ok (.iconst 1, 1) := by decide +kernel
theorem dX7_robbed_11 : decode cX7_robbed 11 = .ok (.invokestatic 98, 3) := by decide +kernel
theorem dX7_robbed_14 : decode cX7_robbed 14 = .ok (.ifCond .ne 6, 3) := by decide +kernel
theorem dX7_robbed_17 : decode cX7_robbed 17 = .ok (.bipush (-2), 2) := by decide +kernel
theorem dX7_robbed_19 : decode cX7_robbed 19 = .ok (.ireturn, 1) := by decide +kernel
theorem dX7_robbed_20 : decode cX7_robbed 20 = .ok (.aload_n 0, 1) := by decide +kernel
theorem dX7_robbed_21 : decode cX7_robbed 21 = .ok (.getfield 110, 3) := by decide +kernel
theorem dX7_robbed_24 : decode cX7_robbed 24 = .ok (.iload_n 1, 1) := by decide +kernel
theorem dX7_robbed_25 : decode cX7_robbed 25 = .ok (.ishr, 1) := by decide +kernel
theorem dX7_robbed_26 : decode cX7_robbed 26 = .ok (.iconst 1, 1) := by decide +kernel
theorem dX7_robbed_27 : decode cX7_robbed 27 = .ok (.iand, 1) := by decide +kernel
theorem dX7_robbed_28 : decode cX7_robbed 28 = .ok (.istore_n 3, 1) := by decide +kernel
theorem dX7_robbed_29 : decode cX7_robbed 29 = .ok (.aload_n 0, 1) := by decide +kernel
theorem dX7_robbed_30 : decode cX7_robbed 30 = .ok (.iload_n 2, 1) := by decide +kernel
theorem dX7_robbed_31 : decode cX7_robbed 31 = .ok (.iconst 1, 1) := by decide +kernel
theorem dX7_robbed_32 : decode cX7_robbed 32 = .ok (.if_icmp .ne 14, 3) := by decide +kernel
theorem dX7_robbed_35 : decode cX7_robbed 35 = .ok (.aload_n 0, 1) := by decide +kernel
theorem dX7_robbed_36 : decode cX7_robbed 36 = .ok (.getfield 110, 3) := by decide +kernel
theorem dX7_robbed_39 : decode cX7_robbed 39 = .ok (.iconst 1, 1) := by decide +kernel
theorem dX7_robbed_40 : decode cX7_robbed 40 = .ok (.iload_n 1, 1) := by decide +kernel
theorem dX7_robbed_41 : decode cX7_robbed 41 = .ok (.ishl, 1) := by decide +kernel
theorem dX7_robbed_42 : decode cX7_robbed 42 = .ok (.ior, 1) := by decide +kernel
theorem dX7_robbed_43 : decode cX7_robbed 43 = .ok (.goto 13, 3) := by decide +kernel
theorem dX7_robbed_46 : decode cX7_robbed 46 = .ok (.aload_n 0, 1) := by decide +kernel
theorem dX7_robbed_47 : decode cX7_robbed 47 = .ok (.getfield 110, 3) := by decide +kernel
theorem dX7_robbed_50 : decode cX7_robbed 50 = .ok (.iconst 1, 1) := by decide +kernel
theorem dX7_robbed_51 : decode cX7_robbed 51 = .ok (.iload_n 1, 1) := by decide +kernel
theorem dX7_robbed_52 : decode cX7_robbed 52 = .ok (.ishl, 1) := by decide +kernel
theorem dX7_robbed_53 : decode cX7_robbed 53 = .ok (.iconst (-1), 1) := by decide +kernel
theorem dX7_robbed_54 : decode cX7_robbed 54 = .ok (.ixor, 1) := by decide +kernel
theorem dX7_robbed_55 : decode cX7_robbed 55 = .ok (.iand, 1) := by decide +kernel
theorem dX7_robbed_56 : decode cX7_robbed 56 = .ok (.putfield 110, 3) := by decide +kernel
theorem dX7_robbed_59 : decode cX7_robbed 59 = .ok (.aload_n 0, 1) := by decide +kernel
theorem dX7_robbed_60 : decode cX7_robbed 60 = .ok (.iconst 0, 1) := by decide +kernel
theorem dX7_robbed_61 : decode cX7_robbed 61 = .ok (.putfield 102, 3) := by decide +kernel
theorem dX7_robbed_64 : decode cX7_robbed 64 = .ok (.iload_n 3, 1) := by decide +kernel
theorem dX7_robbed_65 : decode cX7_robbed 65 = .ok (.ireturn, 1) := by decide +kernel
theorem dX7_weight_0 : decode cX7_weight 0 = .ok (.iload_n 1, 1) := by decide +kernel
theorem dX7_weight_1 : decode cX7_weight 1 = .ok (.invokestatic 113, 3) := by decide +kernel
theorem dX7_weight_4 : decode cX7_weight 4 = .ok (.ifCond .eq 12, 3) := by decide +kernel
theorem dX7_weight_7 : decode cX7_weight 7 = .ok (.iload_n 2, 1) := by decide +kernel
theorem dX7_weight_8 : decode cX7_weight 8 = .ok (.iconst 0, 1) := by decide +kernel
theorem dX7_weight_9 : decode cX7_weight 9 = .ok (.iconst 3, 1) := by decide +kernel
theorem dX7_weight_10 : decode cX7_weight 10 = .ok (.invokestatic 98, 3) := by decide +kernel
theorem dX7_weight_13 : decode cX7_weight 13 = .ok (.ifCond .ne 6, 3) := by decide +kernel
theorem dX7_weight_16 : decode cX7_weight 16 = .ok (.bipush (-2), 2) := by decide +kernel
theorem dX7_weight_18 : decode cX7_weight 18 = .ok (.ireturn, 1) := by decide +kernel
theorem dX7_weight_19 : decode cX7_weight 19 = .ok (.aload_n 0, 1) := by decide +kernel
theorem dX7_weight_20 : decode cX7_weight 20 = .ok (.getfield 16, 3) := by decide +kernel
theorem dX7_weight_23 : decode cX7_weight 23 = .ok (.iload_n 1, 1) := by decide +kernel
theorem dX7_weight_24 : decode cX7_weight 24 = .ok (.iaload, 1) := by decide +kernel
theorem dX7_weight_25 : decode cX7_weight 25 = .ok (.istore_n 3, 1) := by decide +kernel
theorem dX7_weight_26 : decode cX7_weight 26 = .ok (.aload_n 0, 1) := by decide +kernel
theorem dX7_weight_27 : decode cX7_weight 27 = .ok (.getfield 16, 3) := by decide +kernel
theorem dX7_weight_30 : decode cX7_weight 30 = .ok (.iload_n 1, 1) := by decide +kernel
theorem dX7_weight_31 : decode cX7_weight 31 = .ok (.iload_n 2, 1) := by decide +kernel
theorem dX7_weight_32 : decode cX7_weight 32 = .ok (.iastore, 1) := by decide +kernel
theorem dX7_weight_33 : decode cX7_weight 33 = .ok (.aload_n 0, 1) := by decide +kernel
theorem dX7_weight_34 : decode cX7_weight 34 = .ok (.iconst 0, 1) := by decide +kernel
theorem dX7_weight_35 : decode cX7_weight 35 = .ok (.putfield 102, 3) := by decide +kernel
theorem dX7_weight_38 : decode cX7_weight 38 = .ok (.iload_n 3, 1) := by decide +kernel
theorem dX7_weight_39 : decode cX7_weight 39 = .ok (.ireturn, 1) := by decide +kernel
theorem dX7_over_0 : decode cX7_over 0 = .ok (.aload_n 0, 1) := by decide +kernel
theorem dX7_over_1 : decode cX7_over 1 = .ok (.iload_n 1, 1) := by decide +kernel
theorem dX7_over_2 : decode cX7_over 2 = .ok (.invokevirtual 106, 3) := by decide +kernel
theorem dX7_over_5 : decode cX7_over 5 = .ok (.ifCond .eq 16, 3) := by decide +kernel
theorem dX7_over_8 : decode cX7_over 8 = .ok (.aload_n 0, 1) := by decide +kernel
theorem dX7_over_9 : decode cX7_over 9 = .ok (.iload_n 2, 1) := by decide +kernel
theorem dX7_over_10 : decode cX7_over 10 = .ok (.invokevirtual 106, 3) := by decide +kernel
theorem dX7_over_13 : decode cX7_over 13 = .ok (.ifCond .eq 8, 3) := by decide +kernel
theorem dX7_over_16 : decode cX7_over 16 = .ok (.iload_n 1, 1) := by decide +kernel
theorem dX7_over_17 : decode cX7_over 17 = .ok (.iload_n 2, 1) := by decide +kernel
theorem dX7_over_18 : decode cX7_over 18 = .ok (.if_icmp .ne 6, 3) := by decide +kernel
theorem dX7_over_21 : decode cX7_over 21 = .ok (.bipush (-2), 2) := by decide +kernel
theorem dX7_over_23 : decode cX7_over 23 = .ok (.ireturn, 1) := by decide +kernel
theorem dX7_over_24 : decode cX7_over 24 = .ok (.aload_n 0, 1) := by decide +kernel
theorem dX7_over_25 : decode cX7_over 25 = .ok (.getfield 116, 3) := by decide +kernel
theorem dX7_over_28 : decode cX7_over 28 = .ok (.bipush 16, 2) := by decide +kernel
theorem dX7_over_30 : decode cX7_over 30 = .ok (.if_icmp .ne 6, 3) := by decide +kernel
theorem dX7_over_33 : decode cX7_over 33 = .ok (.bipush (-4), 2) := by decide +kernel
theorem dX7_over_35 : decode cX7_over 35 = .ok (.ireturn, 1) := by decide +kernel
theorem dX7_over_36 : decode cX7_over 36 = .ok (.aload_n 0, 1) := by decide +kernel
theorem dX7_over_37 : decode cX7_over 37 = .ok (.getfield 19, 3) := by decide +kernel
theorem dX7_over_40 : decode cX7_over 40 = .ok (.aload_n 0, 1) := by decide +kernel
theorem dX7_over_41 : decode cX7_over 41 = .ok (.getfield 116, 3) := by decide +kernel
theorem dX7_over_44 : decode cX7_over 44 = .ok (.iload_n 1, 1) := by decide +kernel
theorem dX7_over_45 : decode cX7_over 45 = .ok (.iastore, 1) := by decide +kernel
theorem dX7_over_46 : decode cX7_over 46 = .ok (.aload_n 0, 1) := by decide +kernel
theorem dX7_over_47 : decode cX7_over 47 = .ok (.getfield 22, 3) := by decide +kernel
theorem dX7_over_50 : decode cX7_over 50 = .ok (.aload_n 0, 1) := by decide +kernel
theorem dX7_over_51 : decode cX7_over 51 = .ok (.getfield 116, 3) := by decide +kernel
theorem dX7_over_54 : decode cX7_over 54 = .ok (.iload_n 2, 1) := by decide +kernel
theorem dX7_over_55 : decode cX7_over 55 = .ok (.iastore, 1) := by decide +kernel
theorem dX7_over_56 : decode cX7_over 56 = .ok (.aload_n 0, 1) := by decide +kernel
theorem dX7_over_57 : decode cX7_over 57 = .ok (.dup, 1) := by decide +kernel
theorem dX7_over_58 : decode cX7_over 58 = .ok (.getfield 116, 3) := by decide +kernel
theorem dX7_over_61 : decode cX7_over 61 = .ok (.iconst 1, 1) := by decide +kernel
theorem dX7_over_62 : decode cX7_over 62 = .ok (.iadd, 1) := by decide +kernel
theorem dX7_over_63 : decode cX7_over 63 = .ok (.putfield 116, 3) := by decide +kernel
theorem dX7_over_66 : decode cX7_over 66 = .ok (.aload_n 0, 1) := by decide +kernel
theorem dX7_over_67 : decode cX7_over 67 = .ok (.iconst 0, 1) := by decide +kernel
theorem dX7_over_68 : decode cX7_over 68 = .ok (.putfield 102, 3) := by decide +kernel
theorem dX7_over_71 : decode cX7_over 71 = .ok (.aload_n 0, 1) := by decide +kernel
theorem dX7_over_72 : decode cX7_over 72 = .ok (.getfield 116, 3) := by decide +kernel
theorem dX7_over_75 : decode cX7_over 75 = .ok (.ireturn, 1) := by decide +kernel
theorem dX7_type_0 : decode cX7_type 0 = .ok (.iload_n 1, 1) := by decide +kernel
theorem dX7_type_1 : decode cX7_type 1 = .ok (.iconst 0, 1) := by decide +kernel
theorem dX7_type_2 : decode cX7_type 2 = .ok (.sipush 255, 3) := by decide +kernel
theorem dX7_type_5 : decode cX7_type 5 = .ok (.invokestatic 98, 3) := by decide +kernel
theorem dX7_type_8 : decode cX7_type 8 = .ok (.ifCond .ne 6, 3) := by decide +kernel
theorem dX7_type_11 : decode cX7_type 11 = .ok (.bipush (-2), 2) := by decide +kernel
theorem dX7_type_13 : decode cX7_type 13 = .ok (.ireturn, 1) := by decide +kernel
theorem dX7_type_14 : decode cX7_type 14 = .ok (.aload_n 0, 1) := by decide +kernel
theorem dX7_type_15 : decode cX7_type 15 = .ok (.getfield 119, 3) := by decide +kernel
theorem dX7_type_18 : decode cX7_type 18 = .ok (.bipush 40, 2) := by decide +kernel
theorem dX7_type_20 : decode cX7_type 20 = .ok (.if_icmp .ne 6, 3) := by decide +kernel
theorem dX7_type_23 : decode cX7_type 23 = .ok (.bipush (-4), 2) := by decide +kernel
theorem dX7_type_25 : decode cX7_type 25 = .ok (.ireturn, 1) := by decide +kernel
theorem dX7_type_26 : decode cX7_type 26 = .ok (.aload_n 0, 1) := by decide +kernel
theorem dX7_type_27 : decode cX7_type 27 = .ok (.getfield 41, 3) := by decide +kernel
theorem dX7_type_30 : decode cX7_type 30 = .ok (.aload_n 0, 1) := by decide +kernel
theorem dX7_type_31 : decode cX7_type 31 = .ok (.getfield 119, 3) := by decide +kernel
theorem dX7_type_34 : decode cX7_type 34 = .ok (.iload_n 1, 1) := by decide +kernel
theorem dX7_type_35 : decode cX7_type 35 = .ok (.iastore, 1) := by decide +kernel
theorem dX7_type_36 : decode cX7_type 36 = .ok (.aload_n 0, 1) := by decide +kernel
theorem dX7_type_37 : decode cX7_type 37 = .ok (.dup, 1) := by decide +kernel
theorem dX7_type_38 : decode cX7_type 38 = .ok (.getfield 119, 3) := by decide +kernel
theorem dX7_type_41 : decode cX7_type 41 = .ok (.iconst 1, 1) := by decide +kernel
theorem dX7_type_42 : decode cX7_type 42 = .ok (.iadd, 1) := by decide +kernel
theorem dX7_type_43 : decode cX7_type 43 = .ok (.putfield 119, 3) := by decide +kernel
theorem dX7_type_46 : decode cX7_type 46 = .ok (.aload_n 0, 1) := by decide +kernel
theorem dX7_type_47 : decode cX7_type 47 = .ok (.getfield 119, 3) := by decide +kernel
theorem dX7_type_50 : decode cX7_type 50 = .ok (.ireturn, 1) := by decide +kernel
theorem dX7_wipe_0 : decode cX7_wipe 0 = .ok (.aload_n 0, 1) := by decide +kernel
theorem dX7_wipe_1 : decode cX7_wipe 1 = .ok (.getfield 119, 3) := by decide +kernel
theorem dX7_wipe_4 : decode cX7_wipe 4 = .ok (.istore_n 1, 1) := by decide +kernel
theorem dX7_wipe_5 : decode cX7_wipe 5 = .ok (.aload_n 0, 1) := by decide +kernel
theorem dX7_wipe_6 : decode cX7_wipe 6 = .ok (.iconst 0, 1) := by decide +kernel
theorem dX7_wipe_7 : decode cX7_wipe 7 = .ok (.putfield 119, 3) := by decide +kernel
theorem dX7_wipe_10 : decode cX7_wipe 10 = .ok (.iload_n 1, 1) := by decide +kernel
theorem dX7_wipe_11 : decode cX7_wipe 11 = .ok (.ireturn, 1) := by decide +kernel
theorem dX7_byteAt_0 : decode cX7_byteAt 0 = .ok (.iload_n 1, 1) := by decide +kernel
theorem dX7_byteAt_1 : decode cX7_byteAt 1 = .ok (.aload_n 0, 1) := by decide +kernel
theorem dX7_byteAt_2 : decode cX7_byteAt 2 = .ok (.getfield 119, 3) := by decide +kernel
theorem dX7_byteAt_5 : decode cX7_byteAt 5 = .ok (.if_icmp .ge 12, 3) := by decide +kernel
theorem dX7_byteAt_8 : decode cX7_byteAt 8 = .ok (.aload_n 0, 1) := by decide +kernel
theorem dX7_byteAt_9 : decode cX7_byteAt 9 = .ok (.getfield 41, 3) := by decide +kernel
theorem dX7_byteAt_12 : decode cX7_byteAt 12 = .ok (.iload_n 1, 1) := by decide +kernel
theorem dX7_byteAt_13 : decode cX7_byteAt 13 = .ok (.iaload, 1) := by decide +kernel
theorem dX7_byteAt_14 : decode cX7_byteAt 14 = .ok (.goto 4, 3) := by decide +kernel
theorem dX7_byteAt_17 : decode cX7_byteAt 17 = .ok (.iconst (-1), 1) := by decide +kernel
theorem dX7_byteAt_18 : decode cX7_byteAt 18 = .ok (.ireturn, 1) := by decide +kernel
theorem dX7_faultNow_0 : decode cX7_faultNow 0 = .ok (.aload_n 0, 1) := by decide +kernel
theorem dX7_faultNow_1 : decode cX7_faultNow 1 = .ok (.iconst 0, 1) := by decide +kernel
theorem dX7_faultNow_2 : decode cX7_faultNow 2 = .ok (.putfield 122, 3) := by decide +kernel
theorem dX7_faultNow_5 : decode cX7_faultNow 5 = .ok (.iconst 0, 1) := by decide +kernel
theorem dX7_faultNow_6 : decode cX7_faultNow 6 = .ok (.istore_n 1, 1) := by decide +kernel
theorem dX7_faultNow_7 : decode cX7_faultNow 7 = .ok (.aload_n 0, 1) := by decide +kernel
theorem dX7_faultNow_8 : decode cX7_faultNow 8 = .ok (.iload_n 1, 1) := by decide +kernel
theorem dX7_faultNow_9 : decode cX7_faultNow 9 = .ok (.invokevirtual 125, 3) := by decide +kernel
theorem dX7_faultNow_12 : decode cX7_faultNow 12 = .ok (.bipush 48, 2) := by decide +kernel
theorem dX7_faultNow_14 : decode cX7_faultNow 14 = .ok (.isub, 1) := by decide +kernel
theorem dX7_faultNow_15 : decode cX7_faultNow 15 = .ok (.istore_n 2, 1) := by decide +kernel
theorem dX7_faultNow_16 : decode cX7_faultNow 16 = .ok (.aload_n 0, 1) := by decide +kernel
theorem dX7_faultNow_17 : decode cX7_faultNow 17 = .ok (.iload_n 2, 1) := by decide +kernel
theorem dX7_faultNow_18 : decode cX7_faultNow 18 = .ok (.invokevirtual 106, 3) := by decide +kernel
theorem dX7_faultNow_21 : decode cX7_faultNow 21 = .ok (.ifCond .ne 5, 3) := by decide +kernel
theorem dX7_faultNow_24 : decode cX7_faultNow 24 = .ok (.iload_n 1, 1) := by decide +kernel
theorem dX7_faultNow_25 : decode cX7_faultNow 25 = .ok (.ireturn, 1) := by decide +kernel
theorem dX7_faultNow_26 : decode cX7_faultNow 26 = .ok (.iinc 1 1, 3) := by decide +kernel
theorem dX7_faultNow_29 : decode cX7_faultNow 29 = .ok (.aload_n 0, 1) := by decide +kernel
theorem dX7_faultNow_30 : decode cX7_faultNow 30 = .ok (.iload_n 1, 1) := by decide +kernel
theorem dX7_faultNow_31 : decode cX7_faultNow 31 = .ok (.invokevirtual 125, 3) := by decide +kernel
theorem dX7_faultNow_34 : decode cX7_faultNow 34 = .ok (.bipush 58, 2) := by decide +kernel
theorem dX7_faultNow_36 : decode cX7_faultNow 36 = .ok (.if_icmp .eq 5, 3) := by decide +kernel
theorem dX7_faultNow_39 : decode cX7_faultNow 39 = .ok (.iload_n 1, 1) := by decide +kernel
theorem dX7_faultNow_40 : decode cX7_faultNow 40 = .ok (.ireturn, 1) := by decide +kernel
theorem dX7_faultNow_41 : decode cX7_faultNow 41 = .ok (.bipush 44, 2) := by decide +kernel
theorem dX7_faultNow_43 : decode cX7_faultNow 43 = .ok (.istore_n 3, 1) := by decide +kernel
theorem dX7_faultNow_44 : decode cX7_faultNow 44 = .ok (.iinc 1 1, 3) := by decide +kernel
theorem dX7_faultNow_47 : decode cX7_faultNow 47 = .ok (.iload_n 3, 1) := by decide +kernel
theorem dX7_faultNow_48 : decode cX7_faultNow 48 = .ok (.bipush 44, 2) := by decide +kernel
theorem dX7_faultNow_50 : decode cX7_faultNow 50 = .ok (.if_icmp .ne 128, 3) := by decide +kernel
theorem dX7_faultNow_53 : decode cX7_faultNow 53 = .ok (.aload_n 0, 1) := by decide +kernel
theorem dX7_faultNow_54 : decode cX7_faultNow 54 = .ok (.iload_n 1, 1) := by decide +kernel
theorem dX7_faultNow_55 : decode cX7_faultNow 55 = .ok (.invokevirtual 125, 3) := by decide +kernel
theorem dX7_faultNow_58 : decode cX7_faultNow 58 = .ok (.bipush 45, 2) := by decide +kernel
theorem dX7_faultNow_60 : decode cX7_faultNow 60 = .ok (.if_icmp .ne 7, 3) := by decide +kernel
theorem dX7_faultNow_63 : decode cX7_faultNow 63 = .ok (.iconst 0, 1) := by decide +kernel
theorem dX7_faultNow_64 : decode cX7_faultNow 64 = .ok (.goto 4, 3) := by decide +kernel
theorem dX7_faultNow_67 : decode cX7_faultNow 67 = .ok (.iconst 1, 1) := by decide +kernel
theorem dX7_faultNow_68 : decode cX7_faultNow 68 = .ok (.istore 4, 2) := by decide +kernel
theorem dX7_faultNow_70 : decode cX7_faultNow 70 = .ok (.iload_n 1, 1) := by decide +kernel
theorem dX7_faultNow_71 : decode cX7_faultNow 71 = .ok (.iconst 1, 1) := by decide +kernel
theorem dX7_faultNow_72 : decode cX7_faultNow 72 = .ok (.iload 4, 2) := by decide +kernel
theorem dX7_faultNow_74 : decode cX7_faultNow 74 = .ok (.isub, 1) := by decide +kernel
end
section
theorem dX7_faultNow_75 : decode cX7_faultNow 75 = .ok (.iadd, 1) := by decide +kernel
theorem dX7_faultNow_76 : decode cX7_faultNow 76 = .ok (.istore_n 1, 1) := by decide +kernel
theorem dX7_faultNow_77 : decode cX7_faultNow 77 = .ok (.aload_n 0, 1) := by decide +kernel
theorem dX7_faultNow_78 : decode cX7_faultNow 78 = .ok (.iload_n 1, 1) := by decide +kernel
theorem dX7_faultNow_79 : decode cX7_faultNow 79 = .ok (.invokevirtual 125, 3) := by decide +kernel
theorem dX7_faultNow_82 : decode cX7_faultNow 82 = .ok (.bipush 48, 2) := by decide +kernel
theorem dX7_faultNow_84 : decode cX7_faultNow 84 = .ok (.isub, 1) := by decide +kernel
theorem dX7_faultNow_85 : decode cX7_faultNow 85 = .ok (.istore 5, 2) := by decide +kernel
theorem dX7_faultNow_87 : decode cX7_faultNow 87 = .ok (.iload 5, 2) := by decide +kernel
theorem dX7_faultNow_89 : decode cX7_faultNow 89 = .ok (.invokestatic 113, 3) := by decide +kernel
theorem dX7_faultNow_92 : decode cX7_faultNow 92 = .ok (.ifCond .ne 5, 3) := by decide +kernel
theorem dX7_faultNow_95 : decode cX7_faultNow 95 = .ok (.iload_n 1, 1) := by decide +kernel
theorem dX7_faultNow_96 : decode cX7_faultNow 96 = .ok (.ireturn, 1) := by decide +kernel
theorem dX7_faultNow_97 : decode cX7_faultNow 97 = .ok (.iinc 1 1, 3) := by decide +kernel
theorem dX7_faultNow_100 : decode cX7_faultNow 100 = .ok (.aload_n 0, 1) := by decide +kernel
theorem dX7_faultNow_101 : decode cX7_faultNow 101 = .ok (.getfield 44, 3) := by decide +kernel
theorem dX7_faultNow_104 : decode cX7_faultNow 104 = .ok (.aload_n 0, 1) := by decide +kernel
theorem dX7_faultNow_105 : decode cX7_faultNow 105 = .ok (.getfield 122, 3) := by decide +kernel
theorem dX7_faultNow_108 : decode cX7_faultNow 108 = .ok (.iload_n 2, 1) := by decide +kernel
theorem dX7_faultNow_109 : decode cX7_faultNow 109 = .ok (.iastore, 1) := by decide +kernel
theorem dX7_faultNow_110 : decode cX7_faultNow 110 = .ok (.aload_n 0, 1) := by decide +kernel
theorem dX7_faultNow_111 : decode cX7_faultNow 111 = .ok (.getfield 47, 3) := by decide +kernel
theorem dX7_faultNow_114 : decode cX7_faultNow 114 = .ok (.aload_n 0, 1) := by decide +kernel
theorem dX7_faultNow_115 : decode cX7_faultNow 115 = .ok (.getfield 122, 3) := by decide +kernel
theorem dX7_faultNow_118 : decode cX7_faultNow 118 = .ok (.iload 5, 2) := by decide +kernel
theorem dX7_faultNow_120 : decode cX7_faultNow 120 = .ok (.iastore, 1) := by decide +kernel
theorem dX7_faultNow_121 : decode cX7_faultNow 121 = .ok (.aload_n 0, 1) := by decide +kernel
theorem dX7_faultNow_122 : decode cX7_faultNow 122 = .ok (.getfield 50, 3) := by decide +kernel
theorem dX7_faultNow_125 : decode cX7_faultNow 125 = .ok (.aload_n 0, 1) := by decide +kernel
theorem dX7_faultNow_126 : decode cX7_faultNow 126 = .ok (.getfield 122, 3) := by decide +kernel
theorem dX7_faultNow_129 : decode cX7_faultNow 129 = .ok (.iload 4, 2) := by decide +kernel
theorem dX7_faultNow_131 : decode cX7_faultNow 131 = .ok (.iastore, 1) := by decide +kernel
theorem dX7_faultNow_132 : decode cX7_faultNow 132 = .ok (.aload_n 0, 1) := by decide +kernel
theorem dX7_faultNow_133 : decode cX7_faultNow 133 = .ok (.dup, 1) := by decide +kernel
theorem dX7_faultNow_134 : decode cX7_faultNow 134 = .ok (.getfield 122, 3) := by decide +kernel
theorem dX7_faultNow_137 : decode cX7_faultNow 137 = .ok (.iconst 1, 1) := by decide +kernel
theorem dX7_faultNow_138 : decode cX7_faultNow 138 = .ok (.iadd, 1) := by decide +kernel
theorem dX7_faultNow_139 : decode cX7_faultNow 139 = .ok (.putfield 122, 3) := by decide +kernel
theorem dX7_faultNow_142 : decode cX7_faultNow 142 = .ok (.iload_n 1, 1) := by decide +kernel
theorem dX7_faultNow_143 : decode cX7_faultNow 143 = .ok (.aload_n 0, 1) := by decide +kernel
theorem dX7_faultNow_144 : decode cX7_faultNow 144 = .ok (.getfield 119, 3) := by decide +kernel
theorem dX7_faultNow_147 : decode cX7_faultNow 147 = .ok (.if_icmp .ne 5, 3) := by decide +kernel
theorem dX7_faultNow_150 : decode cX7_faultNow 150 = .ok (.iconst (-1), 1) := by decide +kernel
theorem dX7_faultNow_151 : decode cX7_faultNow 151 = .ok (.ireturn, 1) := by decide +kernel
theorem dX7_faultNow_152 : decode cX7_faultNow 152 = .ok (.aload_n 0, 1) := by decide +kernel
theorem dX7_faultNow_153 : decode cX7_faultNow 153 = .ok (.iload_n 1, 1) := by decide +kernel
theorem dX7_faultNow_154 : decode cX7_faultNow 154 = .ok (.invokevirtual 125, 3) := by decide +kernel
theorem dX7_faultNow_157 : decode cX7_faultNow 157 = .ok (.istore_n 3, 1) := by decide +kernel
theorem dX7_faultNow_158 : decode cX7_faultNow 158 = .ok (.iload_n 3, 1) := by decide +kernel
theorem dX7_faultNow_159 : decode cX7_faultNow 159 = .ok (.bipush 44, 2) := by decide +kernel
theorem dX7_faultNow_161 : decode cX7_faultNow 161 = .ok (.if_icmp .eq 11, 3) := by decide +kernel
theorem dX7_faultNow_164 : decode cX7_faultNow 164 = .ok (.iload_n 3, 1) := by decide +kernel
theorem dX7_faultNow_165 : decode cX7_faultNow 165 = .ok (.bipush 59, 2) := by decide +kernel
theorem dX7_faultNow_167 : decode cX7_faultNow 167 = .ok (.if_icmp .eq 5, 3) := by decide +kernel
theorem dX7_faultNow_170 : decode cX7_faultNow 170 = .ok (.iload_n 1, 1) := by decide +kernel
theorem dX7_faultNow_171 : decode cX7_faultNow 171 = .ok (.ireturn, 1) := by decide +kernel
theorem dX7_faultNow_172 : decode cX7_faultNow 172 = .ok (.iinc 1 1, 3) := by decide +kernel
theorem dX7_faultNow_175 : decode cX7_faultNow 175 = .ok (.goto (-128), 3) := by decide +kernel
theorem dX7_faultNow_178 : decode cX7_faultNow 178 = .ok (.goto (-171), 3) := by decide +kernel
theorem dX7_fault_0 : decode cX7_fault 0 = .ok (.aload_n 0, 1) := by decide +kernel
theorem dX7_fault_1 : decode cX7_fault 1 = .ok (.invokevirtual 129, 3) := by decide +kernel
theorem dX7_fault_4 : decode cX7_fault 4 = .ok (.ireturn, 1) := by decide +kernel
theorem dX7_lastTime_0 : decode cX7_lastTime 0 = .ok (.aload_n 0, 1) := by decide +kernel
theorem dX7_lastTime_1 : decode cX7_lastTime 1 = .ok (.getfield 133, 3) := by decide +kernel
theorem dX7_lastTime_4 : decode cX7_lastTime 4 = .ok (.ifCond .ne 7, 3) := by decide +kernel
theorem dX7_lastTime_7 : decode cX7_lastTime 7 = .ok (.iconst 0, 1) := by decide +kernel
theorem dX7_lastTime_8 : decode cX7_lastTime 8 = .ok (.goto 14, 3) := by decide +kernel
theorem dX7_lastTime_11 : decode cX7_lastTime 11 = .ok (.aload_n 0, 1) := by decide +kernel
theorem dX7_lastTime_12 : decode cX7_lastTime 12 = .ok (.getfield 34, 3) := by decide +kernel
theorem dX7_lastTime_15 : decode cX7_lastTime 15 = .ok (.aload_n 0, 1) := by decide +kernel
theorem dX7_lastTime_16 : decode cX7_lastTime 16 = .ok (.getfield 133, 3) := by decide +kernel
theorem dX7_lastTime_19 : decode cX7_lastTime 19 = .ok (.iconst 1, 1) := by decide +kernel
theorem dX7_lastTime_20 : decode cX7_lastTime 20 = .ok (.isub, 1) := by decide +kernel
theorem dX7_lastTime_21 : decode cX7_lastTime 21 = .ok (.iaload, 1) := by decide +kernel
theorem dX7_lastTime_22 : decode cX7_lastTime 22 = .ok (.ireturn, 1) := by decide +kernel
theorem dX7_tells_0 : decode cX7_tells 0 = .ok (.aload_n 0, 1) := by decide +kernel
theorem dX7_tells_1 : decode cX7_tells 1 = .ok (.getfield 25, 3) := by decide +kernel
theorem dX7_tells_4 : decode cX7_tells 4 = .ok (.aload_n 0, 1) := by decide +kernel
theorem dX7_tells_5 : decode cX7_tells 5 = .ok (.getfield 133, 3) := by decide +kernel
theorem dX7_tells_8 : decode cX7_tells 8 = .ok (.iload_n 1, 1) := by decide +kernel
theorem dX7_tells_9 : decode cX7_tells 9 = .ok (.iastore, 1) := by decide +kernel
theorem dX7_tells_10 : decode cX7_tells 10 = .ok (.aload_n 0, 1) := by decide +kernel
theorem dX7_tells_11 : decode cX7_tells 11 = .ok (.getfield 28, 3) := by decide +kernel
theorem dX7_tells_14 : decode cX7_tells 14 = .ok (.aload_n 0, 1) := by decide +kernel
theorem dX7_tells_15 : decode cX7_tells 15 = .ok (.getfield 133, 3) := by decide +kernel
theorem dX7_tells_18 : decode cX7_tells 18 = .ok (.iload_n 2, 1) := by decide +kernel
theorem dX7_tells_19 : decode cX7_tells 19 = .ok (.iastore, 1) := by decide +kernel
theorem dX7_tells_20 : decode cX7_tells 20 = .ok (.aload_n 0, 1) := by decide +kernel
theorem dX7_tells_21 : decode cX7_tells 21 = .ok (.getfield 31, 3) := by decide +kernel
theorem dX7_tells_24 : decode cX7_tells 24 = .ok (.aload_n 0, 1) := by decide +kernel
theorem dX7_tells_25 : decode cX7_tells 25 = .ok (.getfield 133, 3) := by decide +kernel
theorem dX7_tells_28 : decode cX7_tells 28 = .ok (.iload_n 3, 1) := by decide +kernel
theorem dX7_tells_29 : decode cX7_tells 29 = .ok (.iastore, 1) := by decide +kernel
theorem dX7_tells_30 : decode cX7_tells 30 = .ok (.aload_n 0, 1) := by decide +kernel
theorem dX7_tells_31 : decode cX7_tells 31 = .ok (.getfield 34, 3) := by decide +kernel
theorem dX7_tells_34 : decode cX7_tells 34 = .ok (.aload_n 0, 1) := by decide +kernel
theorem dX7_tells_35 : decode cX7_tells 35 = .ok (.getfield 133, 3) := by decide +kernel
theorem dX7_tells_38 : decode cX7_tells 38 = .ok (.iload 4, 2) := by decide +kernel
theorem dX7_tells_40 : decode cX7_tells 40 = .ok (.iastore, 1) := by decide +kernel
theorem dX7_tells_41 : decode cX7_tells 41 = .ok (.aload_n 0, 1) := by decide +kernel
theorem dX7_tells_42 : decode cX7_tells 42 = .ok (.dup, 1) := by decide +kernel
theorem dX7_tells_43 : decode cX7_tells 43 = .ok (.getfield 133, 3) := by decide +kernel
theorem dX7_tells_46 : decode cX7_tells 46 = .ok (.iconst 1, 1) := by decide +kernel
theorem dX7_tells_47 : decode cX7_tells 47 = .ok (.iadd, 1) := by decide +kernel
theorem dX7_tells_48 : decode cX7_tells 48 = .ok (.putfield 133, 3) := by decide +kernel
theorem dX7_tells_51 : decode cX7_tells 51 = .ok (.aload_n 0, 1) := by decide +kernel
theorem dX7_tells_52 : decode cX7_tells 52 = .ok (.iconst 0, 1) := by decide +kernel
theorem dX7_tells_53 : decode cX7_tells 53 = .ok (.putfield 102, 3) := by decide +kernel
theorem dX7_tells_56 : decode cX7_tells 56 = .ok (.return_, 1) := by decide +kernel
theorem dX7_tell_0 : decode cX7_tell 0 = .ok (.iload_n 1, 1) := by decide +kernel
theorem dX7_tell_1 : decode cX7_tell 1 = .ok (.aload_n 0, 1) := by decide +kernel
theorem dX7_tell_2 : decode cX7_tell 2 = .ok (.invokevirtual 136, 3) := by decide +kernel
theorem dX7_tell_5 : decode cX7_tell 5 = .ok (.sipush 999, 3) := by decide +kernel
theorem dX7_tell_8 : decode cX7_tell 8 = .ok (.invokestatic 98, 3) := by decide +kernel
theorem dX7_tell_11 : decode cX7_tell 11 = .ok (.ifCond .ne 6, 3) := by decide +kernel
theorem dX7_tell_14 : decode cX7_tell 14 = .ok (.bipush (-2), 2) := by decide +kernel
theorem dX7_tell_16 : decode cX7_tell 16 = .ok (.ireturn, 1) := by decide +kernel
theorem dX7_tell_17 : decode cX7_tell 17 = .ok (.aload_n 0, 1) := by decide +kernel
theorem dX7_tell_18 : decode cX7_tell 18 = .ok (.invokevirtual 129, 3) := by decide +kernel
theorem dX7_tell_21 : decode cX7_tell 21 = .ok (.iconst (-1), 1) := by decide +kernel
theorem dX7_tell_22 : decode cX7_tell 22 = .ok (.if_icmp .eq 6, 3) := by decide +kernel
theorem dX7_tell_25 : decode cX7_tell 25 = .ok (.bipush (-3), 2) := by decide +kernel
theorem dX7_tell_27 : decode cX7_tell 27 = .ok (.ireturn, 1) := by decide +kernel
theorem dX7_tell_28 : decode cX7_tell 28 = .ok (.iconst 0, 1) := by decide +kernel
theorem dX7_tell_29 : decode cX7_tell 29 = .ok (.istore_n 2, 1) := by decide +kernel
theorem dX7_tell_30 : decode cX7_tell 30 = .ok (.iload_n 2, 1) := by decide +kernel
theorem dX7_tell_31 : decode cX7_tell 31 = .ok (.aload_n 0, 1) := by decide +kernel
theorem dX7_tell_32 : decode cX7_tell 32 = .ok (.getfield 122, 3) := by decide +kernel
theorem dX7_tell_35 : decode cX7_tell 35 = .ok (.if_icmp .ge 41, 3) := by decide +kernel
theorem dX7_tell_38 : decode cX7_tell 38 = .ok (.aload_n 0, 1) := by decide +kernel
theorem dX7_tell_39 : decode cX7_tell 39 = .ok (.getfield 133, 3) := by decide +kernel
theorem dX7_tell_42 : decode cX7_tell 42 = .ok (.bipush 60, 2) := by decide +kernel
theorem dX7_tell_44 : decode cX7_tell 44 = .ok (.if_icmp .ge 32, 3) := by decide +kernel
theorem dX7_tell_47 : decode cX7_tell 47 = .ok (.aload_n 0, 1) := by decide +kernel
theorem dX7_tell_48 : decode cX7_tell 48 = .ok (.aload_n 0, 1) := by decide +kernel
theorem dX7_tell_49 : decode cX7_tell 49 = .ok (.getfield 44, 3) := by decide +kernel
theorem dX7_tell_52 : decode cX7_tell 52 = .ok (.iload_n 2, 1) := by decide +kernel
theorem dX7_tell_53 : decode cX7_tell 53 = .ok (.iaload, 1) := by decide +kernel
theorem dX7_tell_54 : decode cX7_tell 54 = .ok (.aload_n 0, 1) := by decide +kernel
theorem dX7_tell_55 : decode cX7_tell 55 = .ok (.getfield 47, 3) := by decide +kernel
theorem dX7_tell_58 : decode cX7_tell 58 = .ok (.iload_n 2, 1) := by decide +kernel
theorem dX7_tell_59 : decode cX7_tell 59 = .ok (.iaload, 1) := by decide +kernel
theorem dX7_tell_60 : decode cX7_tell 60 = .ok (.aload_n 0, 1) := by decide +kernel
theorem dX7_tell_61 : decode cX7_tell 61 = .ok (.getfield 50, 3) := by decide +kernel
theorem dX7_tell_64 : decode cX7_tell 64 = .ok (.iload_n 2, 1) := by decide +kernel
theorem dX7_tell_65 : decode cX7_tell 65 = .ok (.iaload, 1) := by decide +kernel
theorem dX7_tell_66 : decode cX7_tell 66 = .ok (.iload_n 1, 1) := by decide +kernel
theorem dX7_tell_67 : decode cX7_tell 67 = .ok (.invokevirtual 139, 3) := by decide +kernel
theorem dX7_tell_70 : decode cX7_tell 70 = .ok (.iinc 2 1, 3) := by decide +kernel
theorem dX7_tell_73 : decode cX7_tell 73 = .ok (.goto (-43), 3) := by decide +kernel
theorem dX7_tell_76 : decode cX7_tell 76 = .ok (.aload_n 0, 1) := by decide +kernel
theorem dX7_tell_77 : decode cX7_tell 77 = .ok (.iconst 0, 1) := by decide +kernel
theorem dX7_tell_78 : decode cX7_tell 78 = .ok (.putfield 119, 3) := by decide +kernel
theorem dX7_tell_81 : decode cX7_tell 81 = .ok (.iload_n 2, 1) := by decide +kernel
theorem dX7_tell_82 : decode cX7_tell 82 = .ok (.ireturn, 1) := by decide +kernel
theorem dX7_read_0 : decode cX7_read 0 = .ok (.iload_n 1, 1) := by decide +kernel
theorem dX7_read_1 : decode cX7_read 1 = .ok (.invokestatic 143, 3) := by decide +kernel
theorem dX7_read_4 : decode cX7_read 4 = .ok (.ifCond .eq 25, 3) := by decide +kernel
theorem dX7_read_7 : decode cX7_read 7 = .ok (.aload_n 0, 1) := by decide +kernel
theorem dX7_read_8 : decode cX7_read 8 = .ok (.iload_n 2, 1) := by decide +kernel
theorem dX7_read_9 : decode cX7_read 9 = .ok (.invokevirtual 106, 3) := by decide +kernel
theorem dX7_read_12 : decode cX7_read 12 = .ok (.ifCond .eq 17, 3) := by decide +kernel
theorem dX7_read_15 : decode cX7_read 15 = .ok (.iload_n 3, 1) := by decide +kernel
theorem dX7_read_16 : decode cX7_read 16 = .ok (.aload_n 0, 1) := by decide +kernel
theorem dX7_read_17 : decode cX7_read 17 = .ok (.invokevirtual 136, 3) := by decide +kernel
theorem dX7_read_20 : decode cX7_read 20 = .ok (.sipush 999, 3) := by decide +kernel
theorem dX7_read_23 : decode cX7_read 23 = .ok (.invokestatic 98, 3) := by decide +kernel
theorem dX7_read_26 : decode cX7_read 26 = .ok (.ifCond .ne 6, 3) := by decide +kernel
theorem dX7_read_29 : decode cX7_read 29 = .ok (.bipush (-2), 2) := by decide +kernel
theorem dX7_read_31 : decode cX7_read 31 = .ok (.ireturn, 1) := by decide +kernel
theorem dX7_read_32 : decode cX7_read 32 = .ok (.aload_n 0, 1) := by decide +kernel
theorem dX7_read_33 : decode cX7_read 33 = .ok (.getfield 77, 3) := by decide +kernel
theorem dX7_read_36 : decode cX7_read 36 = .ok (.iload_n 1, 1) := by decide +kernel
theorem dX7_read_37 : decode cX7_read 37 = .ok (.baload, 1) := by decide +kernel
theorem dX7_read_38 : decode cX7_read 38 = .ok (.ifCond .ne 9, 3) := by decide +kernel
theorem dX7_read_41 : decode cX7_read 41 = .ok (.aload_n 0, 1) := by decide +kernel
theorem dX7_read_42 : decode cX7_read 42 = .ok (.iconst 1, 1) := by decide +kernel
theorem dX7_read_43 : decode cX7_read 43 = .ok (.invokevirtual 146, 3) := by decide +kernel
theorem dX7_read_46 : decode cX7_read 46 = .ok (.ireturn, 1) := by decide +kernel
theorem dX7_read_47 : decode cX7_read 47 = .ok (.iconst 0, 1) := by decide +kernel
theorem dX7_read_48 : decode cX7_read 48 = .ok (.istore 4, 2) := by decide +kernel
theorem dX7_read_50 : decode cX7_read 50 = .ok (.iload 4, 2) := by decide +kernel
theorem dX7_read_52 : decode cX7_read 52 = .ok (.bipush 10, 2) := by decide +kernel
theorem dX7_read_54 : decode cX7_read 54 = .ok (.if_icmp .ge 69, 3) := by decide +kernel
theorem dX7_read_57 : decode cX7_read 57 = .ok (.iload 4, 2) := by decide +kernel
theorem dX7_read_59 : decode cX7_read 59 = .ok (.aload_n 0, 1) := by decide +kernel
theorem dX7_read_60 : decode cX7_read 60 = .ok (.getfield 84, 3) := by decide +kernel
theorem dX7_read_63 : decode cX7_read 63 = .ok (.iload_n 1, 1) := by decide +kernel
theorem dX7_read_64 : decode cX7_read 64 = .ok (.iaload, 1) := by decide +kernel
theorem dX7_read_65 : decode cX7_read 65 = .ok (.if_icmp .ge 58, 3) := by decide +kernel
theorem dX7_read_68 : decode cX7_read 68 = .ok (.aload_n 0, 1) := by decide +kernel
theorem dX7_read_69 : decode cX7_read 69 = .ok (.getfield 133, 3) := by decide +kernel
theorem dX7_read_72 : decode cX7_read 72 = .ok (.bipush 60, 2) := by decide +kernel
theorem dX7_read_74 : decode cX7_read 74 = .ok (.if_icmp .ge 49, 3) := by decide +kernel
theorem dX7_read_77 : decode cX7_read 77 = .ok (.aload_n 0, 1) := by decide +kernel
theorem dX7_read_78 : decode cX7_read 78 = .ok (.getfield 87, 3) := by decide +kernel
theorem dX7_read_81 : decode cX7_read 81 = .ok (.bipush 40, 2) := by decide +kernel
theorem dX7_read_83 : decode cX7_read 83 = .ok (.iload_n 1, 1) := by decide +kernel
theorem dX7_read_84 : decode cX7_read 84 = .ok (.imul, 1) := by decide +kernel
theorem dX7_read_85 : decode cX7_read 85 = .ok (.iload 4, 2) := by decide +kernel
theorem dX7_read_87 : decode cX7_read 87 = .ok (.iadd, 1) := by decide +kernel
theorem dX7_read_88 : decode cX7_read 88 = .ok (.iaload, 1) := by decide +kernel
theorem dX7_read_89 : decode cX7_read 89 = .ok (.iconst 0, 1) := by decide +kernel
theorem dX7_read_90 : decode cX7_read 90 = .ok (.iconst 1, 1) := by decide +kernel
theorem dX7_read_91 : decode cX7_read 91 = .ok (.invokestatic 98, 3) := by decide +kernel
theorem dX7_read_94 : decode cX7_read 94 = .ok (.ifCond .eq 29, 3) := by decide +kernel
theorem dX7_read_97 : decode cX7_read 97 = .ok (.aload_n 0, 1) := by decide +kernel
theorem dX7_read_98 : decode cX7_read 98 = .ok (.iload_n 2, 1) := by decide +kernel
theorem dX7_read_99 : decode cX7_read 99 = .ok (.iload 4, 2) := by decide +kernel
theorem dX7_read_101 : decode cX7_read 101 = .ok (.aload_n 0, 1) := by decide +kernel
theorem dX7_read_102 : decode cX7_read 102 = .ok (.getfield 87, 3) := by decide +kernel
theorem dX7_read_105 : decode cX7_read 105 = .ok (.bipush 40, 2) := by decide +kernel
theorem dX7_read_107 : decode cX7_read 107 = .ok (.iload_n 1, 1) := by decide +kernel
theorem dX7_read_108 : decode cX7_read 108 = .ok (.imul, 1) := by decide +kernel
theorem dX7_read_109 : decode cX7_read 109 = .ok (.iload 4, 2) := by decide +kernel
theorem dX7_read_111 : decode cX7_read 111 = .ok (.iadd, 1) := by decide +kernel
theorem dX7_read_112 : decode cX7_read 112 = .ok (.iaload, 1) := by decide +kernel
theorem dX7_read_113 : decode cX7_read 113 = .ok (.iload_n 3, 1) := by decide +kernel
theorem dX7_read_114 : decode cX7_read 114 = .ok (.invokevirtual 139, 3) := by decide +kernel
theorem dX7_read_117 : decode cX7_read 117 = .ok (.iinc 4 1, 3) := by decide +kernel
theorem dX7_read_120 : decode cX7_read 120 = .ok (.goto (-70), 3) := by decide +kernel
theorem dX7_read_123 : decode cX7_read 123 = .ok (.iload 4, 2) := by decide +kernel
theorem dX7_read_125 : decode cX7_read 125 = .ok (.ireturn, 1) := by decide +kernel
theorem dX7_asOf_0 : decode cX7_asOf 0 = .ok (.iload_n 1, 1) := by decide +kernel
theorem dX7_asOf_1 : decode cX7_asOf 1 = .ok (.iconst 0, 1) := by decide +kernel
theorem dX7_asOf_2 : decode cX7_asOf 2 = .ok (.sipush 999, 3) := by decide +kernel
theorem dX7_asOf_5 : decode cX7_asOf 5 = .ok (.invokestatic 98, 3) := by decide +kernel
theorem dX7_asOf_8 : decode cX7_asOf 8 = .ok (.ifCond .ne 6, 3) := by decide +kernel
theorem dX7_asOf_11 : decode cX7_asOf 11 = .ok (.bipush (-2), 2) := by decide +kernel
theorem dX7_asOf_13 : decode cX7_asOf 13 = .ok (.ireturn, 1) := by decide +kernel
theorem dX7_asOf_14 : decode cX7_asOf 14 = .ok (.aload_n 0, 1) := by decide +kernel
theorem dX7_asOf_15 : decode cX7_asOf 15 = .ok (.getfield 37, 3) := by decide +kernel
theorem dX7_asOf_18 : decode cX7_asOf 18 = .ok (.istore_n 2, 1) := by decide +kernel
theorem dX7_asOf_19 : decode cX7_asOf 19 = .ok (.aload_n 0, 1) := by decide +kernel
theorem dX7_asOf_20 : decode cX7_asOf 20 = .ok (.iload_n 1, 1) := by decide +kernel
theorem dX7_asOf_21 : decode cX7_asOf 21 = .ok (.putfield 37, 3) := by decide +kernel
theorem dX7_asOf_24 : decode cX7_asOf 24 = .ok (.aload_n 0, 1) := by decide +kernel
theorem dX7_asOf_25 : decode cX7_asOf 25 = .ok (.iconst 0, 1) := by decide +kernel
theorem dX7_asOf_26 : decode cX7_asOf 26 = .ok (.putfield 102, 3) := by decide +kernel
theorem dX7_asOf_29 : decode cX7_asOf 29 = .ok (.iload_n 2, 1) := by decide +kernel
theorem dX7_asOf_30 : decode cX7_asOf 30 = .ok (.ireturn, 1) := by decide +kernel
theorem dX7_lays_0 : decode cX7_lays 0 = .ok (.iconst 0, 1) := by decide +kernel
theorem dX7_lays_1 : decode cX7_lays 1 = .ok (.istore_n 1, 1) := by decide +kernel
theorem dX7_lays_2 : decode cX7_lays 2 = .ok (.iload_n 1, 1) := by decide +kernel
theorem dX7_lays_3 : decode cX7_lays 3 = .ok (.aload_n 0, 1) := by decide +kernel
theorem dX7_lays_4 : decode cX7_lays 4 = .ok (.getfield 95, 3) := by decide +kernel
theorem dX7_lays_7 : decode cX7_lays 7 = .ok (.if_icmp .ge 16, 3) := by decide +kernel
theorem dX7_lays_10 : decode cX7_lays 10 = .ok (.aload_n 0, 1) := by decide +kernel
theorem dX7_lays_11 : decode cX7_lays 11 = .ok (.getfield 53, 3) := by decide +kernel
theorem dX7_lays_14 : decode cX7_lays 14 = .ok (.iload_n 1, 1) := by decide +kernel
theorem dX7_lays_15 : decode cX7_lays 15 = .ok (.iconst 0, 1) := by decide +kernel
theorem dX7_lays_16 : decode cX7_lays 16 = .ok (.iastore, 1) := by decide +kernel
theorem dX7_lays_17 : decode cX7_lays 17 = .ok (.iinc 1 1, 3) := by decide +kernel
theorem dX7_lays_20 : decode cX7_lays 20 = .ok (.goto (-18), 3) := by decide +kernel
theorem dX7_lays_23 : decode cX7_lays 23 = .ok (.iconst 0, 1) := by decide +kernel
theorem dX7_lays_24 : decode cX7_lays 24 = .ok (.istore_n 1, 1) := by decide +kernel
theorem dX7_lays_25 : decode cX7_lays 25 = .ok (.iload_n 1, 1) := by decide +kernel
theorem dX7_lays_26 : decode cX7_lays 26 = .ok (.aload_n 0, 1) := by decide +kernel
theorem dX7_lays_27 : decode cX7_lays 27 = .ok (.getfield 133, 3) := by decide +kernel
theorem dX7_lays_30 : decode cX7_lays 30 = .ok (.if_icmp .ge 83, 3) := by decide +kernel
theorem dX7_lays_33 : decode cX7_lays 33 = .ok (.aload_n 0, 1) := by decide +kernel
theorem dX7_lays_34 : decode cX7_lays 34 = .ok (.getfield 34, 3) := by decide +kernel
theorem dX7_lays_37 : decode cX7_lays 37 = .ok (.iload_n 1, 1) := by decide +kernel
theorem dX7_lays_38 : decode cX7_lays 38 = .ok (.iaload, 1) := by decide +kernel
theorem dX7_lays_39 : decode cX7_lays 39 = .ok (.aload_n 0, 1) := by decide +kernel
theorem dX7_lays_40 : decode cX7_lays 40 = .ok (.getfield 37, 3) := by decide +kernel
theorem dX7_lays_43 : decode cX7_lays 43 = .ok (.if_icmp .gt 64, 3) := by decide +kernel
theorem dX7_lays_46 : decode cX7_lays 46 = .ok (.iconst 1, 1) := by decide +kernel
theorem dX7_lays_47 : decode cX7_lays 47 = .ok (.aload_n 0, 1) := by decide +kernel
theorem dX7_lays_48 : decode cX7_lays 48 = .ok (.getfield 28, 3) := by decide +kernel
theorem dX7_lays_51 : decode cX7_lays 51 = .ok (.iload_n 1, 1) := by decide +kernel
theorem dX7_lays_52 : decode cX7_lays 52 = .ok (.iaload, 1) := by decide +kernel
theorem dX7_lays_53 : decode cX7_lays 53 = .ok (.ishl, 1) := by decide +kernel
theorem dX7_lays_54 : decode cX7_lays 54 = .ok (.istore_n 2, 1) := by decide +kernel
theorem dX7_lays_55 : decode cX7_lays 55 = .ok (.aload_n 0, 1) := by decide +kernel
theorem dX7_lays_56 : decode cX7_lays 56 = .ok (.getfield 53, 3) := by decide +kernel
theorem dX7_lays_59 : decode cX7_lays 59 = .ok (.aload_n 0, 1) := by decide +kernel
theorem dX7_lays_60 : decode cX7_lays 60 = .ok (.getfield 25, 3) := by decide +kernel
theorem dX7_lays_63 : decode cX7_lays 63 = .ok (.iload_n 1, 1) := by decide +kernel
theorem dX7_lays_64 : decode cX7_lays 64 = .ok (.iaload, 1) := by decide +kernel
theorem dX7_lays_65 : decode cX7_lays 65 = .ok (.aload_n 0, 1) := by decide +kernel
theorem dX7_lays_66 : decode cX7_lays 66 = .ok (.getfield 31, 3) := by decide +kernel
theorem dX7_lays_69 : decode cX7_lays 69 = .ok (.iload_n 1, 1) := by decide +kernel
theorem dX7_lays_70 : decode cX7_lays 70 = .ok (.iaload, 1) := by decide +kernel
theorem dX7_lays_71 : decode cX7_lays 71 = .ok (.iconst 1, 1) := by decide +kernel
theorem dX7_lays_72 : decode cX7_lays 72 = .ok (.if_icmp .ne 19, 3) := by decide +kernel
theorem dX7_lays_75 : decode cX7_lays 75 = .ok (.aload_n 0, 1) := by decide +kernel
theorem dX7_lays_76 : decode cX7_lays 76 = .ok (.getfield 53, 3) := by decide +kernel
theorem dX7_lays_79 : decode cX7_lays 79 = .ok (.aload_n 0, 1) := by decide +kernel
theorem dX7_lays_80 : decode cX7_lays 80 = .ok (.getfield 25, 3) := by decide +kernel
theorem dX7_lays_83 : decode cX7_lays 83 = .ok (.iload_n 1, 1) := by decide +kernel
theorem dX7_lays_84 : decode cX7_lays 84 = .ok (.iaload, 1) := by decide +kernel
theorem dX7_lays_85 : decode cX7_lays 85 = .ok (.iaload, 1) := by decide +kernel
theorem dX7_lays_86 : decode cX7_lays 86 = .ok (.iload_n 2, 1) := by decide +kernel
theorem dX7_lays_87 : decode cX7_lays 87 = .ok (.ior, 1) := by decide +kernel
theorem dX7_lays_88 : decode cX7_lays 88 = .ok (.goto 18, 3) := by decide +kernel
theorem dX7_lays_91 : decode cX7_lays 91 = .ok (.aload_n 0, 1) := by decide +kernel
theorem dX7_lays_92 : decode cX7_lays 92 = .ok (.getfield 53, 3) := by decide +kernel
theorem dX7_lays_95 : decode cX7_lays 95 = .ok (.aload_n 0, 1) := by decide +kernel
theorem dX7_lays_96 : decode cX7_lays 96 = .ok (.getfield 25, 3) := by decide +kernel
theorem dX7_lays_99 : decode cX7_lays 99 = .ok (.iload_n 1, 1) := by decide +kernel
theorem dX7_lays_100 : decode cX7_lays 100 = .ok (.iaload, 1) := by decide +kernel
theorem dX7_lays_101 : decode cX7_lays 101 = .ok (.iaload, 1) := by decide +kernel
theorem dX7_lays_102 : decode cX7_lays 102 = .ok (.iload_n 2, 1) := by decide +kernel
theorem dX7_lays_103 : decode cX7_lays 103 = .ok (.iconst (-1), 1) := by decide +kernel
theorem dX7_lays_104 : decode cX7_lays 104 = .ok (.ixor, 1) := by decide +kernel
theorem dX7_lays_105 : decode cX7_lays 105 = .ok (.iand, 1) := by decide +kernel
theorem dX7_lays_106 : decode cX7_lays 106 = .ok (.iastore, 1) := by decide +kernel
theorem dX7_lays_107 : decode cX7_lays 107 = .ok (.iinc 1 1, 3) := by decide +kernel
theorem dX7_lays_110 : decode cX7_lays 110 = .ok (.goto (-85), 3) := by decide +kernel
theorem dX7_lays_113 : decode cX7_lays 113 = .ok (.return_, 1) := by decide +kernel
theorem dX7_has_0 : decode cX7_has 0 = .ok (.aload_n 0, 1) := by decide +kernel
theorem dX7_has_1 : decode cX7_has 1 = .ok (.iload_n 1, 1) := by decide +kernel
theorem dX7_has_2 : decode cX7_has 2 = .ok (.invokevirtual 106, 3) := by decide +kernel
theorem dX7_has_5 : decode cX7_has 5 = .ok (.ifCond .ne 6, 3) := by decide +kernel
theorem dX7_has_8 : decode cX7_has 8 = .ok (.bipush (-2), 2) := by decide +kernel
theorem dX7_has_10 : decode cX7_has 10 = .ok (.ireturn, 1) := by decide +kernel
theorem dX7_has_11 : decode cX7_has 11 = .ok (.aload_n 0, 1) := by decide +kernel
theorem dX7_has_12 : decode cX7_has 12 = .ok (.invokevirtual 149, 3) := by decide +kernel
theorem dX7_has_15 : decode cX7_has 15 = .ok (.aload_n 0, 1) := by decide +kernel
theorem dX7_has_16 : decode cX7_has 16 = .ok (.getfield 53, 3) := by decide +kernel
theorem dX7_has_19 : decode cX7_has 19 = .ok (.iload_n 1, 1) := by decide +kernel
theorem dX7_has_20 : decode cX7_has 20 = .ok (.iaload, 1) := by decide +kernel
theorem dX7_has_21 : decode cX7_has 21 = .ok (.ireturn, 1) := by decide +kernel
theorem dX7_gapsOf_0 : decode cX7_gapsOf 0 = .ok (.iconst 0, 1) := by decide +kernel
theorem dX7_gapsOf_1 : decode cX7_gapsOf 1 = .ok (.istore_n 2, 1) := by decide +kernel
theorem dX7_gapsOf_2 : decode cX7_gapsOf 2 = .ok (.iconst (-1), 1) := by decide +kernel
theorem dX7_gapsOf_3 : decode cX7_gapsOf 3 = .ok (.istore_n 3, 1) := by decide +kernel
theorem dX7_gapsOf_4 : decode cX7_gapsOf 4 = .ok (.iconst 0, 1) := by decide +kernel
theorem dX7_gapsOf_5 : decode cX7_gapsOf 5 = .ok (.istore 4, 2) := by decide +kernel
theorem dX7_gapsOf_7 : decode cX7_gapsOf 7 = .ok (.iload 4, 2) := by decide +kernel
theorem dX7_gapsOf_9 : decode cX7_gapsOf 9 = .ok (.aload_n 0, 1) := by decide +kernel
theorem dX7_gapsOf_10 : decode cX7_gapsOf 10 = .ok (.getfield 95, 3) := by decide +kernel
theorem dX7_gapsOf_13 : decode cX7_gapsOf 13 = .ok (.if_icmp .ge 76, 3) := by decide +kernel
theorem dX7_gapsOf_16 : decode cX7_gapsOf 16 = .ok (.aload_n 0, 1) := by decide +kernel
theorem dX7_gapsOf_17 : decode cX7_gapsOf 17 = .ok (.getfield 53, 3) := by decide +kernel
theorem dX7_gapsOf_20 : decode cX7_gapsOf 20 = .ok (.aload_n 0, 1) := by decide +kernel
theorem dX7_gapsOf_21 : decode cX7_gapsOf 21 = .ok (.getfield 56, 3) := by decide +kernel
theorem dX7_gapsOf_24 : decode cX7_gapsOf 24 = .ok (.iload 4, 2) := by decide +kernel
theorem dX7_gapsOf_26 : decode cX7_gapsOf 26 = .ok (.iaload, 1) := by decide +kernel
theorem dX7_gapsOf_27 : decode cX7_gapsOf 27 = .ok (.iaload, 1) := by decide +kernel
theorem dX7_gapsOf_28 : decode cX7_gapsOf 28 = .ok (.iload_n 1, 1) := by decide +kernel
theorem dX7_gapsOf_29 : decode cX7_gapsOf 29 = .ok (.invokestatic 152, 3) := by decide +kernel
theorem dX7_gapsOf_32 : decode cX7_gapsOf 32 = .ok (.ifCond .eq 21, 3) := by decide +kernel
theorem dX7_gapsOf_35 : decode cX7_gapsOf 35 = .ok (.iload_n 2, 1) := by decide +kernel
theorem dX7_gapsOf_36 : decode cX7_gapsOf 36 = .ok (.iload_n 3, 1) := by decide +kernel
theorem dX7_gapsOf_37 : decode cX7_gapsOf 37 = .ok (.iconst (-1), 1) := by decide +kernel
theorem dX7_gapsOf_38 : decode cX7_gapsOf 38 = .ok (.if_icmp .ne 7, 3) := by decide +kernel
theorem dX7_gapsOf_41 : decode cX7_gapsOf 41 = .ok (.iconst 0, 1) := by decide +kernel
theorem dX7_gapsOf_42 : decode cX7_gapsOf 42 = .ok (.goto 4, 3) := by decide +kernel
theorem dX7_gapsOf_45 : decode cX7_gapsOf 45 = .ok (.iload_n 3, 1) := by decide +kernel
theorem dX7_gapsOf_46 : decode cX7_gapsOf 46 = .ok (.iadd, 1) := by decide +kernel
theorem dX7_gapsOf_47 : decode cX7_gapsOf 47 = .ok (.istore_n 2, 1) := by decide +kernel
theorem dX7_gapsOf_48 : decode cX7_gapsOf 48 = .ok (.iconst 0, 1) := by decide +kernel
theorem dX7_gapsOf_49 : decode cX7_gapsOf 49 = .ok (.istore_n 3, 1) := by decide +kernel
theorem dX7_gapsOf_50 : decode cX7_gapsOf 50 = .ok (.goto 33, 3) := by decide +kernel
theorem dX7_gapsOf_53 : decode cX7_gapsOf 53 = .ok (.iload_n 3, 1) := by decide +kernel
theorem dX7_gapsOf_54 : decode cX7_gapsOf 54 = .ok (.iconst (-1), 1) := by decide +kernel
theorem dX7_gapsOf_55 : decode cX7_gapsOf 55 = .ok (.if_icmp .eq 28, 3) := by decide +kernel
theorem dX7_gapsOf_58 : decode cX7_gapsOf 58 = .ok (.iload_n 3, 1) := by decide +kernel
theorem dX7_gapsOf_59 : decode cX7_gapsOf 59 = .ok (.aload_n 0, 1) := by decide +kernel
theorem dX7_gapsOf_60 : decode cX7_gapsOf 60 = .ok (.getfield 110, 3) := by decide +kernel
theorem dX7_gapsOf_63 : decode cX7_gapsOf 63 = .ok (.aload_n 0, 1) := by decide +kernel
theorem dX7_gapsOf_64 : decode cX7_gapsOf 64 = .ok (.getfield 56, 3) := by decide +kernel
theorem dX7_gapsOf_67 : decode cX7_gapsOf 67 = .ok (.iload 4, 2) := by decide +kernel
theorem dX7_gapsOf_69 : decode cX7_gapsOf 69 = .ok (.iaload, 1) := by decide +kernel
theorem dX7_gapsOf_70 : decode cX7_gapsOf 70 = .ok (.invokestatic 152, 3) := by decide +kernel
theorem dX7_gapsOf_73 : decode cX7_gapsOf 73 = .ok (.ifCond .eq 7, 3) := by decide +kernel
theorem dX7_gapsOf_76 : decode cX7_gapsOf 76 = .ok (.iconst 0, 1) := by decide +kernel
theorem dX7_gapsOf_77 : decode cX7_gapsOf 77 = .ok (.goto 4, 3) := by decide +kernel
theorem dX7_gapsOf_80 : decode cX7_gapsOf 80 = .ok (.iconst 1, 1) := by decide +kernel
theorem dX7_gapsOf_81 : decode cX7_gapsOf 81 = .ok (.iadd, 1) := by decide +kernel
theorem dX7_gapsOf_82 : decode cX7_gapsOf 82 = .ok (.istore_n 3, 1) := by decide +kernel
theorem dX7_gapsOf_83 : decode cX7_gapsOf 83 = .ok (.iinc 4 1, 3) := by decide +kernel
theorem dX7_gapsOf_86 : decode cX7_gapsOf 86 = .ok (.goto (-79), 3) := by decide +kernel
theorem dX7_gapsOf_89 : decode cX7_gapsOf 89 = .ok (.iload_n 2, 1) := by decide +kernel
theorem dX7_gapsOf_90 : decode cX7_gapsOf 90 = .ok (.ireturn, 1) := by decide +kernel
theorem dX7_gapsNow_0 : decode cX7_gapsNow 0 = .ok (.iconst 0, 1) := by decide +kernel
theorem dX7_gapsNow_1 : decode cX7_gapsNow 1 = .ok (.istore_n 1, 1) := by decide +kernel
theorem dX7_gapsNow_2 : decode cX7_gapsNow 2 = .ok (.iconst 0, 1) := by decide +kernel
theorem dX7_gapsNow_3 : decode cX7_gapsNow 3 = .ok (.istore_n 2, 1) := by decide +kernel
theorem dX7_gapsNow_4 : decode cX7_gapsNow 4 = .ok (.iload_n 2, 1) := by decide +kernel
theorem dX7_gapsNow_5 : decode cX7_gapsNow 5 = .ok (.bipush 10, 2) := by decide +kernel
theorem dX7_gapsNow_7 : decode cX7_gapsNow 7 = .ok (.if_icmp .ge 37, 3) := by decide +kernel
theorem dX7_gapsNow_10 : decode cX7_gapsNow 10 = .ok (.iload_n 1, 1) := by decide +kernel
theorem dX7_gapsNow_11 : decode cX7_gapsNow 11 = .ok (.aload_n 0, 1) := by decide +kernel
theorem dX7_gapsNow_12 : decode cX7_gapsNow 12 = .ok (.getfield 16, 3) := by decide +kernel
theorem dX7_gapsNow_15 : decode cX7_gapsNow 15 = .ok (.iload_n 2, 1) := by decide +kernel
theorem dX7_gapsNow_16 : decode cX7_gapsNow 16 = .ok (.iaload, 1) := by decide +kernel
theorem dX7_gapsNow_17 : decode cX7_gapsNow 17 = .ok (.ifCond .ne 7, 3) := by decide +kernel
theorem dX7_gapsNow_20 : decode cX7_gapsNow 20 = .ok (.iconst 0, 1) := by decide +kernel
theorem dX7_gapsNow_21 : decode cX7_gapsNow 21 = .ok (.goto 15, 3) := by decide +kernel
theorem dX7_gapsNow_24 : decode cX7_gapsNow 24 = .ok (.aload_n 0, 1) := by decide +kernel
theorem dX7_gapsNow_25 : decode cX7_gapsNow 25 = .ok (.getfield 16, 3) := by decide +kernel
theorem dX7_gapsNow_28 : decode cX7_gapsNow 28 = .ok (.iload_n 2, 1) := by decide +kernel
theorem dX7_gapsNow_29 : decode cX7_gapsNow 29 = .ok (.iaload, 1) := by decide +kernel
theorem dX7_gapsNow_30 : decode cX7_gapsNow 30 = .ok (.aload_n 0, 1) := by decide +kernel
theorem dX7_gapsNow_31 : decode cX7_gapsNow 31 = .ok (.iload_n 2, 1) := by decide +kernel
theorem dX7_gapsNow_32 : decode cX7_gapsNow 32 = .ok (.invokevirtual 156, 3) := by decide +kernel
theorem dX7_gapsNow_35 : decode cX7_gapsNow 35 = .ok (.imul, 1) := by decide +kernel
theorem dX7_gapsNow_36 : decode cX7_gapsNow 36 = .ok (.iadd, 1) := by decide +kernel
theorem dX7_gapsNow_37 : decode cX7_gapsNow 37 = .ok (.istore_n 1, 1) := by decide +kernel
theorem dX7_gapsNow_38 : decode cX7_gapsNow 38 = .ok (.iinc 2 1, 3) := by decide +kernel
theorem dX7_gapsNow_41 : decode cX7_gapsNow 41 = .ok (.goto (-37), 3) := by decide +kernel
theorem dX7_gapsNow_44 : decode cX7_gapsNow 44 = .ok (.iload_n 1, 1) := by decide +kernel
theorem dX7_gapsNow_45 : decode cX7_gapsNow 45 = .ok (.ireturn, 1) := by decide +kernel
theorem dX7_canBe_0 : decode cX7_canBe 0 = .ok (.iconst 0, 1) := by decide +kernel
theorem dX7_canBe_1 : decode cX7_canBe 1 = .ok (.istore_n 1, 1) := by decide +kernel
theorem dX7_canBe_2 : decode cX7_canBe 2 = .ok (.iconst 0, 1) := by decide +kernel
theorem dX7_canBe_3 : decode cX7_canBe 3 = .ok (.istore_n 2, 1) := by decide +kernel
theorem dX7_canBe_4 : decode cX7_canBe 4 = .ok (.iconst 0, 1) := by decide +kernel
theorem dX7_canBe_5 : decode cX7_canBe 5 = .ok (.istore_n 3, 1) := by decide +kernel
theorem dX7_canBe_6 : decode cX7_canBe 6 = .ok (.iload_n 3, 1) := by decide +kernel
theorem dX7_canBe_7 : decode cX7_canBe 7 = .ok (.aload_n 0, 1) := by decide +kernel
theorem dX7_canBe_8 : decode cX7_canBe 8 = .ok (.getfield 95, 3) := by decide +kernel
theorem dX7_canBe_11 : decode cX7_canBe 11 = .ok (.if_icmp .ge 106, 3) := by decide +kernel
theorem dX7_canBe_14 : decode cX7_canBe 14 = .ok (.aload_n 0, 1) := by decide +kernel
theorem dX7_canBe_15 : decode cX7_canBe 15 = .ok (.getfield 56, 3) := by decide +kernel
theorem dX7_canBe_18 : decode cX7_canBe 18 = .ok (.iload_n 3, 1) := by decide +kernel
theorem dX7_canBe_19 : decode cX7_canBe 19 = .ok (.iaload, 1) := by decide +kernel
theorem dX7_canBe_20 : decode cX7_canBe 20 = .ok (.istore 4, 2) := by decide +kernel
theorem dX7_canBe_22 : decode cX7_canBe 22 = .ok (.aload_n 0, 1) := by decide +kernel
theorem dX7_canBe_23 : decode cX7_canBe 23 = .ok (.getfield 7, 3) := by decide +kernel
theorem dX7_canBe_26 : decode cX7_canBe 26 = .ok (.iload 4, 2) := by decide +kernel
theorem dX7_canBe_28 : decode cX7_canBe 28 = .ok (.iaload, 1) := by decide +kernel
theorem dX7_canBe_29 : decode cX7_canBe 29 = .ok (.iload_n 1, 1) := by decide +kernel
theorem dX7_canBe_30 : decode cX7_canBe 30 = .ok (.if_icmp .le 13, 3) := by decide +kernel
theorem dX7_canBe_33 : decode cX7_canBe 33 = .ok (.aload_n 0, 1) := by decide +kernel
theorem dX7_canBe_34 : decode cX7_canBe 34 = .ok (.getfield 7, 3) := by decide +kernel
theorem dX7_canBe_37 : decode cX7_canBe 37 = .ok (.iload 4, 2) := by decide +kernel
theorem dX7_canBe_39 : decode cX7_canBe 39 = .ok (.iaload, 1) := by decide +kernel
theorem dX7_canBe_40 : decode cX7_canBe 40 = .ok (.goto 4, 3) := by decide +kernel
theorem dX7_canBe_43 : decode cX7_canBe 43 = .ok (.iload_n 1, 1) := by decide +kernel
theorem dX7_canBe_44 : decode cX7_canBe 44 = .ok (.istore_n 1, 1) := by decide +kernel
theorem dX7_canBe_45 : decode cX7_canBe 45 = .ok (.iload_n 1, 1) := by decide +kernel
theorem dX7_canBe_46 : decode cX7_canBe 46 = .ok (.aload_n 0, 1) := by decide +kernel
theorem dX7_canBe_47 : decode cX7_canBe 47 = .ok (.getfield 13, 3) := by decide +kernel
theorem dX7_canBe_50 : decode cX7_canBe 50 = .ok (.iload 4, 2) := by decide +kernel
theorem dX7_canBe_52 : decode cX7_canBe 52 = .ok (.iaload, 1) := by decide +kernel
theorem dX7_canBe_53 : decode cX7_canBe 53 = .ok (.if_icmp .le 5, 3) := by decide +kernel
theorem dX7_canBe_56 : decode cX7_canBe 56 = .ok (.iconst 0, 1) := by decide +kernel
theorem dX7_canBe_57 : decode cX7_canBe 57 = .ok (.ireturn, 1) := by decide +kernel
theorem dX7_canBe_58 : decode cX7_canBe 58 = .ok (.iconst 0, 1) := by decide +kernel
theorem dX7_canBe_59 : decode cX7_canBe 59 = .ok (.istore 5, 2) := by decide +kernel
theorem dX7_canBe_61 : decode cX7_canBe 61 = .ok (.iload 5, 2) := by decide +kernel
theorem dX7_canBe_63 : decode cX7_canBe 63 = .ok (.aload_n 0, 1) := by decide +kernel
theorem dX7_canBe_64 : decode cX7_canBe 64 = .ok (.getfield 116, 3) := by decide +kernel
theorem dX7_canBe_67 : decode cX7_canBe 67 = .ok (.if_icmp .ge 37, 3) := by decide +kernel
theorem dX7_canBe_70 : decode cX7_canBe 70 = .ok (.aload_n 0, 1) := by decide +kernel
theorem dX7_canBe_71 : decode cX7_canBe 71 = .ok (.getfield 19, 3) := by decide +kernel
theorem dX7_canBe_74 : decode cX7_canBe 74 = .ok (.iload 5, 2) := by decide +kernel
theorem dX7_canBe_76 : decode cX7_canBe 76 = .ok (.iaload, 1) := by decide +kernel
theorem dX7_canBe_77 : decode cX7_canBe 77 = .ok (.iload 4, 2) := by decide +kernel
theorem dX7_canBe_79 : decode cX7_canBe 79 = .ok (.if_icmp .ne 19, 3) := by decide +kernel
theorem dX7_canBe_82 : decode cX7_canBe 82 = .ok (.iload_n 2, 1) := by decide +kernel
theorem dX7_canBe_83 : decode cX7_canBe 83 = .ok (.aload_n 0, 1) := by decide +kernel
theorem dX7_canBe_84 : decode cX7_canBe 84 = .ok (.getfield 22, 3) := by decide +kernel
theorem dX7_canBe_87 : decode cX7_canBe 87 = .ok (.iload 5, 2) := by decide +kernel
theorem dX7_canBe_89 : decode cX7_canBe 89 = .ok (.iaload, 1) := by decide +kernel
theorem dX7_canBe_90 : decode cX7_canBe 90 = .ok (.invokestatic 152, 3) := by decide +kernel
theorem dX7_canBe_93 : decode cX7_canBe 93 = .ok (.ifCond .ne 5, 3) := by decide +kernel
theorem dX7_canBe_96 : decode cX7_canBe 96 = .ok (.iconst 0, 1) := by decide +kernel
theorem dX7_canBe_97 : decode cX7_canBe 97 = .ok (.ireturn, 1) := by decide +kernel
theorem dX7_canBe_98 : decode cX7_canBe 98 = .ok (.iinc 5 1, 3) := by decide +kernel
theorem dX7_canBe_101 : decode cX7_canBe 101 = .ok (.goto (-40), 3) := by decide +kernel
theorem dX7_canBe_104 : decode cX7_canBe 104 = .ok (.iload_n 2, 1) := by decide +kernel
theorem dX7_canBe_105 : decode cX7_canBe 105 = .ok (.iconst 1, 1) := by decide +kernel
theorem dX7_canBe_106 : decode cX7_canBe 106 = .ok (.iload 4, 2) := by decide +kernel
theorem dX7_canBe_108 : decode cX7_canBe 108 = .ok (.ishl, 1) := by decide +kernel
theorem dX7_canBe_109 : decode cX7_canBe 109 = .ok (.ior, 1) := by decide +kernel
theorem dX7_canBe_110 : decode cX7_canBe 110 = .ok (.istore_n 2, 1) := by decide +kernel
theorem dX7_canBe_111 : decode cX7_canBe 111 = .ok (.iinc 3 1, 3) := by decide +kernel
theorem dX7_canBe_114 : decode cX7_canBe 114 = .ok (.goto (-108), 3) := by decide +kernel
theorem dX7_canBe_117 : decode cX7_canBe 117 = .ok (.iconst 1, 1) := by decide +kernel
theorem dX7_canBe_118 : decode cX7_canBe 118 = .ok (.ireturn, 1) := by decide +kernel
theorem dX7_turns_0 : decode cX7_turns 0 = .ok (.aload_n 0, 1) := by decide +kernel
theorem dX7_turns_1 : decode cX7_turns 1 = .ok (.getfield 95, 3) := by decide +kernel
theorem dX7_turns_4 : decode cX7_turns 4 = .ok (.iconst 2, 1) := by decide +kernel
theorem dX7_turns_5 : decode cX7_turns 5 = .ok (.isub, 1) := by decide +kernel
theorem dX7_turns_6 : decode cX7_turns 6 = .ok (.istore_n 1, 1) := by decide +kernel
theorem dX7_turns_7 : decode cX7_turns 7 = .ok (.iload_n 1, 1) := by decide +kernel
theorem dX7_turns_8 : decode cX7_turns 8 = .ok (.ifCond .lt 26, 3) := by decide +kernel
theorem dX7_turns_11 : decode cX7_turns 11 = .ok (.aload_n 0, 1) := by decide +kernel
theorem dX7_turns_12 : decode cX7_turns 12 = .ok (.getfield 56, 3) := by decide +kernel
theorem dX7_turns_15 : decode cX7_turns 15 = .ok (.iload_n 1, 1) := by decide +kernel
theorem dX7_turns_16 : decode cX7_turns 16 = .ok (.iaload, 1) := by decide +kernel
theorem dX7_turns_17 : decode cX7_turns 17 = .ok (.aload_n 0, 1) := by decide +kernel
theorem dX7_turns_18 : decode cX7_turns 18 = .ok (.getfield 56, 3) := by decide +kernel
theorem dX7_turns_21 : decode cX7_turns 21 = .ok (.iload_n 1, 1) := by decide +kernel
theorem dX7_turns_22 : decode cX7_turns 22 = .ok (.iconst 1, 1) := by decide +kernel
theorem dX7_turns_23 : decode cX7_turns 23 = .ok (.iadd, 1) := by decide +kernel
theorem dX7_turns_24 : decode cX7_turns 24 = .ok (.iaload, 1) := by decide +kernel
theorem dX7_turns_25 : decode cX7_turns 25 = .ok (.if_icmp .le 9, 3) := by decide +kernel
theorem dX7_turns_28 : decode cX7_turns 28 = .ok (.iinc 1 (-1), 3) := by decide +kernel
theorem dX7_turns_31 : decode cX7_turns 31 = .ok (.goto (-24), 3) := by decide +kernel
theorem dX7_turns_34 : decode cX7_turns 34 = .ok (.iload_n 1, 1) := by decide +kernel
theorem dX7_turns_35 : decode cX7_turns 35 = .ok (.ifCond .ge 5, 3) := by decide +kernel
theorem dX7_turns_38 : decode cX7_turns 38 = .ok (.iconst 0, 1) := by decide +kernel
theorem dX7_turns_39 : decode cX7_turns 39 = .ok (.ireturn, 1) := by decide +kernel
theorem dX7_turns_40 : decode cX7_turns 40 = .ok (.aload_n 0, 1) := by decide +kernel
theorem dX7_turns_41 : decode cX7_turns 41 = .ok (.getfield 95, 3) := by decide +kernel
theorem dX7_turns_44 : decode cX7_turns 44 = .ok (.iconst 1, 1) := by decide +kernel
theorem dX7_turns_45 : decode cX7_turns 45 = .ok (.isub, 1) := by decide +kernel
theorem dX7_turns_46 : decode cX7_turns 46 = .ok (.istore_n 2, 1) := by decide +kernel
theorem dX7_turns_47 : decode cX7_turns 47 = .ok (.aload_n 0, 1) := by decide +kernel
theorem dX7_turns_48 : decode cX7_turns 48 = .ok (.getfield 56, 3) := by decide +kernel
theorem dX7_turns_51 : decode cX7_turns 51 = .ok (.iload_n 2, 1) := by decide +kernel
theorem dX7_turns_52 : decode cX7_turns 52 = .ok (.iaload, 1) := by decide +kernel
theorem dX7_turns_53 : decode cX7_turns 53 = .ok (.aload_n 0, 1) := by decide +kernel
theorem dX7_turns_54 : decode cX7_turns 54 = .ok (.getfield 56, 3) := by decide +kernel
theorem dX7_turns_57 : decode cX7_turns 57 = .ok (.iload_n 1, 1) := by decide +kernel
theorem dX7_turns_58 : decode cX7_turns 58 = .ok (.iaload, 1) := by decide +kernel
theorem dX7_turns_59 : decode cX7_turns 59 = .ok (.if_icmp .ge 9, 3) := by decide +kernel
theorem dX7_turns_62 : decode cX7_turns 62 = .ok (.iinc 2 (-1), 3) := by decide +kernel
theorem dX7_turns_65 : decode cX7_turns 65 = .ok (.goto (-18), 3) := by decide +kernel
theorem dX7_turns_68 : decode cX7_turns 68 = .ok (.aload_n 0, 1) := by decide +kernel
theorem dX7_turns_69 : decode cX7_turns 69 = .ok (.getfield 56, 3) := by decide +kernel
theorem dX7_turns_72 : decode cX7_turns 72 = .ok (.iload_n 1, 1) := by decide +kernel
theorem dX7_turns_73 : decode cX7_turns 73 = .ok (.iaload, 1) := by decide +kernel
theorem dX7_turns_74 : decode cX7_turns 74 = .ok (.istore_n 3, 1) := by decide +kernel
theorem dX7_turns_75 : decode cX7_turns 75 = .ok (.aload_n 0, 1) := by decide +kernel
theorem dX7_turns_76 : decode cX7_turns 76 = .ok (.getfield 56, 3) := by decide +kernel
theorem dX7_turns_79 : decode cX7_turns 79 = .ok (.iload_n 1, 1) := by decide +kernel
theorem dX7_turns_80 : decode cX7_turns 80 = .ok (.aload_n 0, 1) := by decide +kernel
theorem dX7_turns_81 : decode cX7_turns 81 = .ok (.getfield 56, 3) := by decide +kernel
theorem dX7_turns_84 : decode cX7_turns 84 = .ok (.iload_n 2, 1) := by decide +kernel
theorem dX7_turns_85 : decode cX7_turns 85 = .ok (.iaload, 1) := by decide +kernel
theorem dX7_turns_86 : decode cX7_turns 86 = .ok (.iastore, 1) := by decide +kernel
theorem dX7_turns_87 : decode cX7_turns 87 = .ok (.aload_n 0, 1) := by decide +kernel
theorem dX7_turns_88 : decode cX7_turns 88 = .ok (.getfield 56, 3) := by decide +kernel
theorem dX7_turns_91 : decode cX7_turns 91 = .ok (.iload_n 2, 1) := by decide +kernel
theorem dX7_turns_92 : decode cX7_turns 92 = .ok (.iload_n 3, 1) := by decide +kernel
theorem dX7_turns_93 : decode cX7_turns 93 = .ok (.iastore, 1) := by decide +kernel
theorem dX7_turns_94 : decode cX7_turns 94 = .ok (.iload_n 1, 1) := by decide +kernel
theorem dX7_turns_95 : decode cX7_turns 95 = .ok (.iconst 1, 1) := by decide +kernel
theorem dX7_turns_96 : decode cX7_turns 96 = .ok (.iadd, 1) := by decide +kernel
theorem dX7_turns_97 : decode cX7_turns 97 = .ok (.istore 4, 2) := by decide +kernel
theorem dX7_turns_99 : decode cX7_turns 99 = .ok (.aload_n 0, 1) := by decide +kernel
theorem dX7_turns_100 : decode cX7_turns 100 = .ok (.getfield 95, 3) := by decide +kernel
theorem dX7_turns_103 : decode cX7_turns 103 = .ok (.iconst 1, 1) := by decide +kernel
theorem dX7_turns_104 : decode cX7_turns 104 = .ok (.isub, 1) := by decide +kernel
theorem dX7_turns_105 : decode cX7_turns 105 = .ok (.istore 5, 2) := by decide +kernel
theorem dX7_turns_107 : decode cX7_turns 107 = .ok (.iload 4, 2) := by decide +kernel
theorem dX7_turns_109 : decode cX7_turns 109 = .ok (.iload 5, 2) := by decide +kernel
theorem dX7_turns_111 : decode cX7_turns 111 = .ok (.if_icmp .ge 42, 3) := by decide +kernel
theorem dX7_turns_114 : decode cX7_turns 114 = .ok (.aload_n 0, 1) := by decide +kernel
theorem dX7_turns_115 : decode cX7_turns 115 = .ok (.getfield 56, 3) := by decide +kernel
theorem dX7_turns_118 : decode cX7_turns 118 = .ok (.iload 4, 2) := by decide +kernel
theorem dX7_turns_120 : decode cX7_turns 120 = .ok (.iaload, 1) := by decide +kernel
theorem dX7_turns_121 : decode cX7_turns 121 = .ok (.istore_n 3, 1) := by decide +kernel
theorem dX7_turns_122 : decode cX7_turns 122 = .ok (.aload_n 0, 1) := by decide +kernel
theorem dX7_turns_123 : decode cX7_turns 123 = .ok (.getfield 56, 3) := by decide +kernel
theorem dX7_turns_126 : decode cX7_turns 126 = .ok (.iload 4, 2) := by decide +kernel
theorem dX7_turns_128 : decode cX7_turns 128 = .ok (.aload_n 0, 1) := by decide +kernel
theorem dX7_turns_129 : decode cX7_turns 129 = .ok (.getfield 56, 3) := by decide +kernel
theorem dX7_turns_132 : decode cX7_turns 132 = .ok (.iload 5, 2) := by decide +kernel
theorem dX7_turns_134 : decode cX7_turns 134 = .ok (.iaload, 1) := by decide +kernel
theorem dX7_turns_135 : decode cX7_turns 135 = .ok (.iastore, 1) := by decide +kernel
theorem dX7_turns_136 : decode cX7_turns 136 = .ok (.aload_n 0, 1) := by decide +kernel
theorem dX7_turns_137 : decode cX7_turns 137 = .ok (.getfield 56, 3) := by decide +kernel
theorem dX7_turns_140 : decode cX7_turns 140 = .ok (.iload 5, 2) := by decide +kernel
theorem dX7_turns_142 : decode cX7_turns 142 = .ok (.iload_n 3, 1) := by decide +kernel
theorem dX7_turns_143 : decode cX7_turns 143 = .ok (.iastore, 1) := by decide +kernel
theorem dX7_turns_144 : decode cX7_turns 144 = .ok (.iinc 4 1, 3) := by decide +kernel
theorem dX7_turns_147 : decode cX7_turns 147 = .ok (.iinc 5 (-1), 3) := by decide +kernel
theorem dX7_turns_150 : decode cX7_turns 150 = .ok (.goto (-43), 3) := by decide +kernel
theorem dX7_turns_153 : decode cX7_turns 153 = .ok (.iconst 1, 1) := by decide +kernel
theorem dX7_turns_154 : decode cX7_turns 154 = .ok (.ireturn, 1) := by decide +kernel
theorem dX7_plain_0 : decode cX7_plain 0 = .ok (.iconst 0, 1) := by decide +kernel
theorem dX7_plain_1 : decode cX7_plain 1 = .ok (.istore_n 1, 1) := by decide +kernel
theorem dX7_plain_2 : decode cX7_plain 2 = .ok (.iload_n 1, 1) := by decide +kernel
theorem dX7_plain_3 : decode cX7_plain 3 = .ok (.aload_n 0, 1) := by decide +kernel
theorem dX7_plain_4 : decode cX7_plain 4 = .ok (.getfield 95, 3) := by decide +kernel
theorem dX7_plain_7 : decode cX7_plain 7 = .ok (.if_icmp .ge 16, 3) := by decide +kernel
theorem dX7_plain_10 : decode cX7_plain 10 = .ok (.aload_n 0, 1) := by decide +kernel
theorem dX7_plain_11 : decode cX7_plain 11 = .ok (.getfield 56, 3) := by decide +kernel
theorem dX7_plain_14 : decode cX7_plain 14 = .ok (.iload_n 1, 1) := by decide +kernel
theorem dX7_plain_15 : decode cX7_plain 15 = .ok (.iload_n 1, 1) := by decide +kernel
theorem dX7_plain_16 : decode cX7_plain 16 = .ok (.iastore, 1) := by decide +kernel
theorem dX7_plain_17 : decode cX7_plain 17 = .ok (.iinc 1 1, 3) := by decide +kernel
theorem dX7_plain_20 : decode cX7_plain 20 = .ok (.goto (-18), 3) := by decide +kernel
theorem dX7_plain_23 : decode cX7_plain 23 = .ok (.return_, 1) := by decide +kernel
theorem dX7_works_0 : decode cX7_works 0 = .ok (.aload_n 0, 1) := by decide +kernel
theorem dX7_works_1 : decode cX7_works 1 = .ok (.getfield 102, 3) := by decide +kernel
theorem dX7_works_4 : decode cX7_works 4 = .ok (.ifCond .eq 4, 3) := by decide +kernel
theorem dX7_works_7 : decode cX7_works 7 = .ok (.return_, 1) := by decide +kernel
theorem dX7_works_8 : decode cX7_works 8 = .ok (.aload_n 0, 1) := by decide +kernel
theorem dX7_works_9 : decode cX7_works 9 = .ok (.iconst 1, 1) := by decide +kernel
theorem dX7_works_10 : decode cX7_works 10 = .ok (.putfield 102, 3) := by decide +kernel
theorem dX7_works_13 : decode cX7_works 13 = .ok (.aload_n 0, 1) := by decide +kernel
theorem dX7_works_14 : decode cX7_works 14 = .ok (.invokevirtual 149, 3) := by decide +kernel
theorem dX7_works_17 : decode cX7_works 17 = .ok (.aload_n 0, 1) := by decide +kernel
theorem dX7_works_18 : decode cX7_works 18 = .ok (.ldc 159, 2) := by decide +kernel
theorem dX7_works_20 : decode cX7_works 20 = .ok (.putfield 160, 3) := by decide +kernel
theorem dX7_works_23 : decode cX7_works 23 = .ok (.aload_n 0, 1) := by decide +kernel
theorem dX7_works_24 : decode cX7_works 24 = .ok (.iconst 0, 1) := by decide +kernel
theorem dX7_works_25 : decode cX7_works 25 = .ok (.putfield 163, 3) := by decide +kernel
theorem dX7_works_28 : decode cX7_works 28 = .ok (.aload_n 0, 1) := by decide +kernel
theorem dX7_works_29 : decode cX7_works 29 = .ok (.iconst 0, 1) := by decide +kernel
theorem dX7_works_30 : decode cX7_works 30 = .ok (.putfield 166, 3) := by decide +kernel
theorem dX7_works_33 : decode cX7_works 33 = .ok (.aload_n 0, 1) := by decide +kernel
theorem dX7_works_34 : decode cX7_works 34 = .ok (.lconst 0, 1) := by decide +kernel
theorem dX7_works_35 : decode cX7_works 35 = .ok (.putfield 169, 3) := by decide +kernel
theorem dX7_works_38 : decode cX7_works 38 = .ok (.aload_n 0, 1) := by decide +kernel
theorem dX7_works_39 : decode cX7_works 39 = .ok (.iconst (-1), 1) := by decide +kernel
theorem dX7_works_40 : decode cX7_works 40 = .ok (.putfield 173, 3) := by decide +kernel
theorem dX7_works_43 : decode cX7_works 43 = .ok (.iconst 0, 1) := by decide +kernel
theorem dX7_works_44 : decode cX7_works 44 = .ok (.istore_n 1, 1) := by decide +kernel
theorem dX7_works_45 : decode cX7_works 45 = .ok (.iload_n 1, 1) := by decide +kernel
theorem dX7_works_46 : decode cX7_works 46 = .ok (.sipush 1000, 3) := by decide +kernel
theorem dX7_works_49 : decode cX7_works 49 = .ok (.if_icmp .ge 16, 3) := by decide +kernel
theorem dX7_works_52 : decode cX7_works 52 = .ok (.aload_n 0, 1) := by decide +kernel
theorem dX7_works_53 : decode cX7_works 53 = .ok (.getfield 59, 3) := by decide +kernel
theorem dX7_works_56 : decode cX7_works 56 = .ok (.iload_n 1, 1) := by decide +kernel
theorem dX7_works_57 : decode cX7_works 57 = .ok (.iconst 0, 1) := by decide +kernel
theorem dX7_works_58 : decode cX7_works 58 = .ok (.iastore, 1) := by decide +kernel
theorem dX7_works_59 : decode cX7_works 59 = .ok (.iinc 1 1, 3) := by decide +kernel
theorem dX7_works_62 : decode cX7_works 62 = .ok (.goto (-17), 3) := by decide +kernel
theorem dX7_works_65 : decode cX7_works 65 = .ok (.aload_n 0, 1) := by decide +kernel
theorem dX7_works_66 : decode cX7_works 66 = .ok (.invokevirtual 176, 3) := by decide +kernel
theorem dX7_works_69 : decode cX7_works 69 = .ok (.iconst 1, 1) := by decide +kernel
theorem dX7_works_70 : decode cX7_works 70 = .ok (.istore_n 1, 1) := by decide +kernel
theorem dX7_works_71 : decode cX7_works 71 = .ok (.iload_n 1, 1) := by decide +kernel
theorem dX7_works_72 : decode cX7_works 72 = .ok (.ifCond .eq 22, 3) := by decide +kernel
theorem dX7_works_75 : decode cX7_works 75 = .ok (.aload_n 0, 1) := by decide +kernel
theorem dX7_works_76 : decode cX7_works 76 = .ok (.invokevirtual 179, 3) := by decide +kernel
theorem dX7_works_79 : decode cX7_works 79 = .ok (.ifCond .eq 7, 3) := by decide +kernel
theorem dX7_works_82 : decode cX7_works 82 = .ok (.aload_n 0, 1) := by decide +kernel
theorem dX7_works_83 : decode cX7_works 83 = .ok (.invokevirtual 183, 3) := by decide +kernel
theorem dX7_works_86 : decode cX7_works 86 = .ok (.aload_n 0, 1) := by decide +kernel
theorem dX7_works_87 : decode cX7_works 87 = .ok (.invokevirtual 186, 3) := by decide +kernel
theorem dX7_works_90 : decode cX7_works 90 = .ok (.istore_n 1, 1) := by decide +kernel
theorem dX7_works_91 : decode cX7_works 91 = .ok (.goto (-20), 3) := by decide +kernel
theorem dX7_works_94 : decode cX7_works 94 = .ok (.return_, 1) := by decide +kernel
theorem dX7_counts_0 : decode cX7_counts 0 = .ok (.iconst 0, 1) := by decide +kernel
theorem dX7_counts_1 : decode cX7_counts 1 = .ok (.istore_n 1, 1) := by decide +kernel
theorem dX7_counts_2 : decode cX7_counts 2 = .ok (.iconst 0, 1) := by decide +kernel
theorem dX7_counts_3 : decode cX7_counts 3 = .ok (.istore_n 2, 1) := by decide +kernel
theorem dX7_counts_4 : decode cX7_counts 4 = .ok (.iconst 0, 1) := by decide +kernel
theorem dX7_counts_5 : decode cX7_counts 5 = .ok (.istore_n 3, 1) := by decide +kernel
theorem dX7_counts_6 : decode cX7_counts 6 = .ok (.iload_n 3, 1) := by decide +kernel
theorem dX7_counts_7 : decode cX7_counts 7 = .ok (.bipush 10, 2) := by decide +kernel
theorem dX7_counts_9 : decode cX7_counts 9 = .ok (.if_icmp .ge 56, 3) := by decide +kernel
theorem dX7_counts_12 : decode cX7_counts 12 = .ok (.aload_n 0, 1) := by decide +kernel
theorem dX7_counts_13 : decode cX7_counts 13 = .ok (.getfield 16, 3) := by decide +kernel
theorem dX7_counts_16 : decode cX7_counts 16 = .ok (.iload_n 3, 1) := by decide +kernel
theorem dX7_counts_17 : decode cX7_counts 17 = .ok (.iaload, 1) := by decide +kernel
theorem dX7_counts_18 : decode cX7_counts 18 = .ok (.ifCond .ne 7, 3) := by decide +kernel
theorem dX7_counts_21 : decode cX7_counts 21 = .ok (.iconst 0, 1) := by decide +kernel
theorem dX7_counts_22 : decode cX7_counts 22 = .ok (.goto 8, 3) := by decide +kernel
theorem dX7_counts_25 : decode cX7_counts 25 = .ok (.aload_n 0, 1) := by decide +kernel
theorem dX7_counts_26 : decode cX7_counts 26 = .ok (.iload_n 3, 1) := by decide +kernel
theorem dX7_counts_27 : decode cX7_counts 27 = .ok (.invokevirtual 156, 3) := by decide +kernel
theorem dX7_counts_30 : decode cX7_counts 30 = .ok (.istore 4, 2) := by decide +kernel
theorem dX7_counts_32 : decode cX7_counts 32 = .ok (.iload_n 1, 1) := by decide +kernel
theorem dX7_counts_33 : decode cX7_counts 33 = .ok (.aload_n 0, 1) := by decide +kernel
theorem dX7_counts_34 : decode cX7_counts 34 = .ok (.getfield 16, 3) := by decide +kernel
theorem dX7_counts_37 : decode cX7_counts 37 = .ok (.iload_n 3, 1) := by decide +kernel
theorem dX7_counts_38 : decode cX7_counts 38 = .ok (.iaload, 1) := by decide +kernel
theorem dX7_counts_39 : decode cX7_counts 39 = .ok (.iload 4, 2) := by decide +kernel
theorem dX7_counts_41 : decode cX7_counts 41 = .ok (.imul, 1) := by decide +kernel
theorem dX7_counts_42 : decode cX7_counts 42 = .ok (.iadd, 1) := by decide +kernel
theorem dX7_counts_43 : decode cX7_counts 43 = .ok (.istore_n 1, 1) := by decide +kernel
theorem dX7_counts_44 : decode cX7_counts 44 = .ok (.iload_n 2, 1) := by decide +kernel
theorem dX7_counts_45 : decode cX7_counts 45 = .ok (.iload 4, 2) := by decide +kernel
theorem dX7_counts_47 : decode cX7_counts 47 = .ok (.ifCond .le 9, 3) := by decide +kernel
theorem dX7_counts_50 : decode cX7_counts 50 = .ok (.iconst 1, 1) := by decide +kernel
theorem dX7_counts_51 : decode cX7_counts 51 = .ok (.iload_n 3, 1) := by decide +kernel
theorem dX7_counts_52 : decode cX7_counts 52 = .ok (.ishl, 1) := by decide +kernel
theorem dX7_counts_53 : decode cX7_counts 53 = .ok (.goto 4, 3) := by decide +kernel
theorem dX7_counts_56 : decode cX7_counts 56 = .ok (.iconst 0, 1) := by decide +kernel
theorem dX7_counts_57 : decode cX7_counts 57 = .ok (.ior, 1) := by decide +kernel
theorem dX7_counts_58 : decode cX7_counts 58 = .ok (.istore_n 2, 1) := by decide +kernel
theorem dX7_counts_59 : decode cX7_counts 59 = .ok (.iinc 3 1, 3) := by decide +kernel
theorem dX7_counts_62 : decode cX7_counts 62 = .ok (.goto (-56), 3) := by decide +kernel
theorem dX7_counts_65 : decode cX7_counts 65 = .ok (.aload_n 0, 1) := by decide +kernel
theorem dX7_counts_66 : decode cX7_counts 66 = .ok (.dup, 1) := by decide +kernel
theorem dX7_counts_67 : decode cX7_counts 67 = .ok (.getfield 166, 3) := by decide +kernel
theorem dX7_counts_70 : decode cX7_counts 70 = .ok (.iconst 1, 1) := by decide +kernel
theorem dX7_counts_71 : decode cX7_counts 71 = .ok (.iadd, 1) := by decide +kernel
theorem dX7_counts_72 : decode cX7_counts 72 = .ok (.putfield 166, 3) := by decide +kernel
theorem dX7_counts_75 : decode cX7_counts 75 = .ok (.aload_n 0, 1) := by decide +kernel
theorem dX7_counts_76 : decode cX7_counts 76 = .ok (.dup, 1) := by decide +kernel
theorem dX7_counts_77 : decode cX7_counts 77 = .ok (.getfield 169, 3) := by decide +kernel
theorem dX7_counts_80 : decode cX7_counts 80 = .ok (.iload_n 1, 1) := by decide +kernel
theorem dX7_counts_81 : decode cX7_counts 81 = .ok (.i2l, 1) := by decide +kernel
theorem dX7_counts_82 : decode cX7_counts 82 = .ok (.ladd, 1) := by decide +kernel
theorem dX7_counts_83 : decode cX7_counts 83 = .ok (.putfield 169, 3) := by decide +kernel
theorem dX7_counts_86 : decode cX7_counts 86 = .ok (.aload_n 0, 1) := by decide +kernel
theorem dX7_counts_87 : decode cX7_counts 87 = .ok (.getfield 59, 3) := by decide +kernel
theorem dX7_counts_90 : decode cX7_counts 90 = .ok (.iload_n 1, 1) := by decide +kernel
theorem dX7_counts_91 : decode cX7_counts 91 = .ok (.dup2, 1) := by decide +kernel
theorem dX7_counts_92 : decode cX7_counts 92 = .ok (.iaload, 1) := by decide +kernel
theorem dX7_counts_93 : decode cX7_counts 93 = .ok (.iconst 1, 1) := by decide +kernel
theorem dX7_counts_94 : decode cX7_counts 94 = .ok (.iadd, 1) := by decide +kernel
theorem dX7_counts_95 : decode cX7_counts 95 = .ok (.iastore, 1) := by decide +kernel
theorem dX7_counts_96 : decode cX7_counts 96 = .ok (.aload_n 0, 1) := by decide +kernel
theorem dX7_counts_97 : decode cX7_counts 97 = .ok (.getfield 173, 3) := by decide +kernel
theorem dX7_counts_100 : decode cX7_counts 100 = .ok (.iconst (-1), 1) := by decide +kernel
theorem dX7_counts_101 : decode cX7_counts 101 = .ok (.if_icmp .eq 39, 3) := by decide +kernel
theorem dX7_counts_104 : decode cX7_counts 104 = .ok (.iload_n 2, 1) := by decide +kernel
theorem dX7_counts_105 : decode cX7_counts 105 = .ok (.invokestatic 189, 3) := by decide +kernel
theorem dX7_counts_108 : decode cX7_counts 108 = .ok (.aload_n 0, 1) := by decide +kernel
theorem dX7_counts_109 : decode cX7_counts 109 = .ok (.getfield 173, 3) := by decide +kernel
theorem dX7_counts_112 : decode cX7_counts 112 = .ok (.invokestatic 189, 3) := by decide +kernel
theorem dX7_counts_115 : decode cX7_counts 115 = .ok (.if_icmp .lt 25, 3) := by decide +kernel
theorem dX7_counts_118 : decode cX7_counts 118 = .ok (.iload_n 2, 1) := by decide +kernel
theorem dX7_counts_119 : decode cX7_counts 119 = .ok (.invokestatic 189, 3) := by decide +kernel
theorem dX7_counts_122 : decode cX7_counts 122 = .ok (.aload_n 0, 1) := by decide +kernel
theorem dX7_counts_123 : decode cX7_counts 123 = .ok (.getfield 173, 3) := by decide +kernel
theorem dX7_counts_126 : decode cX7_counts 126 = .ok (.invokestatic 189, 3) := by decide +kernel
theorem dX7_counts_129 : decode cX7_counts 129 = .ok (.if_icmp .ne 16, 3) := by decide +kernel
theorem dX7_counts_132 : decode cX7_counts 132 = .ok (.iload_n 2, 1) := by decide +kernel
theorem dX7_counts_133 : decode cX7_counts 133 = .ok (.aload_n 0, 1) := by decide +kernel
theorem dX7_counts_134 : decode cX7_counts 134 = .ok (.getfield 173, 3) := by decide +kernel
theorem dX7_counts_137 : decode cX7_counts 137 = .ok (.if_icmp .ge 8, 3) := by decide +kernel
theorem dX7_counts_140 : decode cX7_counts 140 = .ok (.aload_n 0, 1) := by decide +kernel
theorem dX7_counts_141 : decode cX7_counts 141 = .ok (.iload_n 2, 1) := by decide +kernel
theorem dX7_counts_142 : decode cX7_counts 142 = .ok (.putfield 173, 3) := by decide +kernel
theorem dX7_counts_145 : decode cX7_counts 145 = .ok (.iload_n 1, 1) := by decide +kernel
theorem dX7_counts_146 : decode cX7_counts 146 = .ok (.aload_n 0, 1) := by decide +kernel
theorem dX7_counts_147 : decode cX7_counts 147 = .ok (.getfield 160, 3) := by decide +kernel
theorem dX7_counts_150 : decode cX7_counts 150 = .ok (.if_icmp .ge 57, 3) := by decide +kernel
theorem dX7_counts_153 : decode cX7_counts 153 = .ok (.aload_n 0, 1) := by decide +kernel
theorem dX7_counts_154 : decode cX7_counts 154 = .ok (.iload_n 1, 1) := by decide +kernel
theorem dX7_counts_155 : decode cX7_counts 155 = .ok (.putfield 160, 3) := by decide +kernel
theorem dX7_counts_158 : decode cX7_counts 158 = .ok (.aload_n 0, 1) := by decide +kernel
theorem dX7_counts_159 : decode cX7_counts 159 = .ok (.iconst 0, 1) := by decide +kernel
theorem dX7_counts_160 : decode cX7_counts 160 = .ok (.putfield 163, 3) := by decide +kernel
theorem dX7_counts_163 : decode cX7_counts 163 = .ok (.iconst 0, 1) := by decide +kernel
theorem dX7_counts_164 : decode cX7_counts 164 = .ok (.istore_n 3, 1) := by decide +kernel
theorem dX7_counts_165 : decode cX7_counts 165 = .ok (.iload_n 3, 1) := by decide +kernel
theorem dX7_counts_166 : decode cX7_counts 166 = .ok (.aload_n 0, 1) := by decide +kernel
theorem dX7_counts_167 : decode cX7_counts 167 = .ok (.getfield 95, 3) := by decide +kernel
theorem dX7_counts_170 : decode cX7_counts 170 = .ok (.if_icmp .ge 37, 3) := by decide +kernel
theorem dX7_counts_173 : decode cX7_counts 173 = .ok (.aload_n 0, 1) := by decide +kernel
theorem dX7_counts_174 : decode cX7_counts 174 = .ok (.getfield 62, 3) := by decide +kernel
theorem dX7_counts_177 : decode cX7_counts 177 = .ok (.iload_n 3, 1) := by decide +kernel
theorem dX7_counts_178 : decode cX7_counts 178 = .ok (.aload_n 0, 1) := by decide +kernel
theorem dX7_counts_179 : decode cX7_counts 179 = .ok (.getfield 56, 3) := by decide +kernel
theorem dX7_counts_182 : decode cX7_counts 182 = .ok (.iload_n 3, 1) := by decide +kernel
theorem dX7_counts_183 : decode cX7_counts 183 = .ok (.iaload, 1) := by decide +kernel
theorem dX7_counts_184 : decode cX7_counts 184 = .ok (.iastore, 1) := by decide +kernel
theorem dX7_counts_185 : decode cX7_counts 185 = .ok (.aload_n 0, 1) := by decide +kernel
theorem dX7_counts_186 : decode cX7_counts 186 = .ok (.getfield 65, 3) := by decide +kernel
theorem dX7_counts_189 : decode cX7_counts 189 = .ok (.iload_n 3, 1) := by decide +kernel
theorem dX7_counts_190 : decode cX7_counts 190 = .ok (.sipush 255, 3) := by decide +kernel
theorem dX7_counts_193 : decode cX7_counts 193 = .ok (.iastore, 1) := by decide +kernel
theorem dX7_counts_194 : decode cX7_counts 194 = .ok (.aload_n 0, 1) := by decide +kernel
theorem dX7_counts_195 : decode cX7_counts 195 = .ok (.getfield 68, 3) := by decide +kernel
theorem dX7_counts_198 : decode cX7_counts 198 = .ok (.iload_n 3, 1) := by decide +kernel
theorem dX7_counts_199 : decode cX7_counts 199 = .ok (.iconst 0, 1) := by decide +kernel
theorem dX7_counts_200 : decode cX7_counts 200 = .ok (.iastore, 1) := by decide +kernel
theorem dX7_counts_201 : decode cX7_counts 201 = .ok (.iinc 3 1, 3) := by decide +kernel
theorem dX7_counts_204 : decode cX7_counts 204 = .ok (.goto (-39), 3) := by decide +kernel
theorem dX7_counts_207 : decode cX7_counts 207 = .ok (.iload_n 1, 1) := by decide +kernel
theorem dX7_counts_208 : decode cX7_counts 208 = .ok (.aload_n 0, 1) := by decide +kernel
theorem dX7_counts_209 : decode cX7_counts 209 = .ok (.getfield 160, 3) := by decide +kernel
theorem dX7_counts_212 : decode cX7_counts 212 = .ok (.if_icmp .ne 80, 3) := by decide +kernel
theorem dX7_counts_215 : decode cX7_counts 215 = .ok (.aload_n 0, 1) := by decide +kernel
theorem dX7_counts_216 : decode cX7_counts 216 = .ok (.dup, 1) := by decide +kernel
theorem dX7_counts_217 : decode cX7_counts 217 = .ok (.getfield 163, 3) := by decide +kernel
theorem dX7_counts_220 : decode cX7_counts 220 = .ok (.iconst 1, 1) := by decide +kernel
theorem dX7_counts_221 : decode cX7_counts 221 = .ok (.iadd, 1) := by decide +kernel
theorem dX7_counts_222 : decode cX7_counts 222 = .ok (.putfield 163, 3) := by decide +kernel
theorem dX7_counts_225 : decode cX7_counts 225 = .ok (.iconst 0, 1) := by decide +kernel
theorem dX7_counts_226 : decode cX7_counts 226 = .ok (.istore_n 3, 1) := by decide +kernel
theorem dX7_counts_227 : decode cX7_counts 227 = .ok (.iconst 0, 1) := by decide +kernel
theorem dX7_counts_228 : decode cX7_counts 228 = .ok (.istore 4, 2) := by decide +kernel
theorem dX7_counts_230 : decode cX7_counts 230 = .ok (.iload 4, 2) := by decide +kernel
theorem dX7_counts_232 : decode cX7_counts 232 = .ok (.aload_n 0, 1) := by decide +kernel
theorem dX7_counts_233 : decode cX7_counts 233 = .ok (.getfield 95, 3) := by decide +kernel
theorem dX7_counts_236 : decode cX7_counts 236 = .ok (.if_icmp .ge 56, 3) := by decide +kernel
theorem dX7_counts_239 : decode cX7_counts 239 = .ok (.aload_n 0, 1) := by decide +kernel
theorem dX7_counts_240 : decode cX7_counts 240 = .ok (.getfield 65, 3) := by decide +kernel
theorem dX7_counts_243 : decode cX7_counts 243 = .ok (.aload_n 0, 1) := by decide +kernel
theorem dX7_counts_244 : decode cX7_counts 244 = .ok (.getfield 56, 3) := by decide +kernel
theorem dX7_counts_247 : decode cX7_counts 247 = .ok (.iload 4, 2) := by decide +kernel
theorem dX7_counts_249 : decode cX7_counts 249 = .ok (.iaload, 1) := by decide +kernel
theorem dX7_counts_250 : decode cX7_counts 250 = .ok (.dup2, 1) := by decide +kernel
theorem dX7_counts_251 : decode cX7_counts 251 = .ok (.iaload, 1) := by decide +kernel
theorem dX7_counts_252 : decode cX7_counts 252 = .ok (.iload_n 3, 1) := by decide +kernel
theorem dX7_counts_253 : decode cX7_counts 253 = .ok (.iand, 1) := by decide +kernel
theorem dX7_counts_254 : decode cX7_counts 254 = .ok (.iastore, 1) := by decide +kernel
theorem dX7_counts_255 : decode cX7_counts 255 = .ok (.aload_n 0, 1) := by decide +kernel
theorem dX7_counts_256 : decode cX7_counts 256 = .ok (.getfield 68, 3) := by decide +kernel
theorem dX7_counts_259 : decode cX7_counts 259 = .ok (.aload_n 0, 1) := by decide +kernel
theorem dX7_counts_260 : decode cX7_counts 260 = .ok (.getfield 56, 3) := by decide +kernel
theorem dX7_counts_263 : decode cX7_counts 263 = .ok (.iload 4, 2) := by decide +kernel
theorem dX7_counts_265 : decode cX7_counts 265 = .ok (.iaload, 1) := by decide +kernel
theorem dX7_counts_266 : decode cX7_counts 266 = .ok (.dup2, 1) := by decide +kernel
theorem dX7_counts_267 : decode cX7_counts 267 = .ok (.iaload, 1) := by decide +kernel
theorem dX7_counts_268 : decode cX7_counts 268 = .ok (.iconst 1, 1) := by decide +kernel
theorem dX7_counts_269 : decode cX7_counts 269 = .ok (.iload 4, 2) := by decide +kernel
theorem dX7_counts_271 : decode cX7_counts 271 = .ok (.ishl, 1) := by decide +kernel
theorem dX7_counts_272 : decode cX7_counts 272 = .ok (.ior, 1) := by decide +kernel
theorem dX7_counts_273 : decode cX7_counts 273 = .ok (.iastore, 1) := by decide +kernel
theorem dX7_counts_274 : decode cX7_counts 274 = .ok (.iload_n 3, 1) := by decide +kernel
theorem dX7_counts_275 : decode cX7_counts 275 = .ok (.iconst 1, 1) := by decide +kernel
theorem dX7_counts_276 : decode cX7_counts 276 = .ok (.aload_n 0, 1) := by decide +kernel
theorem dX7_counts_277 : decode cX7_counts 277 = .ok (.getfield 56, 3) := by decide +kernel
theorem dX7_counts_280 : decode cX7_counts 280 = .ok (.iload 4, 2) := by decide +kernel
theorem dX7_counts_282 : decode cX7_counts 282 = .ok (.iaload, 1) := by decide +kernel
theorem dX7_counts_283 : decode cX7_counts 283 = .ok (.ishl, 1) := by decide +kernel
theorem dX7_counts_284 : decode cX7_counts 284 = .ok (.ior, 1) := by decide +kernel
theorem dX7_counts_285 : decode cX7_counts 285 = .ok (.istore_n 3, 1) := by decide +kernel
theorem dX7_counts_286 : decode cX7_counts 286 = .ok (.iinc 4 1, 3) := by decide +kernel
theorem dX7_counts_289 : decode cX7_counts 289 = .ok (.goto (-59), 3) := by decide +kernel
theorem dX7_counts_292 : decode cX7_counts 292 = .ok (.return_, 1) := by decide +kernel
theorem dX7_areAny_0 : decode cX7_areAny 0 = .ok (.aload_n 0, 1) := by decide +kernel
theorem dX7_areAny_1 : decode cX7_areAny 1 = .ok (.invokevirtual 192, 3) := by decide +kernel
theorem dX7_areAny_4 : decode cX7_areAny 4 = .ok (.aload_n 0, 1) := by decide +kernel
theorem dX7_areAny_5 : decode cX7_areAny 5 = .ok (.getfield 166, 3) := by decide +kernel
theorem dX7_areAny_8 : decode cX7_areAny 8 = .ok (.ifCond .le 7, 3) := by decide +kernel
theorem dX7_areAny_11 : decode cX7_areAny 11 = .ok (.iconst 1, 1) := by decide +kernel
theorem dX7_areAny_12 : decode cX7_areAny 12 = .ok (.goto 4, 3) := by decide +kernel
theorem dX7_areAny_15 : decode cX7_areAny 15 = .ok (.iconst 0, 1) := by decide +kernel
theorem dX7_areAny_16 : decode cX7_areAny 16 = .ok (.ireturn, 1) := by decide +kernel
theorem dX7_gaps_0 : decode cX7_gaps 0 = .ok (.iload_n 1, 1) := by decide +kernel
theorem dX7_gaps_1 : decode cX7_gaps 1 = .ok (.invokestatic 143, 3) := by decide +kernel
theorem dX7_gaps_4 : decode cX7_gaps 4 = .ok (.ifCond .eq 12, 3) := by decide +kernel
theorem dX7_gaps_7 : decode cX7_gaps 7 = .ok (.iload_n 2, 1) := by decide +kernel
theorem dX7_gaps_8 : decode cX7_gaps 8 = .ok (.iconst 0, 1) := by decide +kernel
theorem dX7_gaps_9 : decode cX7_gaps 9 = .ok (.iconst 1, 1) := by decide +kernel
theorem dX7_gaps_10 : decode cX7_gaps 10 = .ok (.invokestatic 98, 3) := by decide +kernel
theorem dX7_gaps_13 : decode cX7_gaps 13 = .ok (.ifCond .ne 6, 3) := by decide +kernel
theorem dX7_gaps_16 : decode cX7_gaps 16 = .ok (.bipush (-2), 2) := by decide +kernel
theorem dX7_gaps_18 : decode cX7_gaps 18 = .ok (.ireturn, 1) := by decide +kernel
theorem dX7_gaps_19 : decode cX7_gaps 19 = .ok (.aload_n 0, 1) := by decide +kernel
theorem dX7_gaps_20 : decode cX7_gaps 20 = .ok (.getfield 77, 3) := by decide +kernel
theorem dX7_gaps_23 : decode cX7_gaps 23 = .ok (.iload_n 1, 1) := by decide +kernel
theorem dX7_gaps_24 : decode cX7_gaps 24 = .ok (.baload, 1) := by decide +kernel
theorem dX7_gaps_25 : decode cX7_gaps 25 = .ok (.ifCond .ne 9, 3) := by decide +kernel
theorem dX7_gaps_28 : decode cX7_gaps 28 = .ok (.aload_n 0, 1) := by decide +kernel
theorem dX7_gaps_29 : decode cX7_gaps 29 = .ok (.iconst 1, 1) := by decide +kernel
theorem dX7_gaps_30 : decode cX7_gaps 30 = .ok (.invokevirtual 146, 3) := by decide +kernel
theorem dX7_gaps_33 : decode cX7_gaps 33 = .ok (.ireturn, 1) := by decide +kernel
theorem dX7_gaps_34 : decode cX7_gaps 34 = .ok (.aload_n 0, 1) := by decide +kernel
theorem dX7_gaps_35 : decode cX7_gaps 35 = .ok (.getfield 84, 3) := by decide +kernel
theorem dX7_gaps_38 : decode cX7_gaps 38 = .ok (.iload_n 1, 1) := by decide +kernel
theorem dX7_gaps_39 : decode cX7_gaps 39 = .ok (.iaload, 1) := by decide +kernel
theorem dX7_gaps_40 : decode cX7_gaps 40 = .ok (.aload_n 0, 1) := by decide +kernel
theorem dX7_gaps_41 : decode cX7_gaps 41 = .ok (.getfield 95, 3) := by decide +kernel
theorem dX7_gaps_44 : decode cX7_gaps 44 = .ok (.if_icmp .eq 6, 3) := by decide +kernel
theorem dX7_gaps_47 : decode cX7_gaps 47 = .ok (.bipush (-3), 2) := by decide +kernel
theorem dX7_gaps_49 : decode cX7_gaps 49 = .ok (.ireturn, 1) := by decide +kernel
theorem dX7_gaps_50 : decode cX7_gaps 50 = .ok (.iconst 0, 1) := by decide +kernel
theorem dX7_gaps_51 : decode cX7_gaps 51 = .ok (.istore_n 3, 1) := by decide +kernel
theorem dX7_gaps_52 : decode cX7_gaps 52 = .ok (.iconst 0, 1) := by decide +kernel
theorem dX7_gaps_53 : decode cX7_gaps 53 = .ok (.istore 4, 2) := by decide +kernel
theorem dX7_gaps_55 : decode cX7_gaps 55 = .ok (.iload 4, 2) := by decide +kernel
theorem dX7_gaps_57 : decode cX7_gaps 57 = .ok (.aload_n 0, 1) := by decide +kernel
theorem dX7_gaps_58 : decode cX7_gaps 58 = .ok (.getfield 95, 3) := by decide +kernel
theorem dX7_gaps_61 : decode cX7_gaps 61 = .ok (.if_icmp .ge 60, 3) := by decide +kernel
theorem dX7_gaps_64 : decode cX7_gaps 64 = .ok (.aload_n 0, 1) := by decide +kernel
theorem dX7_gaps_65 : decode cX7_gaps 65 = .ok (.getfield 87, 3) := by decide +kernel
theorem dX7_gaps_68 : decode cX7_gaps 68 = .ok (.bipush 40, 2) := by decide +kernel
theorem dX7_gaps_70 : decode cX7_gaps 70 = .ok (.iload_n 1, 1) := by decide +kernel
theorem dX7_gaps_71 : decode cX7_gaps 71 = .ok (.imul, 1) := by decide +kernel
theorem dX7_gaps_72 : decode cX7_gaps 72 = .ok (.iload 4, 2) := by decide +kernel
theorem dX7_gaps_74 : decode cX7_gaps 74 = .ok (.iadd, 1) := by decide +kernel
theorem dX7_gaps_75 : decode cX7_gaps 75 = .ok (.iaload, 1) := by decide +kernel
theorem dX7_gaps_76 : decode cX7_gaps 76 = .ok (.istore 5, 2) := by decide +kernel
theorem dX7_gaps_78 : decode cX7_gaps 78 = .ok (.aload_n 0, 1) := by decide +kernel
theorem dX7_gaps_79 : decode cX7_gaps 79 = .ok (.iload 5, 2) := by decide +kernel
theorem dX7_gaps_81 : decode cX7_gaps 81 = .ok (.invokevirtual 106, 3) := by decide +kernel
theorem dX7_gaps_84 : decode cX7_gaps 84 = .ok (.ifCond .eq 12, 3) := by decide +kernel
theorem dX7_gaps_87 : decode cX7_gaps 87 = .ok (.iload_n 3, 1) := by decide +kernel
theorem dX7_gaps_88 : decode cX7_gaps 88 = .ok (.iload 5, 2) := by decide +kernel
theorem dX7_gaps_90 : decode cX7_gaps 90 = .ok (.invokestatic 152, 3) := by decide +kernel
theorem dX7_gaps_93 : decode cX7_gaps 93 = .ok (.ifCond .eq 6, 3) := by decide +kernel
theorem dX7_gaps_96 : decode cX7_gaps 96 = .ok (.bipush (-3), 2) := by decide +kernel
theorem dX7_gaps_98 : decode cX7_gaps 98 = .ok (.ireturn, 1) := by decide +kernel
theorem dX7_gaps_99 : decode cX7_gaps 99 = .ok (.iload_n 3, 1) := by decide +kernel
theorem dX7_gaps_100 : decode cX7_gaps 100 = .ok (.iconst 1, 1) := by decide +kernel
theorem dX7_gaps_101 : decode cX7_gaps 101 = .ok (.iload 5, 2) := by decide +kernel
theorem dX7_gaps_103 : decode cX7_gaps 103 = .ok (.ishl, 1) := by decide +kernel
theorem dX7_gaps_104 : decode cX7_gaps 104 = .ok (.ior, 1) := by decide +kernel
theorem dX7_gaps_105 : decode cX7_gaps 105 = .ok (.istore_n 3, 1) := by decide +kernel
theorem dX7_gaps_106 : decode cX7_gaps 106 = .ok (.aload_n 0, 1) := by decide +kernel
theorem dX7_gaps_107 : decode cX7_gaps 107 = .ok (.getfield 56, 3) := by decide +kernel
theorem dX7_gaps_110 : decode cX7_gaps 110 = .ok (.iload 4, 2) := by decide +kernel
theorem dX7_gaps_112 : decode cX7_gaps 112 = .ok (.iload 5, 2) := by decide +kernel
theorem dX7_gaps_114 : decode cX7_gaps 114 = .ok (.iastore, 1) := by decide +kernel
theorem dX7_gaps_115 : decode cX7_gaps 115 = .ok (.iinc 4 1, 3) := by decide +kernel
theorem dX7_gaps_118 : decode cX7_gaps 118 = .ok (.goto (-63), 3) := by decide +kernel
theorem dX7_gaps_121 : decode cX7_gaps 121 = .ok (.aload_n 0, 1) := by decide +kernel
theorem dX7_gaps_122 : decode cX7_gaps 122 = .ok (.invokevirtual 149, 3) := by decide +kernel
theorem dX7_gaps_125 : decode cX7_gaps 125 = .ok (.iload_n 2, 1) := by decide +kernel
theorem dX7_gaps_126 : decode cX7_gaps 126 = .ok (.ifCond .ne 10, 3) := by decide +kernel
theorem dX7_gaps_129 : decode cX7_gaps 129 = .ok (.aload_n 0, 1) := by decide +kernel
theorem dX7_gaps_130 : decode cX7_gaps 130 = .ok (.invokevirtual 195, 3) := by decide +kernel
theorem dX7_gaps_133 : decode cX7_gaps 133 = .ok (.goto 15, 3) := by decide +kernel
theorem dX7_gaps_136 : decode cX7_gaps 136 = .ok (.aload_n 0, 1) := by decide +kernel
theorem dX7_gaps_137 : decode cX7_gaps 137 = .ok (.invokevirtual 179, 3) := by decide +kernel
theorem dX7_gaps_140 : decode cX7_gaps 140 = .ok (.ifCond .eq 7, 3) := by decide +kernel
theorem dX7_gaps_143 : decode cX7_gaps 143 = .ok (.iconst 1, 1) := by decide +kernel
theorem dX7_gaps_144 : decode cX7_gaps 144 = .ok (.goto 4, 3) := by decide +kernel
theorem dX7_gaps_147 : decode cX7_gaps 147 = .ok (.iconst 0, 1) := by decide +kernel
theorem dX7_gaps_148 : decode cX7_gaps 148 = .ok (.ireturn, 1) := by decide +kernel
theorem dX7_turnedNow_0 : decode cX7_turnedNow 0 = .ok (.iconst 0, 1) := by decide +kernel
theorem dX7_turnedNow_1 : decode cX7_turnedNow 1 = .ok (.istore_n 1, 1) := by decide +kernel
theorem dX7_turnedNow_2 : decode cX7_turnedNow 2 = .ok (.iload_n 1, 1) := by decide +kernel
theorem dX7_turnedNow_3 : decode cX7_turnedNow 3 = .ok (.aload_n 0, 1) := by decide +kernel
theorem dX7_turnedNow_4 : decode cX7_turnedNow 4 = .ok (.getfield 95, 3) := by decide +kernel
theorem dX7_turnedNow_7 : decode cX7_turnedNow 7 = .ok (.if_icmp .ge 28, 3) := by decide +kernel
theorem dX7_turnedNow_10 : decode cX7_turnedNow 10 = .ok (.aload_n 0, 1) := by decide +kernel
theorem dX7_turnedNow_11 : decode cX7_turnedNow 11 = .ok (.getfield 56, 3) := by decide +kernel
theorem dX7_turnedNow_14 : decode cX7_turnedNow 14 = .ok (.iload_n 1, 1) := by decide +kernel
theorem dX7_turnedNow_15 : decode cX7_turnedNow 15 = .ok (.aload_n 0, 1) := by decide +kernel
theorem dX7_turnedNow_16 : decode cX7_turnedNow 16 = .ok (.getfield 62, 3) := by decide +kernel
theorem dX7_turnedNow_19 : decode cX7_turnedNow 19 = .ok (.aload_n 0, 1) := by decide +kernel
theorem dX7_turnedNow_20 : decode cX7_turnedNow 20 = .ok (.getfield 95, 3) := by decide +kernel
theorem dX7_turnedNow_23 : decode cX7_turnedNow 23 = .ok (.iconst 1, 1) := by decide +kernel
theorem dX7_turnedNow_24 : decode cX7_turnedNow 24 = .ok (.isub, 1) := by decide +kernel
theorem dX7_turnedNow_25 : decode cX7_turnedNow 25 = .ok (.iload_n 1, 1) := by decide +kernel
theorem dX7_turnedNow_26 : decode cX7_turnedNow 26 = .ok (.isub, 1) := by decide +kernel
theorem dX7_turnedNow_27 : decode cX7_turnedNow 27 = .ok (.iaload, 1) := by decide +kernel
theorem dX7_turnedNow_28 : decode cX7_turnedNow 28 = .ok (.iastore, 1) := by decide +kernel
theorem dX7_turnedNow_29 : decode cX7_turnedNow 29 = .ok (.iinc 1 1, 3) := by decide +kernel
theorem dX7_turnedNow_32 : decode cX7_turnedNow 32 = .ok (.goto (-30), 3) := by decide +kernel
theorem dX7_turnedNow_35 : decode cX7_turnedNow 35 = .ok (.aload_n 0, 1) := by decide +kernel
theorem dX7_turnedNow_36 : decode cX7_turnedNow 36 = .ok (.invokevirtual 179, 3) := by decide +kernel
theorem dX7_turnedNow_39 : decode cX7_turnedNow 39 = .ok (.ifCond .eq 18, 3) := by decide +kernel
theorem dX7_turnedNow_42 : decode cX7_turnedNow 42 = .ok (.aload_n 0, 1) := by decide +kernel
theorem dX7_turnedNow_43 : decode cX7_turnedNow 43 = .ok (.invokevirtual 195, 3) := by decide +kernel
theorem dX7_turnedNow_46 : decode cX7_turnedNow 46 = .ok (.aload_n 0, 1) := by decide +kernel
theorem dX7_turnedNow_47 : decode cX7_turnedNow 47 = .ok (.getfield 160, 3) := by decide +kernel
theorem dX7_turnedNow_50 : decode cX7_turnedNow 50 = .ok (.if_icmp .ne 7, 3) := by decide +kernel
theorem dX7_turnedNow_53 : decode cX7_turnedNow 53 = .ok (.iconst 1, 1) := by decide +kernel
theorem dX7_turnedNow_54 : decode cX7_turnedNow 54 = .ok (.goto 4, 3) := by decide +kernel
theorem dX7_turnedNow_57 : decode cX7_turnedNow 57 = .ok (.iconst 0, 1) := by decide +kernel
theorem dX7_turnedNow_58 : decode cX7_turnedNow 58 = .ok (.ireturn, 1) := by decide +kernel
theorem dX7_bestNow_0 : decode cX7_bestNow 0 = .ok (.aload_n 0, 1) := by decide +kernel
theorem dX7_bestNow_1 : decode cX7_bestNow 1 = .ok (.invokevirtual 198, 3) := by decide +kernel
theorem dX7_bestNow_4 : decode cX7_bestNow 4 = .ok (.ifCond .ne 6, 3) := by decide +kernel
theorem dX7_bestNow_7 : decode cX7_bestNow 7 = .ok (.bipush (-3), 2) := by decide +kernel
theorem dX7_bestNow_9 : decode cX7_bestNow 9 = .ok (.ireturn, 1) := by decide +kernel
theorem dX7_bestNow_10 : decode cX7_bestNow 10 = .ok (.iload_n 1, 1) := by decide +kernel
theorem dX7_bestNow_11 : decode cX7_bestNow 11 = .ok (.ifCond .ne 10, 3) := by decide +kernel
theorem dX7_bestNow_14 : decode cX7_bestNow 14 = .ok (.aload_n 0, 1) := by decide +kernel
theorem dX7_bestNow_15 : decode cX7_bestNow 15 = .ok (.getfield 160, 3) := by decide +kernel
theorem dX7_bestNow_18 : decode cX7_bestNow 18 = .ok (.goto 19, 3) := by decide +kernel
theorem dX7_bestNow_21 : decode cX7_bestNow 21 = .ok (.iload_n 1, 1) := by decide +kernel
theorem dX7_bestNow_22 : decode cX7_bestNow 22 = .ok (.iconst 1, 1) := by decide +kernel
theorem dX7_bestNow_23 : decode cX7_bestNow 23 = .ok (.if_icmp .ne 10, 3) := by decide +kernel
theorem dX7_bestNow_26 : decode cX7_bestNow 26 = .ok (.aload_n 0, 1) := by decide +kernel
theorem dX7_bestNow_27 : decode cX7_bestNow 27 = .ok (.getfield 163, 3) := by decide +kernel
theorem dX7_bestNow_30 : decode cX7_bestNow 30 = .ok (.goto 7, 3) := by decide +kernel
theorem dX7_bestNow_33 : decode cX7_bestNow 33 = .ok (.aload_n 0, 1) := by decide +kernel
theorem dX7_bestNow_34 : decode cX7_bestNow 34 = .ok (.invokevirtual 201, 3) := by decide +kernel
theorem dX7_bestNow_37 : decode cX7_bestNow 37 = .ok (.ireturn, 1) := by decide +kernel
theorem dX7_best_0 : decode cX7_best 0 = .ok (.iload_n 1, 1) := by decide +kernel
theorem dX7_best_1 : decode cX7_best 1 = .ok (.iconst 0, 1) := by decide +kernel
theorem dX7_best_2 : decode cX7_best 2 = .ok (.iconst 2, 1) := by decide +kernel
theorem dX7_best_3 : decode cX7_best 3 = .ok (.invokestatic 98, 3) := by decide +kernel
theorem dX7_best_6 : decode cX7_best 6 = .ok (.ifCond .eq 11, 3) := by decide +kernel
theorem dX7_best_9 : decode cX7_best 9 = .ok (.aload_n 0, 1) := by decide +kernel
theorem dX7_best_10 : decode cX7_best 10 = .ok (.iload_n 1, 1) := by decide +kernel
theorem dX7_best_11 : decode cX7_best 11 = .ok (.invokevirtual 204, 3) := by decide +kernel
theorem dX7_best_14 : decode cX7_best 14 = .ok (.goto 5, 3) := by decide +kernel
theorem dX7_best_17 : decode cX7_best 17 = .ok (.bipush (-2), 2) := by decide +kernel
theorem dX7_best_19 : decode cX7_best 19 = .ok (.ireturn, 1) := by decide +kernel
theorem dX7_firstNow_0 : decode cX7_firstNow 0 = .ok (.aload_n 0, 1) := by decide +kernel
theorem dX7_firstNow_1 : decode cX7_firstNow 1 = .ok (.invokevirtual 198, 3) := by decide +kernel
theorem dX7_firstNow_4 : decode cX7_firstNow 4 = .ok (.ifCond .ne 8, 3) := by decide +kernel
theorem dX7_firstNow_7 : decode cX7_firstNow 7 = .ok (.bipush (-3), 2) := by decide +kernel
theorem dX7_firstNow_9 : decode cX7_firstNow 9 = .ok (.goto 21, 3) := by decide +kernel
theorem dX7_firstNow_12 : decode cX7_firstNow 12 = .ok (.iload_n 1, 1) := by decide +kernel
theorem dX7_firstNow_13 : decode cX7_firstNow 13 = .ok (.aload_n 0, 1) := by decide +kernel
theorem dX7_firstNow_14 : decode cX7_firstNow 14 = .ok (.getfield 95, 3) := by decide +kernel
theorem dX7_firstNow_17 : decode cX7_firstNow 17 = .ok (.if_icmp .ge 12, 3) := by decide +kernel
theorem dX7_firstNow_20 : decode cX7_firstNow 20 = .ok (.aload_n 0, 1) := by decide +kernel
theorem dX7_firstNow_21 : decode cX7_firstNow 21 = .ok (.getfield 62, 3) := by decide +kernel
theorem dX7_firstNow_24 : decode cX7_firstNow 24 = .ok (.iload_n 1, 1) := by decide +kernel
theorem dX7_firstNow_25 : decode cX7_firstNow 25 = .ok (.iaload, 1) := by decide +kernel
theorem dX7_firstNow_26 : decode cX7_firstNow 26 = .ok (.goto 4, 3) := by decide +kernel
theorem dX7_firstNow_29 : decode cX7_firstNow 29 = .ok (.iconst (-1), 1) := by decide +kernel
theorem dX7_firstNow_30 : decode cX7_firstNow 30 = .ok (.ireturn, 1) := by decide +kernel
theorem dX7_first_0 : decode cX7_first 0 = .ok (.iload_n 1, 1) := by decide +kernel
theorem dX7_first_1 : decode cX7_first 1 = .ok (.ifCond .ge 8, 3) := by decide +kernel
theorem dX7_first_4 : decode cX7_first 4 = .ok (.bipush (-2), 2) := by decide +kernel
theorem dX7_first_6 : decode cX7_first 6 = .ok (.goto 8, 3) := by decide +kernel
theorem dX7_first_9 : decode cX7_first 9 = .ok (.aload_n 0, 1) := by decide +kernel
theorem dX7_first_10 : decode cX7_first 10 = .ok (.iload_n 1, 1) := by decide +kernel
theorem dX7_first_11 : decode cX7_first 11 = .ok (.invokevirtual 207, 3) := by decide +kernel
theorem dX7_first_14 : decode cX7_first 14 = .ok (.ireturn, 1) := by decide +kernel
theorem dX7_sure_0 : decode cX7_sure 0 = .ok (.aload_n 0, 1) := by decide +kernel
theorem dX7_sure_1 : decode cX7_sure 1 = .ok (.iload_n 1, 1) := by decide +kernel
theorem dX7_sure_2 : decode cX7_sure 2 = .ok (.invokevirtual 106, 3) := by decide +kernel
theorem dX7_sure_5 : decode cX7_sure 5 = .ok (.ifCond .eq 16, 3) := by decide +kernel
theorem dX7_sure_8 : decode cX7_sure 8 = .ok (.aload_n 0, 1) := by decide +kernel
theorem dX7_sure_9 : decode cX7_sure 9 = .ok (.iload_n 2, 1) := by decide +kernel
theorem dX7_sure_10 : decode cX7_sure 10 = .ok (.invokevirtual 106, 3) := by decide +kernel
theorem dX7_sure_13 : decode cX7_sure 13 = .ok (.ifCond .eq 8, 3) := by decide +kernel
theorem dX7_sure_16 : decode cX7_sure 16 = .ok (.iload_n 1, 1) := by decide +kernel
theorem dX7_sure_17 : decode cX7_sure 17 = .ok (.iload_n 2, 1) := by decide +kernel
theorem dX7_sure_18 : decode cX7_sure 18 = .ok (.if_icmp .ne 6, 3) := by decide +kernel
theorem dX7_sure_21 : decode cX7_sure 21 = .ok (.bipush (-2), 2) := by decide +kernel
theorem dX7_sure_23 : decode cX7_sure 23 = .ok (.ireturn, 1) := by decide +kernel
theorem dX7_sure_24 : decode cX7_sure 24 = .ok (.aload_n 0, 1) := by decide +kernel
theorem dX7_sure_25 : decode cX7_sure 25 = .ok (.invokevirtual 198, 3) := by decide +kernel
theorem dX7_sure_28 : decode cX7_sure 28 = .ok (.ifCond .ne 8, 3) := by decide +kernel
theorem dX7_sure_31 : decode cX7_sure 31 = .ok (.bipush (-3), 2) := by decide +kernel
theorem dX7_sure_33 : decode cX7_sure 33 = .ok (.goto 21, 3) := by decide +kernel
theorem dX7_sure_36 : decode cX7_sure 36 = .ok (.aload_n 0, 1) := by decide +kernel
theorem dX7_sure_37 : decode cX7_sure 37 = .ok (.getfield 65, 3) := by decide +kernel
theorem dX7_sure_40 : decode cX7_sure 40 = .ok (.iload_n 2, 1) := by decide +kernel
theorem dX7_sure_41 : decode cX7_sure 41 = .ok (.iaload, 1) := by decide +kernel
theorem dX7_sure_42 : decode cX7_sure 42 = .ok (.iload_n 1, 1) := by decide +kernel
theorem dX7_sure_43 : decode cX7_sure 43 = .ok (.invokestatic 152, 3) := by decide +kernel
theorem dX7_sure_46 : decode cX7_sure 46 = .ok (.ifCond .eq 7, 3) := by decide +kernel
theorem dX7_sure_49 : decode cX7_sure 49 = .ok (.iconst 1, 1) := by decide +kernel
theorem dX7_sure_50 : decode cX7_sure 50 = .ok (.goto 4, 3) := by decide +kernel
theorem dX7_sure_53 : decode cX7_sure 53 = .ok (.iconst 0, 1) := by decide +kernel
theorem dX7_sure_54 : decode cX7_sure 54 = .ok (.ireturn, 1) := by decide +kernel
theorem dX7_placesNow_0 : decode cX7_placesNow 0 = .ok (.aload_n 0, 1) := by decide +kernel
theorem dX7_placesNow_1 : decode cX7_placesNow 1 = .ok (.invokevirtual 198, 3) := by decide +kernel
theorem dX7_placesNow_4 : decode cX7_placesNow 4 = .ok (.ifCond .eq 12, 3) := by decide +kernel
theorem dX7_placesNow_7 : decode cX7_placesNow 7 = .ok (.aload_n 0, 1) := by decide +kernel
theorem dX7_placesNow_8 : decode cX7_placesNow 8 = .ok (.getfield 68, 3) := by decide +kernel
theorem dX7_placesNow_11 : decode cX7_placesNow 11 = .ok (.iload_n 1, 1) := by decide +kernel
theorem dX7_placesNow_12 : decode cX7_placesNow 12 = .ok (.iaload, 1) := by decide +kernel
theorem dX7_placesNow_13 : decode cX7_placesNow 13 = .ok (.goto 5, 3) := by decide +kernel
theorem dX7_placesNow_16 : decode cX7_placesNow 16 = .ok (.bipush (-3), 2) := by decide +kernel
theorem dX7_placesNow_18 : decode cX7_placesNow 18 = .ok (.ireturn, 1) := by decide +kernel
theorem dX7_places_0 : decode cX7_places 0 = .ok (.aload_n 0, 1) := by decide +kernel
theorem dX7_places_1 : decode cX7_places 1 = .ok (.iload_n 1, 1) := by decide +kernel
theorem dX7_places_2 : decode cX7_places 2 = .ok (.invokevirtual 106, 3) := by decide +kernel
theorem dX7_places_5 : decode cX7_places 5 = .ok (.ifCond .eq 11, 3) := by decide +kernel
theorem dX7_places_8 : decode cX7_places 8 = .ok (.aload_n 0, 1) := by decide +kernel
theorem dX7_places_9 : decode cX7_places 9 = .ok (.iload_n 1, 1) := by decide +kernel
theorem dX7_places_10 : decode cX7_places 10 = .ok (.invokevirtual 210, 3) := by decide +kernel
theorem dX7_places_13 : decode cX7_places 13 = .ok (.goto 5, 3) := by decide +kernel
theorem dX7_places_16 : decode cX7_places 16 = .ok (.bipush (-2), 2) := by decide +kernel
theorem dX7_places_18 : decode cX7_places 18 = .ok (.ireturn, 1) := by decide +kernel
theorem dX7_spreadNow_0 : decode cX7_spreadNow 0 = .ok (.aload_n 0, 1) := by decide +kernel
theorem dX7_spreadNow_1 : decode cX7_spreadNow 1 = .ok (.invokevirtual 192, 3) := by decide +kernel
theorem dX7_spreadNow_4 : decode cX7_spreadNow 4 = .ok (.iconst 0, 1) := by decide +kernel
theorem dX7_spreadNow_5 : decode cX7_spreadNow 5 = .ok (.istore_n 3, 1) := by decide +kernel
theorem dX7_spreadNow_6 : decode cX7_spreadNow 6 = .ok (.iload_n 2, 1) := by decide +kernel
theorem dX7_spreadNow_7 : decode cX7_spreadNow 7 = .ok (.ifCond .ne 7, 3) := by decide +kernel
theorem dX7_spreadNow_10 : decode cX7_spreadNow 10 = .ok (.iload_n 1, 1) := by decide +kernel
theorem dX7_spreadNow_11 : decode cX7_spreadNow 11 = .ok (.goto 4, 3) := by decide +kernel
theorem dX7_spreadNow_14 : decode cX7_spreadNow 14 = .ok (.iconst 0, 1) := by decide +kernel
theorem dX7_spreadNow_15 : decode cX7_spreadNow 15 = .ok (.istore 4, 2) := by decide +kernel
theorem dX7_spreadNow_17 : decode cX7_spreadNow 17 = .ok (.iload 4, 2) := by decide +kernel
theorem dX7_spreadNow_19 : decode cX7_spreadNow 19 = .ok (.iload_n 1, 1) := by decide +kernel
theorem dX7_spreadNow_20 : decode cX7_spreadNow 20 = .ok (.if_icmp .gt 19, 3) := by decide +kernel
theorem dX7_spreadNow_23 : decode cX7_spreadNow 23 = .ok (.iload_n 3, 1) := by decide +kernel
theorem dX7_spreadNow_24 : decode cX7_spreadNow 24 = .ok (.aload_n 0, 1) := by decide +kernel
theorem dX7_spreadNow_25 : decode cX7_spreadNow 25 = .ok (.getfield 59, 3) := by decide +kernel
theorem dX7_spreadNow_28 : decode cX7_spreadNow 28 = .ok (.iload 4, 2) := by decide +kernel
theorem dX7_spreadNow_30 : decode cX7_spreadNow 30 = .ok (.iaload, 1) := by decide +kernel
theorem dX7_spreadNow_31 : decode cX7_spreadNow 31 = .ok (.iadd, 1) := by decide +kernel
theorem dX7_spreadNow_32 : decode cX7_spreadNow 32 = .ok (.istore_n 3, 1) := by decide +kernel
theorem dX7_spreadNow_33 : decode cX7_spreadNow 33 = .ok (.iinc 4 1, 3) := by decide +kernel
theorem dX7_spreadNow_36 : decode cX7_spreadNow 36 = .ok (.goto (-19), 3) := by decide +kernel
theorem dX7_spreadNow_39 : decode cX7_spreadNow 39 = .ok (.iload_n 3, 1) := by decide +kernel
theorem dX7_spreadNow_40 : decode cX7_spreadNow 40 = .ok (.ireturn, 1) := by decide +kernel
theorem dX7_spread_0 : decode cX7_spread 0 = .ok (.iload_n 1, 1) := by decide +kernel
theorem dX7_spread_1 : decode cX7_spread 1 = .ok (.iconst 0, 1) := by decide +kernel
theorem dX7_spread_2 : decode cX7_spread 2 = .ok (.sipush 999, 3) := by decide +kernel
theorem dX7_spread_5 : decode cX7_spread 5 = .ok (.invokestatic 98, 3) := by decide +kernel
theorem dX7_spread_8 : decode cX7_spread 8 = .ok (.ifCond .eq 21, 3) := by decide +kernel
theorem dX7_spread_11 : decode cX7_spread 11 = .ok (.iload_n 2, 1) := by decide +kernel
theorem dX7_spread_12 : decode cX7_spread 12 = .ok (.iconst 0, 1) := by decide +kernel
theorem dX7_spread_13 : decode cX7_spread 13 = .ok (.iconst 1, 1) := by decide +kernel
theorem dX7_spread_14 : decode cX7_spread 14 = .ok (.invokestatic 98, 3) := by decide +kernel
theorem dX7_spread_17 : decode cX7_spread 17 = .ok (.ifCond .eq 12, 3) := by decide +kernel
theorem dX7_spread_20 : decode cX7_spread 20 = .ok (.aload_n 0, 1) := by decide +kernel
theorem dX7_spread_21 : decode cX7_spread 21 = .ok (.iload_n 1, 1) := by decide +kernel
theorem dX7_spread_22 : decode cX7_spread 22 = .ok (.iload_n 2, 1) := by decide +kernel
theorem dX7_spread_23 : decode cX7_spread 23 = .ok (.invokevirtual 213, 3) := by decide +kernel
theorem dX7_spread_26 : decode cX7_spread 26 = .ok (.goto 5, 3) := by decide +kernel
theorem dX7_spread_29 : decode cX7_spread 29 = .ok (.bipush (-2), 2) := by decide +kernel
theorem dX7_spread_31 : decode cX7_spread 31 = .ok (.ireturn, 1) := by decide +kernel
theorem dX7_meanNow_0 : decode cX7_meanNow 0 = .ok (.aload_n 0, 1) := by decide +kernel
theorem dX7_meanNow_1 : decode cX7_meanNow 1 = .ok (.invokevirtual 198, 3) := by decide +kernel
theorem dX7_meanNow_4 : decode cX7_meanNow 4 = .ok (.ifCond .eq 19, 3) := by decide +kernel
theorem dX7_meanNow_7 : decode cX7_meanNow 7 = .ok (.aload_n 0, 1) := by decide +kernel
theorem dX7_meanNow_8 : decode cX7_meanNow 8 = .ok (.getfield 169, 3) := by decide +kernel
theorem dX7_meanNow_11 : decode cX7_meanNow 11 = .ok (.aload_n 0, 1) := by decide +kernel
theorem dX7_meanNow_12 : decode cX7_meanNow 12 = .ok (.getfield 166, 3) := by decide +kernel
theorem dX7_meanNow_15 : decode cX7_meanNow 15 = .ok (.i2l, 1) := by decide +kernel
theorem dX7_meanNow_16 : decode cX7_meanNow 16 = .ok (.iload_n 1, 1) := by decide +kernel
theorem dX7_meanNow_17 : decode cX7_meanNow 17 = .ok (.invokestatic 217, 3) := by decide +kernel
theorem dX7_meanNow_20 : decode cX7_meanNow 20 = .ok (.goto 8, 3) := by decide +kernel
theorem dX7_meanNow_23 : decode cX7_meanNow 23 = .ok (.bipush (-3), 2) := by decide +kernel
theorem dX7_meanNow_25 : decode cX7_meanNow 25 = .ok (.invokestatic 221, 3) := by decide +kernel
theorem dX7_meanNow_28 : decode cX7_meanNow 28 = .ok (.lreturn, 1) := by decide +kernel
theorem dX7_mean_0 : decode cX7_mean 0 = .ok (.iload_n 1, 1) := by decide +kernel
theorem dX7_mean_1 : decode cX7_mean 1 = .ok (.iconst 0, 1) := by decide +kernel
theorem dX7_mean_2 : decode cX7_mean 2 = .ok (.iconst 1, 1) := by decide +kernel
theorem dX7_mean_3 : decode cX7_mean 3 = .ok (.invokestatic 98, 3) := by decide +kernel
theorem dX7_mean_6 : decode cX7_mean 6 = .ok (.ifCond .eq 11, 3) := by decide +kernel
theorem dX7_mean_9 : decode cX7_mean 9 = .ok (.aload_n 0, 1) := by decide +kernel
theorem dX7_mean_10 : decode cX7_mean 10 = .ok (.iload_n 1, 1) := by decide +kernel
theorem dX7_mean_11 : decode cX7_mean 11 = .ok (.invokevirtual 225, 3) := by decide +kernel
theorem dX7_mean_14 : decode cX7_mean 14 = .ok (.goto 8, 3) := by decide +kernel
theorem dX7_mean_17 : decode cX7_mean 17 = .ok (.bipush (-2), 2) := by decide +kernel
theorem dX7_mean_19 : decode cX7_mean 19 = .ok (.invokestatic 221, 3) := by decide +kernel
theorem dX7_mean_22 : decode cX7_mean 22 = .ok (.lreturn, 1) := by decide +kernel
theorem dX7_leftNow_0 : decode cX7_leftNow 0 = .ok (.aload_n 0, 1) := by decide +kernel
theorem dX7_leftNow_1 : decode cX7_leftNow 1 = .ok (.invokevirtual 198, 3) := by decide +kernel
theorem dX7_leftNow_4 : decode cX7_leftNow 4 = .ok (.ifCond .eq 10, 3) := by decide +kernel
theorem dX7_leftNow_7 : decode cX7_leftNow 7 = .ok (.aload_n 0, 1) := by decide +kernel
theorem dX7_leftNow_8 : decode cX7_leftNow 8 = .ok (.getfield 173, 3) := by decide +kernel
theorem dX7_leftNow_11 : decode cX7_leftNow 11 = .ok (.goto 5, 3) := by decide +kernel
theorem dX7_leftNow_14 : decode cX7_leftNow 14 = .ok (.bipush (-3), 2) := by decide +kernel
theorem dX7_leftNow_16 : decode cX7_leftNow 16 = .ok (.ireturn, 1) := by decide +kernel
theorem dX7_leftOut_0 : decode cX7_leftOut 0 = .ok (.aload_n 0, 1) := by decide +kernel
theorem dX7_leftOut_1 : decode cX7_leftOut 1 = .ok (.invokevirtual 228, 3) := by decide +kernel
theorem dX7_leftOut_4 : decode cX7_leftOut 4 = .ok (.ireturn, 1) := by decide +kernel
theorem dX7_mendedNow_0 : decode cX7_mendedNow 0 = .ok (.aload_n 0, 1) := by decide +kernel
theorem dX7_mendedNow_1 : decode cX7_mendedNow 1 = .ok (.invokevirtual 198, 3) := by decide +kernel
theorem dX7_mendedNow_4 : decode cX7_mendedNow 4 = .ok (.ifCond .ne 6, 3) := by decide +kernel
theorem dX7_mendedNow_7 : decode cX7_mendedNow 7 = .ok (.bipush (-3), 2) := by decide +kernel
theorem dX7_mendedNow_9 : decode cX7_mendedNow 9 = .ok (.ireturn, 1) := by decide +kernel
theorem dX7_mendedNow_10 : decode cX7_mendedNow 10 = .ok (.iconst 0, 1) := by decide +kernel
theorem dX7_mendedNow_11 : decode cX7_mendedNow 11 = .ok (.istore_n 2, 1) := by decide +kernel
theorem dX7_mendedNow_12 : decode cX7_mendedNow 12 = .ok (.iconst 0, 1) := by decide +kernel
theorem dX7_mendedNow_13 : decode cX7_mendedNow 13 = .ok (.istore_n 3, 1) := by decide +kernel
theorem dX7_mendedNow_14 : decode cX7_mendedNow 14 = .ok (.iload_n 3, 1) := by decide +kernel
theorem dX7_mendedNow_15 : decode cX7_mendedNow 15 = .ok (.aload_n 0, 1) := by decide +kernel
theorem dX7_mendedNow_16 : decode cX7_mendedNow 16 = .ok (.getfield 95, 3) := by decide +kernel
theorem dX7_mendedNow_19 : decode cX7_mendedNow 19 = .ok (.if_icmp .ge 35, 3) := by decide +kernel
theorem dX7_mendedNow_22 : decode cX7_mendedNow 22 = .ok (.iload_n 2, 1) := by decide +kernel
theorem dX7_mendedNow_23 : decode cX7_mendedNow 23 = .ok (.aload_n 0, 1) := by decide +kernel
theorem dX7_mendedNow_24 : decode cX7_mendedNow 24 = .ok (.getfield 53, 3) := by decide +kernel
theorem dX7_mendedNow_27 : decode cX7_mendedNow 27 = .ok (.aload_n 0, 1) := by decide +kernel
theorem dX7_mendedNow_28 : decode cX7_mendedNow 28 = .ok (.getfield 62, 3) := by decide +kernel
theorem dX7_mendedNow_31 : decode cX7_mendedNow 31 = .ok (.iload_n 3, 1) := by decide +kernel
theorem dX7_mendedNow_32 : decode cX7_mendedNow 32 = .ok (.iaload, 1) := by decide +kernel
theorem dX7_mendedNow_33 : decode cX7_mendedNow 33 = .ok (.iaload, 1) := by decide +kernel
theorem dX7_mendedNow_34 : decode cX7_mendedNow 34 = .ok (.iload_n 1, 1) := by decide +kernel
theorem dX7_mendedNow_35 : decode cX7_mendedNow 35 = .ok (.invokestatic 152, 3) := by decide +kernel
theorem dX7_mendedNow_38 : decode cX7_mendedNow 38 = .ok (.ifCond .eq 7, 3) := by decide +kernel
theorem dX7_mendedNow_41 : decode cX7_mendedNow 41 = .ok (.iconst 1, 1) := by decide +kernel
theorem dX7_mendedNow_42 : decode cX7_mendedNow 42 = .ok (.goto 4, 3) := by decide +kernel
theorem dX7_mendedNow_45 : decode cX7_mendedNow 45 = .ok (.iconst 0, 1) := by decide +kernel
theorem dX7_mendedNow_46 : decode cX7_mendedNow 46 = .ok (.iadd, 1) := by decide +kernel
theorem dX7_mendedNow_47 : decode cX7_mendedNow 47 = .ok (.istore_n 2, 1) := by decide +kernel
theorem dX7_mendedNow_48 : decode cX7_mendedNow 48 = .ok (.iinc 3 1, 3) := by decide +kernel
theorem dX7_mendedNow_51 : decode cX7_mendedNow 51 = .ok (.goto (-37), 3) := by decide +kernel
theorem dX7_mendedNow_54 : decode cX7_mendedNow 54 = .ok (.iload_n 2, 1) := by decide +kernel
theorem dX7_mendedNow_55 : decode cX7_mendedNow 55 = .ok (.istore_n 3, 1) := by decide +kernel
theorem dX7_mendedNow_56 : decode cX7_mendedNow 56 = .ok (.iconst 0, 1) := by decide +kernel
theorem dX7_mendedNow_57 : decode cX7_mendedNow 57 = .ok (.istore 4, 2) := by decide +kernel
theorem dX7_mendedNow_59 : decode cX7_mendedNow 59 = .ok (.iload 4, 2) := by decide +kernel
theorem dX7_mendedNow_61 : decode cX7_mendedNow 61 = .ok (.aload_n 0, 1) := by decide +kernel
theorem dX7_mendedNow_62 : decode cX7_mendedNow 62 = .ok (.getfield 95, 3) := by decide +kernel
theorem dX7_mendedNow_65 : decode cX7_mendedNow 65 = .ok (.if_icmp .ge 141, 3) := by decide +kernel
theorem dX7_mendedNow_68 : decode cX7_mendedNow 68 = .ok (.iconst 0, 1) := by decide +kernel
theorem dX7_mendedNow_69 : decode cX7_mendedNow 69 = .ok (.istore 5, 2) := by decide +kernel
theorem dX7_mendedNow_71 : decode cX7_mendedNow 71 = .ok (.iconst 0, 1) := by decide +kernel
theorem dX7_mendedNow_72 : decode cX7_mendedNow 72 = .ok (.istore 6, 2) := by decide +kernel
theorem dX7_mendedNow_74 : decode cX7_mendedNow 74 = .ok (.iconst 0, 1) := by decide +kernel
theorem dX7_mendedNow_75 : decode cX7_mendedNow 75 = .ok (.istore 7, 2) := by decide +kernel
theorem dX7_mendedNow_77 : decode cX7_mendedNow 77 = .ok (.iload 4, 2) := by decide +kernel
theorem dX7_mendedNow_79 : decode cX7_mendedNow 79 = .ok (.istore 8, 2) := by decide +kernel
theorem dX7_mendedNow_81 : decode cX7_mendedNow 81 = .ok (.iload 8, 2) := by decide +kernel
theorem dX7_mendedNow_83 : decode cX7_mendedNow 83 = .ok (.aload_n 0, 1) := by decide +kernel
theorem dX7_mendedNow_84 : decode cX7_mendedNow 84 = .ok (.getfield 95, 3) := by decide +kernel
theorem dX7_mendedNow_87 : decode cX7_mendedNow 87 = .ok (.if_icmp .ge 113, 3) := by decide +kernel
theorem dX7_mendedNow_90 : decode cX7_mendedNow 90 = .ok (.aload_n 0, 1) := by decide +kernel
theorem dX7_mendedNow_91 : decode cX7_mendedNow 91 = .ok (.getfield 53, 3) := by decide +kernel
theorem dX7_mendedNow_94 : decode cX7_mendedNow 94 = .ok (.aload_n 0, 1) := by decide +kernel
theorem dX7_mendedNow_95 : decode cX7_mendedNow 95 = .ok (.getfield 62, 3) := by decide +kernel
theorem dX7_mendedNow_98 : decode cX7_mendedNow 98 = .ok (.iload 4, 2) := by decide +kernel
theorem dX7_mendedNow_100 : decode cX7_mendedNow 100 = .ok (.iaload, 1) := by decide +kernel
theorem dX7_mendedNow_101 : decode cX7_mendedNow 101 = .ok (.iaload, 1) := by decide +kernel
theorem dX7_mendedNow_102 : decode cX7_mendedNow 102 = .ok (.iload_n 1, 1) := by decide +kernel
theorem dX7_mendedNow_103 : decode cX7_mendedNow 103 = .ok (.invokestatic 152, 3) := by decide +kernel
theorem dX7_mendedNow_106 : decode cX7_mendedNow 106 = .ok (.ifCond .eq 94, 3) := by decide +kernel
theorem dX7_mendedNow_109 : decode cX7_mendedNow 109 = .ok (.aload_n 0, 1) := by decide +kernel
theorem dX7_mendedNow_110 : decode cX7_mendedNow 110 = .ok (.getfield 53, 3) := by decide +kernel
theorem dX7_mendedNow_113 : decode cX7_mendedNow 113 = .ok (.aload_n 0, 1) := by decide +kernel
theorem dX7_mendedNow_114 : decode cX7_mendedNow 114 = .ok (.getfield 62, 3) := by decide +kernel
theorem dX7_mendedNow_117 : decode cX7_mendedNow 117 = .ok (.iload 8, 2) := by decide +kernel
theorem dX7_mendedNow_119 : decode cX7_mendedNow 119 = .ok (.iaload, 1) := by decide +kernel
theorem dX7_mendedNow_120 : decode cX7_mendedNow 120 = .ok (.iaload, 1) := by decide +kernel
theorem dX7_mendedNow_121 : decode cX7_mendedNow 121 = .ok (.iload_n 1, 1) := by decide +kernel
theorem dX7_mendedNow_122 : decode cX7_mendedNow 122 = .ok (.invokestatic 152, 3) := by decide +kernel
theorem dX7_mendedNow_125 : decode cX7_mendedNow 125 = .ok (.ifCond .eq 42, 3) := by decide +kernel
theorem dX7_mendedNow_128 : decode cX7_mendedNow 128 = .ok (.iinc 5 1, 3) := by decide +kernel
theorem dX7_mendedNow_131 : decode cX7_mendedNow 131 = .ok (.iload 6, 2) := by decide +kernel
theorem dX7_mendedNow_133 : decode cX7_mendedNow 133 = .ok (.iload 7, 2) := by decide +kernel
theorem dX7_mendedNow_135 : decode cX7_mendedNow 135 = .ok (.iadd, 1) := by decide +kernel
theorem dX7_mendedNow_136 : decode cX7_mendedNow 136 = .ok (.istore 6, 2) := by decide +kernel
theorem dX7_mendedNow_138 : decode cX7_mendedNow 138 = .ok (.iconst 0, 1) := by decide +kernel
theorem dX7_mendedNow_139 : decode cX7_mendedNow 139 = .ok (.istore 7, 2) := by decide +kernel
theorem dX7_mendedNow_141 : decode cX7_mendedNow 141 = .ok (.iload_n 2, 1) := by decide +kernel
theorem dX7_mendedNow_142 : decode cX7_mendedNow 142 = .ok (.iload 5, 2) := by decide +kernel
theorem dX7_mendedNow_144 : decode cX7_mendedNow 144 = .ok (.isub, 1) := by decide +kernel
theorem dX7_mendedNow_145 : decode cX7_mendedNow 145 = .ok (.iload 6, 2) := by decide +kernel
theorem dX7_mendedNow_147 : decode cX7_mendedNow 147 = .ok (.iadd, 1) := by decide +kernel
theorem dX7_mendedNow_148 : decode cX7_mendedNow 148 = .ok (.iload_n 3, 1) := by decide +kernel
theorem dX7_mendedNow_149 : decode cX7_mendedNow 149 = .ok (.if_icmp .ge 13, 3) := by decide +kernel
theorem dX7_mendedNow_152 : decode cX7_mendedNow 152 = .ok (.iload_n 2, 1) := by decide +kernel
theorem dX7_mendedNow_153 : decode cX7_mendedNow 153 = .ok (.iload 5, 2) := by decide +kernel
theorem dX7_mendedNow_155 : decode cX7_mendedNow 155 = .ok (.isub, 1) := by decide +kernel
theorem dX7_mendedNow_156 : decode cX7_mendedNow 156 = .ok (.iload 6, 2) := by decide +kernel
theorem dX7_mendedNow_158 : decode cX7_mendedNow 158 = .ok (.iadd, 1) := by decide +kernel
theorem dX7_mendedNow_159 : decode cX7_mendedNow 159 = .ok (.goto 4, 3) := by decide +kernel
theorem dX7_mendedNow_162 : decode cX7_mendedNow 162 = .ok (.iload_n 3, 1) := by decide +kernel
theorem dX7_mendedNow_163 : decode cX7_mendedNow 163 = .ok (.istore_n 3, 1) := by decide +kernel
theorem dX7_mendedNow_164 : decode cX7_mendedNow 164 = .ok (.goto 30, 3) := by decide +kernel
theorem dX7_mendedNow_167 : decode cX7_mendedNow 167 = .ok (.iload 7, 2) := by decide +kernel
theorem dX7_mendedNow_169 : decode cX7_mendedNow 169 = .ok (.aload_n 0, 1) := by decide +kernel
theorem dX7_mendedNow_170 : decode cX7_mendedNow 170 = .ok (.getfield 110, 3) := by decide +kernel
theorem dX7_mendedNow_173 : decode cX7_mendedNow 173 = .ok (.aload_n 0, 1) := by decide +kernel
theorem dX7_mendedNow_174 : decode cX7_mendedNow 174 = .ok (.getfield 62, 3) := by decide +kernel
theorem dX7_mendedNow_177 : decode cX7_mendedNow 177 = .ok (.iload 8, 2) := by decide +kernel
theorem dX7_mendedNow_179 : decode cX7_mendedNow 179 = .ok (.iaload, 1) := by decide +kernel
theorem dX7_mendedNow_180 : decode cX7_mendedNow 180 = .ok (.invokestatic 152, 3) := by decide +kernel
theorem dX7_mendedNow_183 : decode cX7_mendedNow 183 = .ok (.ifCond .eq 7, 3) := by decide +kernel
theorem dX7_mendedNow_186 : decode cX7_mendedNow 186 = .ok (.iconst 0, 1) := by decide +kernel
theorem dX7_mendedNow_187 : decode cX7_mendedNow 187 = .ok (.goto 4, 3) := by decide +kernel
theorem dX7_mendedNow_190 : decode cX7_mendedNow 190 = .ok (.iconst 1, 1) := by decide +kernel
theorem dX7_mendedNow_191 : decode cX7_mendedNow 191 = .ok (.iadd, 1) := by decide +kernel
theorem dX7_mendedNow_192 : decode cX7_mendedNow 192 = .ok (.istore 7, 2) := by decide +kernel
theorem dX7_mendedNow_194 : decode cX7_mendedNow 194 = .ok (.iinc 8 1, 3) := by decide +kernel
theorem dX7_mendedNow_197 : decode cX7_mendedNow 197 = .ok (.goto (-116), 3) := by decide +kernel
theorem dX7_mendedNow_200 : decode cX7_mendedNow 200 = .ok (.iinc 4 1, 3) := by decide +kernel
theorem dX7_mendedNow_203 : decode cX7_mendedNow 203 = .ok (.goto (-144), 3) := by decide +kernel
theorem dX7_mendedNow_206 : decode cX7_mendedNow 206 = .ok (.iload_n 3, 1) := by decide +kernel
theorem dX7_mendedNow_207 : decode cX7_mendedNow 207 = .ok (.ireturn, 1) := by decide +kernel
theorem dX7_mended_0 : decode cX7_mended 0 = .ok (.iload_n 1, 1) := by decide +kernel
theorem dX7_mended_1 : decode cX7_mended 1 = .ok (.invokestatic 113, 3) := by decide +kernel
theorem dX7_mended_4 : decode cX7_mended 4 = .ok (.ifCond .eq 11, 3) := by decide +kernel
theorem dX7_mended_7 : decode cX7_mended 7 = .ok (.aload_n 0, 1) := by decide +kernel
theorem dX7_mended_8 : decode cX7_mended 8 = .ok (.iload_n 1, 1) := by decide +kernel
theorem dX7_mended_9 : decode cX7_mended 9 = .ok (.invokevirtual 231, 3) := by decide +kernel
theorem dX7_mended_12 : decode cX7_mended 12 = .ok (.goto 5, 3) := by decide +kernel
theorem dX7_mended_15 : decode cX7_mended 15 = .ok (.bipush (-2), 2) := by decide +kernel
theorem dX7_mended_17 : decode cX7_mended 17 = .ok (.ireturn, 1) := by decide +kernel
theorem dX7_straddles_0 : decode cX7_straddles 0 = .ok (.iconst 0, 1) := by decide +kernel
theorem dX7_straddles_1 : decode cX7_straddles 1 = .ok (.istore_n 1, 1) := by decide +kernel
theorem dX7_straddles_2 : decode cX7_straddles 2 = .ok (.iconst 0, 1) := by decide +kernel
theorem dX7_straddles_3 : decode cX7_straddles 3 = .ok (.istore_n 2, 1) := by decide +kernel
theorem dX7_straddles_4 : decode cX7_straddles 4 = .ok (.iload_n 2, 1) := by decide +kernel
theorem dX7_straddles_5 : decode cX7_straddles 5 = .ok (.bipush 10, 2) := by decide +kernel
theorem dX7_straddles_7 : decode cX7_straddles 7 = .ok (.if_icmp .ge 88, 3) := by decide +kernel
theorem dX7_straddles_10 : decode cX7_straddles 10 = .ok (.iconst 0, 1) := by decide +kernel
theorem dX7_straddles_11 : decode cX7_straddles 11 = .ok (.istore_n 3, 1) := by decide +kernel
theorem dX7_straddles_12 : decode cX7_straddles 12 = .ok (.iconst 0, 1) := by decide +kernel
theorem dX7_straddles_13 : decode cX7_straddles 13 = .ok (.istore 4, 2) := by decide +kernel
theorem dX7_straddles_15 : decode cX7_straddles 15 = .ok (.iload 4, 2) := by decide +kernel
theorem dX7_straddles_17 : decode cX7_straddles 17 = .ok (.aload_n 0, 1) := by decide +kernel
theorem dX7_straddles_18 : decode cX7_straddles 18 = .ok (.getfield 95, 3) := by decide +kernel
theorem dX7_straddles_21 : decode cX7_straddles 21 = .ok (.if_icmp .ge 44, 3) := by decide +kernel
theorem dX7_straddles_24 : decode cX7_straddles 24 = .ok (.iload_n 3, 1) := by decide +kernel
theorem dX7_straddles_25 : decode cX7_straddles 25 = .ok (.aload_n 0, 1) := by decide +kernel
theorem dX7_straddles_26 : decode cX7_straddles 26 = .ok (.getfield 53, 3) := by decide +kernel
theorem dX7_straddles_29 : decode cX7_straddles 29 = .ok (.aload_n 0, 1) := by decide +kernel
theorem dX7_straddles_30 : decode cX7_straddles 30 = .ok (.getfield 62, 3) := by decide +kernel
theorem dX7_straddles_33 : decode cX7_straddles 33 = .ok (.iload 4, 2) := by decide +kernel
theorem dX7_straddles_35 : decode cX7_straddles 35 = .ok (.iaload, 1) := by decide +kernel
theorem dX7_straddles_36 : decode cX7_straddles 36 = .ok (.iaload, 1) := by decide +kernel
theorem dX7_straddles_37 : decode cX7_straddles 37 = .ok (.iload_n 2, 1) := by decide +kernel
theorem dX7_straddles_38 : decode cX7_straddles 38 = .ok (.invokestatic 152, 3) := by decide +kernel
theorem dX7_straddles_41 : decode cX7_straddles 41 = .ok (.ifCond .eq 15, 3) := by decide +kernel
theorem dX7_straddles_44 : decode cX7_straddles 44 = .ok (.iconst 1, 1) := by decide +kernel
theorem dX7_straddles_45 : decode cX7_straddles 45 = .ok (.aload_n 0, 1) := by decide +kernel
theorem dX7_straddles_46 : decode cX7_straddles 46 = .ok (.getfield 71, 3) := by decide +kernel
theorem dX7_straddles_49 : decode cX7_straddles 49 = .ok (.iload 4, 2) := by decide +kernel
theorem dX7_straddles_51 : decode cX7_straddles 51 = .ok (.iaload, 1) := by decide +kernel
theorem dX7_straddles_52 : decode cX7_straddles 52 = .ok (.ishl, 1) := by decide +kernel
theorem dX7_straddles_53 : decode cX7_straddles 53 = .ok (.goto 4, 3) := by decide +kernel
theorem dX7_straddles_56 : decode cX7_straddles 56 = .ok (.iconst 0, 1) := by decide +kernel
theorem dX7_straddles_57 : decode cX7_straddles 57 = .ok (.ior, 1) := by decide +kernel
theorem dX7_straddles_58 : decode cX7_straddles 58 = .ok (.istore_n 3, 1) := by decide +kernel
theorem dX7_straddles_59 : decode cX7_straddles 59 = .ok (.iinc 4 1, 3) := by decide +kernel
theorem dX7_straddles_62 : decode cX7_straddles 62 = .ok (.goto (-47), 3) := by decide +kernel
theorem dX7_straddles_65 : decode cX7_straddles 65 = .ok (.iload_n 1, 1) := by decide +kernel
theorem dX7_straddles_66 : decode cX7_straddles 66 = .ok (.iload_n 3, 1) := by decide +kernel
theorem dX7_straddles_67 : decode cX7_straddles 67 = .ok (.ifCond .ne 7, 3) := by decide +kernel
theorem dX7_straddles_70 : decode cX7_straddles 70 = .ok (.iconst 0, 1) := by decide +kernel
theorem dX7_straddles_71 : decode cX7_straddles 71 = .ok (.goto 16, 3) := by decide +kernel
theorem dX7_straddles_74 : decode cX7_straddles 74 = .ok (.aload_n 0, 1) := by decide +kernel
theorem dX7_straddles_75 : decode cX7_straddles 75 = .ok (.getfield 16, 3) := by decide +kernel
theorem dX7_straddles_78 : decode cX7_straddles 78 = .ok (.iload_n 2, 1) := by decide +kernel
theorem dX7_straddles_79 : decode cX7_straddles 79 = .ok (.iaload, 1) := by decide +kernel
theorem dX7_straddles_80 : decode cX7_straddles 80 = .ok (.iload_n 3, 1) := by decide +kernel
theorem dX7_straddles_81 : decode cX7_straddles 81 = .ok (.invokestatic 189, 3) := by decide +kernel
theorem dX7_straddles_84 : decode cX7_straddles 84 = .ok (.iconst 1, 1) := by decide +kernel
theorem dX7_straddles_85 : decode cX7_straddles 85 = .ok (.isub, 1) := by decide +kernel
theorem dX7_straddles_86 : decode cX7_straddles 86 = .ok (.imul, 1) := by decide +kernel
theorem dX7_straddles_87 : decode cX7_straddles 87 = .ok (.iadd, 1) := by decide +kernel
theorem dX7_straddles_88 : decode cX7_straddles 88 = .ok (.istore_n 1, 1) := by decide +kernel
theorem dX7_straddles_89 : decode cX7_straddles 89 = .ok (.iinc 2 1, 3) := by decide +kernel
theorem dX7_straddles_92 : decode cX7_straddles 92 = .ok (.goto (-88), 3) := by decide +kernel
theorem dX7_straddles_95 : decode cX7_straddles 95 = .ok (.iload_n 1, 1) := by decide +kernel
theorem dX7_straddles_96 : decode cX7_straddles 96 = .ok (.ireturn, 1) := by decide +kernel
theorem dX7_isEarlier_0 : decode cX7_isEarlier 0 = .ok (.iconst 0, 1) := by decide +kernel
theorem dX7_isEarlier_1 : decode cX7_isEarlier 1 = .ok (.istore_n 1, 1) := by decide +kernel
theorem dX7_isEarlier_2 : decode cX7_isEarlier 2 = .ok (.iload_n 1, 1) := by decide +kernel
theorem dX7_isEarlier_3 : decode cX7_isEarlier 3 = .ok (.aload_n 0, 1) := by decide +kernel
theorem dX7_isEarlier_4 : decode cX7_isEarlier 4 = .ok (.getfield 95, 3) := by decide +kernel
theorem dX7_isEarlier_7 : decode cX7_isEarlier 7 = .ok (.if_icmp .ge 45, 3) := by decide +kernel
theorem dX7_isEarlier_10 : decode cX7_isEarlier 10 = .ok (.aload_n 0, 1) := by decide +kernel
theorem dX7_isEarlier_11 : decode cX7_isEarlier 11 = .ok (.getfield 71, 3) := by decide +kernel
theorem dX7_isEarlier_14 : decode cX7_isEarlier 14 = .ok (.iload_n 1, 1) := by decide +kernel
theorem dX7_isEarlier_15 : decode cX7_isEarlier 15 = .ok (.iaload, 1) := by decide +kernel
theorem dX7_isEarlier_16 : decode cX7_isEarlier 16 = .ok (.aload_n 0, 1) := by decide +kernel
theorem dX7_isEarlier_17 : decode cX7_isEarlier 17 = .ok (.getfield 74, 3) := by decide +kernel
theorem dX7_isEarlier_20 : decode cX7_isEarlier 20 = .ok (.iload_n 1, 1) := by decide +kernel
theorem dX7_isEarlier_21 : decode cX7_isEarlier 21 = .ok (.iaload, 1) := by decide +kernel
theorem dX7_isEarlier_22 : decode cX7_isEarlier 22 = .ok (.if_icmp .eq 24, 3) := by decide +kernel
theorem dX7_isEarlier_25 : decode cX7_isEarlier 25 = .ok (.aload_n 0, 1) := by decide +kernel
theorem dX7_isEarlier_26 : decode cX7_isEarlier 26 = .ok (.getfield 71, 3) := by decide +kernel
theorem dX7_isEarlier_29 : decode cX7_isEarlier 29 = .ok (.iload_n 1, 1) := by decide +kernel
theorem dX7_isEarlier_30 : decode cX7_isEarlier 30 = .ok (.iaload, 1) := by decide +kernel
theorem dX7_isEarlier_31 : decode cX7_isEarlier 31 = .ok (.aload_n 0, 1) := by decide +kernel
theorem dX7_isEarlier_32 : decode cX7_isEarlier 32 = .ok (.getfield 74, 3) := by decide +kernel
theorem dX7_isEarlier_35 : decode cX7_isEarlier 35 = .ok (.iload_n 1, 1) := by decide +kernel
theorem dX7_isEarlier_36 : decode cX7_isEarlier 36 = .ok (.iaload, 1) := by decide +kernel
theorem dX7_isEarlier_37 : decode cX7_isEarlier 37 = .ok (.if_icmp .le 7, 3) := by decide +kernel
theorem dX7_isEarlier_40 : decode cX7_isEarlier 40 = .ok (.iconst 1, 1) := by decide +kernel
theorem dX7_isEarlier_41 : decode cX7_isEarlier 41 = .ok (.goto 4, 3) := by decide +kernel
theorem dX7_isEarlier_44 : decode cX7_isEarlier 44 = .ok (.iconst 0, 1) := by decide +kernel
theorem dX7_isEarlier_45 : decode cX7_isEarlier 45 = .ok (.ireturn, 1) := by decide +kernel
theorem dX7_isEarlier_46 : decode cX7_isEarlier 46 = .ok (.iinc 1 1, 3) := by decide +kernel
theorem dX7_isEarlier_49 : decode cX7_isEarlier 49 = .ok (.goto (-47), 3) := by decide +kernel
theorem dX7_isEarlier_52 : decode cX7_isEarlier 52 = .ok (.iconst 0, 1) := by decide +kernel
theorem dX7_isEarlier_53 : decode cX7_isEarlier 53 = .ok (.ireturn, 1) := by decide +kernel
theorem dX7_phasesNow_0 : decode cX7_phasesNow 0 = .ok (.aload_n 0, 1) := by decide +kernel
theorem dX7_phasesNow_1 : decode cX7_phasesNow 1 = .ok (.invokevirtual 198, 3) := by decide +kernel
theorem dX7_phasesNow_4 : decode cX7_phasesNow 4 = .ok (.ifCond .eq 11, 3) := by decide +kernel
theorem dX7_phasesNow_7 : decode cX7_phasesNow 7 = .ok (.iload_n 1, 1) := by decide +kernel
theorem dX7_phasesNow_8 : decode cX7_phasesNow 8 = .ok (.aload_n 0, 1) := by decide +kernel
theorem dX7_phasesNow_9 : decode cX7_phasesNow 9 = .ok (.getfield 95, 3) := by decide +kernel
theorem dX7_phasesNow_12 : decode cX7_phasesNow 12 = .ok (.if_icmp .le 6, 3) := by decide +kernel
theorem dX7_phasesNow_15 : decode cX7_phasesNow 15 = .ok (.bipush (-3), 2) := by decide +kernel
theorem dX7_phasesNow_17 : decode cX7_phasesNow 17 = .ok (.ireturn, 1) := by decide +kernel
theorem dX7_phasesNow_18 : decode cX7_phasesNow 18 = .ok (.ldc 159, 2) := by decide +kernel
theorem dX7_phasesNow_20 : decode cX7_phasesNow 20 = .ok (.istore_n 3, 1) := by decide +kernel
theorem dX7_phasesNow_21 : decode cX7_phasesNow 21 = .ok (.iconst 0, 1) := by decide +kernel
theorem dX7_phasesNow_22 : decode cX7_phasesNow 22 = .ok (.istore 4, 2) := by decide +kernel
theorem dX7_phasesNow_24 : decode cX7_phasesNow 24 = .ok (.iload 4, 2) := by decide +kernel
theorem dX7_phasesNow_26 : decode cX7_phasesNow 26 = .ok (.iconst 1, 1) := by decide +kernel
theorem dX7_phasesNow_27 : decode cX7_phasesNow 27 = .ok (.aload_n 0, 1) := by decide +kernel
theorem dX7_phasesNow_28 : decode cX7_phasesNow 28 = .ok (.getfield 95, 3) := by decide +kernel
theorem dX7_phasesNow_31 : decode cX7_phasesNow 31 = .ok (.iconst 1, 1) := by decide +kernel
theorem dX7_phasesNow_32 : decode cX7_phasesNow 32 = .ok (.isub, 1) := by decide +kernel
theorem dX7_phasesNow_33 : decode cX7_phasesNow 33 = .ok (.ishl, 1) := by decide +kernel
theorem dX7_phasesNow_34 : decode cX7_phasesNow 34 = .ok (.if_icmp .ge 131, 3) := by decide +kernel
theorem dX7_phasesNow_37 : decode cX7_phasesNow 37 = .ok (.iload 4, 2) := by decide +kernel
theorem dX7_phasesNow_39 : decode cX7_phasesNow 39 = .ok (.invokestatic 189, 3) := by decide +kernel
theorem dX7_phasesNow_42 : decode cX7_phasesNow 42 = .ok (.iload_n 1, 1) := by decide +kernel
theorem dX7_phasesNow_43 : decode cX7_phasesNow 43 = .ok (.iconst 1, 1) := by decide +kernel
theorem dX7_phasesNow_44 : decode cX7_phasesNow 44 = .ok (.isub, 1) := by decide +kernel
theorem dX7_phasesNow_45 : decode cX7_phasesNow 45 = .ok (.if_icmp .ne 114, 3) := by decide +kernel
theorem dX7_phasesNow_48 : decode cX7_phasesNow 48 = .ok (.aload_n 0, 1) := by decide +kernel
theorem dX7_phasesNow_49 : decode cX7_phasesNow 49 = .ok (.getfield 71, 3) := by decide +kernel
theorem dX7_phasesNow_52 : decode cX7_phasesNow 52 = .ok (.iconst 0, 1) := by decide +kernel
theorem dX7_phasesNow_53 : decode cX7_phasesNow 53 = .ok (.iconst 0, 1) := by decide +kernel
theorem dX7_phasesNow_54 : decode cX7_phasesNow 54 = .ok (.iastore, 1) := by decide +kernel
theorem dX7_phasesNow_55 : decode cX7_phasesNow 55 = .ok (.iconst 1, 1) := by decide +kernel
theorem dX7_phasesNow_56 : decode cX7_phasesNow 56 = .ok (.istore 5, 2) := by decide +kernel
theorem dX7_phasesNow_58 : decode cX7_phasesNow 58 = .ok (.iload 5, 2) := by decide +kernel
theorem dX7_phasesNow_60 : decode cX7_phasesNow 60 = .ok (.aload_n 0, 1) := by decide +kernel
theorem dX7_phasesNow_61 : decode cX7_phasesNow 61 = .ok (.getfield 95, 3) := by decide +kernel
theorem dX7_phasesNow_64 : decode cX7_phasesNow 64 = .ok (.if_icmp .ge 35, 3) := by decide +kernel
theorem dX7_phasesNow_67 : decode cX7_phasesNow 67 = .ok (.aload_n 0, 1) := by decide +kernel
theorem dX7_phasesNow_68 : decode cX7_phasesNow 68 = .ok (.getfield 71, 3) := by decide +kernel
theorem dX7_phasesNow_71 : decode cX7_phasesNow 71 = .ok (.iload 5, 2) := by decide +kernel
theorem dX7_phasesNow_73 : decode cX7_phasesNow 73 = .ok (.aload_n 0, 1) := by decide +kernel
theorem dX7_phasesNow_74 : decode cX7_phasesNow 74 = .ok (.getfield 71, 3) := by decide +kernel
theorem dX7_phasesNow_77 : decode cX7_phasesNow 77 = .ok (.iload 5, 2) := by decide +kernel
theorem dX7_phasesNow_79 : decode cX7_phasesNow 79 = .ok (.iconst 1, 1) := by decide +kernel
theorem dX7_phasesNow_80 : decode cX7_phasesNow 80 = .ok (.isub, 1) := by decide +kernel
theorem dX7_phasesNow_81 : decode cX7_phasesNow 81 = .ok (.iaload, 1) := by decide +kernel
theorem dX7_phasesNow_82 : decode cX7_phasesNow 82 = .ok (.iload 4, 2) := by decide +kernel
theorem dX7_phasesNow_84 : decode cX7_phasesNow 84 = .ok (.iload 5, 2) := by decide +kernel
theorem dX7_phasesNow_86 : decode cX7_phasesNow 86 = .ok (.iconst 1, 1) := by decide +kernel
theorem dX7_phasesNow_87 : decode cX7_phasesNow 87 = .ok (.isub, 1) := by decide +kernel
theorem dX7_phasesNow_88 : decode cX7_phasesNow 88 = .ok (.ishr, 1) := by decide +kernel
theorem dX7_phasesNow_89 : decode cX7_phasesNow 89 = .ok (.iconst 1, 1) := by decide +kernel
theorem dX7_phasesNow_90 : decode cX7_phasesNow 90 = .ok (.iand, 1) := by decide +kernel
theorem dX7_phasesNow_91 : decode cX7_phasesNow 91 = .ok (.iadd, 1) := by decide +kernel
theorem dX7_phasesNow_92 : decode cX7_phasesNow 92 = .ok (.iastore, 1) := by decide +kernel
theorem dX7_phasesNow_93 : decode cX7_phasesNow 93 = .ok (.iinc 5 1, 3) := by decide +kernel
theorem dX7_phasesNow_96 : decode cX7_phasesNow 96 = .ok (.goto (-38), 3) := by decide +kernel
theorem dX7_phasesNow_99 : decode cX7_phasesNow 99 = .ok (.aload_n 0, 1) := by decide +kernel
theorem dX7_phasesNow_100 : decode cX7_phasesNow 100 = .ok (.invokevirtual 234, 3) := by decide +kernel
theorem dX7_phasesNow_103 : decode cX7_phasesNow 103 = .ok (.istore 5, 2) := by decide +kernel
theorem dX7_phasesNow_105 : decode cX7_phasesNow 105 = .ok (.iload 5, 2) := by decide +kernel
theorem dX7_phasesNow_107 : decode cX7_phasesNow 107 = .ok (.iload_n 3, 1) := by decide +kernel
theorem dX7_phasesNow_108 : decode cX7_phasesNow 108 = .ok (.if_icmp .lt 16, 3) := by decide +kernel
theorem dX7_phasesNow_111 : decode cX7_phasesNow 111 = .ok (.iload 5, 2) := by decide +kernel
theorem dX7_phasesNow_113 : decode cX7_phasesNow 113 = .ok (.iload_n 3, 1) := by decide +kernel
theorem dX7_phasesNow_114 : decode cX7_phasesNow 114 = .ok (.if_icmp .ne 45, 3) := by decide +kernel
theorem dX7_phasesNow_117 : decode cX7_phasesNow 117 = .ok (.aload_n 0, 1) := by decide +kernel
theorem dX7_phasesNow_118 : decode cX7_phasesNow 118 = .ok (.invokevirtual 237, 3) := by decide +kernel
theorem dX7_phasesNow_121 : decode cX7_phasesNow 121 = .ok (.ifCond .eq 38, 3) := by decide +kernel
theorem dX7_phasesNow_124 : decode cX7_phasesNow 124 = .ok (.iload 5, 2) := by decide +kernel
theorem dX7_phasesNow_126 : decode cX7_phasesNow 126 = .ok (.istore_n 3, 1) := by decide +kernel
theorem dX7_phasesNow_127 : decode cX7_phasesNow 127 = .ok (.iconst 0, 1) := by decide +kernel
end
section
theorem dX7_phasesNow_128 : decode cX7_phasesNow 128 = .ok (.istore 6, 2) := by decide +kernel
theorem dX7_phasesNow_130 : decode cX7_phasesNow 130 = .ok (.iload 6, 2) := by decide +kernel
theorem dX7_phasesNow_132 : decode cX7_phasesNow 132 = .ok (.aload_n 0, 1) := by decide +kernel
theorem dX7_phasesNow_133 : decode cX7_phasesNow 133 = .ok (.getfield 95, 3) := by decide +kernel
theorem dX7_phasesNow_136 : decode cX7_phasesNow 136 = .ok (.if_icmp .ge 23, 3) := by decide +kernel
theorem dX7_phasesNow_139 : decode cX7_phasesNow 139 = .ok (.aload_n 0, 1) := by decide +kernel
theorem dX7_phasesNow_140 : decode cX7_phasesNow 140 = .ok (.getfield 74, 3) := by decide +kernel
theorem dX7_phasesNow_143 : decode cX7_phasesNow 143 = .ok (.iload 6, 2) := by decide +kernel
theorem dX7_phasesNow_145 : decode cX7_phasesNow 145 = .ok (.aload_n 0, 1) := by decide +kernel
theorem dX7_phasesNow_146 : decode cX7_phasesNow 146 = .ok (.getfield 71, 3) := by decide +kernel
theorem dX7_phasesNow_149 : decode cX7_phasesNow 149 = .ok (.iload 6, 2) := by decide +kernel
theorem dX7_phasesNow_151 : decode cX7_phasesNow 151 = .ok (.iaload, 1) := by decide +kernel
theorem dX7_phasesNow_152 : decode cX7_phasesNow 152 = .ok (.iastore, 1) := by decide +kernel
theorem dX7_phasesNow_153 : decode cX7_phasesNow 153 = .ok (.iinc 6 1, 3) := by decide +kernel
theorem dX7_phasesNow_156 : decode cX7_phasesNow 156 = .ok (.goto (-26), 3) := by decide +kernel
theorem dX7_phasesNow_159 : decode cX7_phasesNow 159 = .ok (.iinc 4 1, 3) := by decide +kernel
theorem dX7_phasesNow_162 : decode cX7_phasesNow 162 = .ok (.goto (-138), 3) := by decide +kernel
theorem dX7_phasesNow_165 : decode cX7_phasesNow 165 = .ok (.iload_n 2, 1) := by decide +kernel
theorem dX7_phasesNow_166 : decode cX7_phasesNow 166 = .ok (.iconst (-1), 1) := by decide +kernel
theorem dX7_phasesNow_167 : decode cX7_phasesNow 167 = .ok (.if_icmp .ne 5, 3) := by decide +kernel
theorem dX7_phasesNow_170 : decode cX7_phasesNow 170 = .ok (.iload_n 3, 1) := by decide +kernel
theorem dX7_phasesNow_171 : decode cX7_phasesNow 171 = .ok (.ireturn, 1) := by decide +kernel
theorem dX7_phasesNow_172 : decode cX7_phasesNow 172 = .ok (.iconst 0, 1) := by decide +kernel
theorem dX7_phasesNow_173 : decode cX7_phasesNow 173 = .ok (.istore 4, 2) := by decide +kernel
theorem dX7_phasesNow_175 : decode cX7_phasesNow 175 = .ok (.iconst 0, 1) := by decide +kernel
theorem dX7_phasesNow_176 : decode cX7_phasesNow 176 = .ok (.istore 5, 2) := by decide +kernel
theorem dX7_phasesNow_178 : decode cX7_phasesNow 178 = .ok (.iload 5, 2) := by decide +kernel
theorem dX7_phasesNow_180 : decode cX7_phasesNow 180 = .ok (.aload_n 0, 1) := by decide +kernel
theorem dX7_phasesNow_181 : decode cX7_phasesNow 181 = .ok (.getfield 95, 3) := by decide +kernel
theorem dX7_phasesNow_184 : decode cX7_phasesNow 184 = .ok (.if_icmp .ge 34, 3) := by decide +kernel
theorem dX7_phasesNow_187 : decode cX7_phasesNow 187 = .ok (.aload_n 0, 1) := by decide +kernel
theorem dX7_phasesNow_188 : decode cX7_phasesNow 188 = .ok (.getfield 62, 3) := by decide +kernel
theorem dX7_phasesNow_191 : decode cX7_phasesNow 191 = .ok (.iload 5, 2) := by decide +kernel
theorem dX7_phasesNow_193 : decode cX7_phasesNow 193 = .ok (.iaload, 1) := by decide +kernel
theorem dX7_phasesNow_194 : decode cX7_phasesNow 194 = .ok (.iload_n 2, 1) := by decide +kernel
theorem dX7_phasesNow_195 : decode cX7_phasesNow 195 = .ok (.if_icmp .ne 13, 3) := by decide +kernel
theorem dX7_phasesNow_198 : decode cX7_phasesNow 198 = .ok (.aload_n 0, 1) := by decide +kernel
theorem dX7_phasesNow_199 : decode cX7_phasesNow 199 = .ok (.getfield 74, 3) := by decide +kernel
theorem dX7_phasesNow_202 : decode cX7_phasesNow 202 = .ok (.iload 5, 2) := by decide +kernel
theorem dX7_phasesNow_204 : decode cX7_phasesNow 204 = .ok (.iaload, 1) := by decide +kernel
theorem dX7_phasesNow_205 : decode cX7_phasesNow 205 = .ok (.goto 5, 3) := by decide +kernel
theorem dX7_phasesNow_208 : decode cX7_phasesNow 208 = .ok (.iload 4, 2) := by decide +kernel
theorem dX7_phasesNow_210 : decode cX7_phasesNow 210 = .ok (.istore 4, 2) := by decide +kernel
theorem dX7_phasesNow_212 : decode cX7_phasesNow 212 = .ok (.iinc 5 1, 3) := by decide +kernel
theorem dX7_phasesNow_215 : decode cX7_phasesNow 215 = .ok (.goto (-37), 3) := by decide +kernel
theorem dX7_phasesNow_218 : decode cX7_phasesNow 218 = .ok (.iload 4, 2) := by decide +kernel
theorem dX7_phasesNow_220 : decode cX7_phasesNow 220 = .ok (.ireturn, 1) := by decide +kernel
theorem dX7_phases_0 : decode cX7_phases 0 = .ok (.iload_n 1, 1) := by decide +kernel
theorem dX7_phases_1 : decode cX7_phases 1 = .ok (.iconst 1, 1) := by decide +kernel
theorem dX7_phases_2 : decode cX7_phases 2 = .ok (.bipush 8, 2) := by decide +kernel
theorem dX7_phases_4 : decode cX7_phases 4 = .ok (.invokestatic 98, 3) := by decide +kernel
theorem dX7_phases_7 : decode cX7_phases 7 = .ok (.ifCond .eq 25, 3) := by decide +kernel
theorem dX7_phases_10 : decode cX7_phases 10 = .ok (.iload_n 2, 1) := by decide +kernel
theorem dX7_phases_11 : decode cX7_phases 11 = .ok (.iconst (-1), 1) := by decide +kernel
theorem dX7_phases_12 : decode cX7_phases 12 = .ok (.if_icmp .eq 11, 3) := by decide +kernel
theorem dX7_phases_15 : decode cX7_phases 15 = .ok (.aload_n 0, 1) := by decide +kernel
theorem dX7_phases_16 : decode cX7_phases 16 = .ok (.iload_n 2, 1) := by decide +kernel
theorem dX7_phases_17 : decode cX7_phases 17 = .ok (.invokevirtual 106, 3) := by decide +kernel
theorem dX7_phases_20 : decode cX7_phases 20 = .ok (.ifCond .eq 12, 3) := by decide +kernel
theorem dX7_phases_23 : decode cX7_phases 23 = .ok (.aload_n 0, 1) := by decide +kernel
theorem dX7_phases_24 : decode cX7_phases 24 = .ok (.iload_n 1, 1) := by decide +kernel
theorem dX7_phases_25 : decode cX7_phases 25 = .ok (.iload_n 2, 1) := by decide +kernel
theorem dX7_phases_26 : decode cX7_phases 26 = .ok (.invokevirtual 240, 3) := by decide +kernel
theorem dX7_phases_29 : decode cX7_phases 29 = .ok (.goto 5, 3) := by decide +kernel
theorem dX7_phases_32 : decode cX7_phases 32 = .ok (.bipush (-2), 2) := by decide +kernel
theorem dX7_phases_34 : decode cX7_phases 34 = .ok (.ireturn, 1) := by decide +kernel
theorem dX7_yearOf_0 : decode cX7_yearOf 0 = .ok (.iload_n 2, 1) := by decide +kernel
theorem dX7_yearOf_1 : decode cX7_yearOf 1 = .ok (.ifCond .ne 7, 3) := by decide +kernel
theorem dX7_yearOf_4 : decode cX7_yearOf 4 = .ok (.iconst 0, 1) := by decide +kernel
theorem dX7_yearOf_5 : decode cX7_yearOf 5 = .ok (.goto 5, 3) := by decide +kernel
theorem dX7_yearOf_8 : decode cX7_yearOf 8 = .ok (.bipush 99, 2) := by decide +kernel
theorem dX7_yearOf_10 : decode cX7_yearOf 10 = .ok (.istore_n 3, 1) := by decide +kernel
theorem dX7_yearOf_11 : decode cX7_yearOf 11 = .ok (.iconst 1, 1) := by decide +kernel
theorem dX7_yearOf_12 : decode cX7_yearOf 12 = .ok (.istore 4, 2) := by decide +kernel
theorem dX7_yearOf_14 : decode cX7_yearOf 14 = .ok (.iconst 0, 1) := by decide +kernel
theorem dX7_yearOf_15 : decode cX7_yearOf 15 = .ok (.istore 5, 2) := by decide +kernel
theorem dX7_yearOf_17 : decode cX7_yearOf 17 = .ok (.iload 5, 2) := by decide +kernel
theorem dX7_yearOf_19 : decode cX7_yearOf 19 = .ok (.aload_n 0, 1) := by decide +kernel
theorem dX7_yearOf_20 : decode cX7_yearOf 20 = .ok (.getfield 95, 3) := by decide +kernel
theorem dX7_yearOf_23 : decode cX7_yearOf 23 = .ok (.if_icmp .ge 104, 3) := by decide +kernel
theorem dX7_yearOf_26 : decode cX7_yearOf 26 = .ok (.iload 4, 2) := by decide +kernel
theorem dX7_yearOf_28 : decode cX7_yearOf 28 = .ok (.ifCond .eq 99, 3) := by decide +kernel
theorem dX7_yearOf_31 : decode cX7_yearOf 31 = .ok (.aload_n 0, 1) := by decide +kernel
theorem dX7_yearOf_32 : decode cX7_yearOf 32 = .ok (.getfield 62, 3) := by decide +kernel
theorem dX7_yearOf_35 : decode cX7_yearOf 35 = .ok (.iload_n 2, 1) := by decide +kernel
theorem dX7_yearOf_36 : decode cX7_yearOf 36 = .ok (.ifCond .ne 8, 3) := by decide +kernel
theorem dX7_yearOf_39 : decode cX7_yearOf 39 = .ok (.iload 5, 2) := by decide +kernel
theorem dX7_yearOf_41 : decode cX7_yearOf 41 = .ok (.goto 12, 3) := by decide +kernel
theorem dX7_yearOf_44 : decode cX7_yearOf 44 = .ok (.aload_n 0, 1) := by decide +kernel
theorem dX7_yearOf_45 : decode cX7_yearOf 45 = .ok (.getfield 95, 3) := by decide +kernel
theorem dX7_yearOf_48 : decode cX7_yearOf 48 = .ok (.iconst 1, 1) := by decide +kernel
theorem dX7_yearOf_49 : decode cX7_yearOf 49 = .ok (.isub, 1) := by decide +kernel
theorem dX7_yearOf_50 : decode cX7_yearOf 50 = .ok (.iload 5, 2) := by decide +kernel
theorem dX7_yearOf_52 : decode cX7_yearOf 52 = .ok (.isub, 1) := by decide +kernel
theorem dX7_yearOf_53 : decode cX7_yearOf 53 = .ok (.iaload, 1) := by decide +kernel
theorem dX7_yearOf_54 : decode cX7_yearOf 54 = .ok (.istore 6, 2) := by decide +kernel
theorem dX7_yearOf_56 : decode cX7_yearOf 56 = .ok (.iload_n 2, 1) := by decide +kernel
theorem dX7_yearOf_57 : decode cX7_yearOf 57 = .ok (.ifCond .ne 28, 3) := by decide +kernel
theorem dX7_yearOf_60 : decode cX7_yearOf 60 = .ok (.aload_n 0, 1) := by decide +kernel
theorem dX7_yearOf_61 : decode cX7_yearOf 61 = .ok (.getfield 7, 3) := by decide +kernel
theorem dX7_yearOf_64 : decode cX7_yearOf 64 = .ok (.iload 6, 2) := by decide +kernel
theorem dX7_yearOf_66 : decode cX7_yearOf 66 = .ok (.iaload, 1) := by decide +kernel
theorem dX7_yearOf_67 : decode cX7_yearOf 67 = .ok (.iload_n 3, 1) := by decide +kernel
theorem dX7_yearOf_68 : decode cX7_yearOf 68 = .ok (.if_icmp .le 13, 3) := by decide +kernel
theorem dX7_yearOf_71 : decode cX7_yearOf 71 = .ok (.aload_n 0, 1) := by decide +kernel
theorem dX7_yearOf_72 : decode cX7_yearOf 72 = .ok (.getfield 7, 3) := by decide +kernel
theorem dX7_yearOf_75 : decode cX7_yearOf 75 = .ok (.iload 6, 2) := by decide +kernel
theorem dX7_yearOf_77 : decode cX7_yearOf 77 = .ok (.iaload, 1) := by decide +kernel
theorem dX7_yearOf_78 : decode cX7_yearOf 78 = .ok (.goto 29, 3) := by decide +kernel
theorem dX7_yearOf_81 : decode cX7_yearOf 81 = .ok (.iload_n 3, 1) := by decide +kernel
theorem dX7_yearOf_82 : decode cX7_yearOf 82 = .ok (.goto 25, 3) := by decide +kernel
theorem dX7_yearOf_85 : decode cX7_yearOf 85 = .ok (.aload_n 0, 1) := by decide +kernel
theorem dX7_yearOf_86 : decode cX7_yearOf 86 = .ok (.getfield 13, 3) := by decide +kernel
theorem dX7_yearOf_89 : decode cX7_yearOf 89 = .ok (.iload 6, 2) := by decide +kernel
theorem dX7_yearOf_91 : decode cX7_yearOf 91 = .ok (.iaload, 1) := by decide +kernel
theorem dX7_yearOf_92 : decode cX7_yearOf 92 = .ok (.iload_n 3, 1) := by decide +kernel
theorem dX7_yearOf_93 : decode cX7_yearOf 93 = .ok (.if_icmp .ge 13, 3) := by decide +kernel
theorem dX7_yearOf_96 : decode cX7_yearOf 96 = .ok (.aload_n 0, 1) := by decide +kernel
theorem dX7_yearOf_97 : decode cX7_yearOf 97 = .ok (.getfield 13, 3) := by decide +kernel
theorem dX7_yearOf_100 : decode cX7_yearOf 100 = .ok (.iload 6, 2) := by decide +kernel
theorem dX7_yearOf_102 : decode cX7_yearOf 102 = .ok (.iaload, 1) := by decide +kernel
theorem dX7_yearOf_103 : decode cX7_yearOf 103 = .ok (.goto 4, 3) := by decide +kernel
theorem dX7_yearOf_106 : decode cX7_yearOf 106 = .ok (.iload_n 3, 1) := by decide +kernel
theorem dX7_yearOf_107 : decode cX7_yearOf 107 = .ok (.istore_n 3, 1) := by decide +kernel
theorem dX7_yearOf_108 : decode cX7_yearOf 108 = .ok (.iload 6, 2) := by decide +kernel
theorem dX7_yearOf_110 : decode cX7_yearOf 110 = .ok (.iload_n 1, 1) := by decide +kernel
theorem dX7_yearOf_111 : decode cX7_yearOf 111 = .ok (.if_icmp .eq 7, 3) := by decide +kernel
theorem dX7_yearOf_114 : decode cX7_yearOf 114 = .ok (.iconst 1, 1) := by decide +kernel
theorem dX7_yearOf_115 : decode cX7_yearOf 115 = .ok (.goto 4, 3) := by decide +kernel
theorem dX7_yearOf_118 : decode cX7_yearOf 118 = .ok (.iconst 0, 1) := by decide +kernel
theorem dX7_yearOf_119 : decode cX7_yearOf 119 = .ok (.istore 4, 2) := by decide +kernel
theorem dX7_yearOf_121 : decode cX7_yearOf 121 = .ok (.iinc 5 1, 3) := by decide +kernel
theorem dX7_yearOf_124 : decode cX7_yearOf 124 = .ok (.goto (-107), 3) := by decide +kernel
theorem dX7_yearOf_127 : decode cX7_yearOf 127 = .ok (.iload_n 3, 1) := by decide +kernel
theorem dX7_yearOf_128 : decode cX7_yearOf 128 = .ok (.ireturn, 1) := by decide +kernel
theorem dX7_graveYear_0 : decode cX7_graveYear 0 = .ok (.aload_n 0, 1) := by decide +kernel
theorem dX7_graveYear_1 : decode cX7_graveYear 1 = .ok (.invokevirtual 198, 3) := by decide +kernel
theorem dX7_graveYear_4 : decode cX7_graveYear 4 = .ok (.ifCond .eq 12, 3) := by decide +kernel
theorem dX7_graveYear_7 : decode cX7_graveYear 7 = .ok (.aload_n 0, 1) := by decide +kernel
theorem dX7_graveYear_8 : decode cX7_graveYear 8 = .ok (.iload_n 1, 1) := by decide +kernel
theorem dX7_graveYear_9 : decode cX7_graveYear 9 = .ok (.iload_n 2, 1) := by decide +kernel
theorem dX7_graveYear_10 : decode cX7_graveYear 10 = .ok (.invokevirtual 243, 3) := by decide +kernel
theorem dX7_graveYear_13 : decode cX7_graveYear 13 = .ok (.goto 5, 3) := by decide +kernel
theorem dX7_graveYear_16 : decode cX7_graveYear 16 = .ok (.bipush (-3), 2) := by decide +kernel
theorem dX7_graveYear_18 : decode cX7_graveYear 18 = .ok (.ireturn, 1) := by decide +kernel
theorem dX7_years_0 : decode cX7_years 0 = .ok (.iload_n 1, 1) := by decide +kernel
theorem dX7_years_1 : decode cX7_years 1 = .ok (.iconst 0, 1) := by decide +kernel
theorem dX7_years_2 : decode cX7_years 2 = .ok (.iconst 1, 1) := by decide +kernel
theorem dX7_years_3 : decode cX7_years 3 = .ok (.invokestatic 98, 3) := by decide +kernel
theorem dX7_years_6 : decode cX7_years 6 = .ok (.ifCond .eq 34, 3) := by decide +kernel
theorem dX7_years_9 : decode cX7_years 9 = .ok (.iload_n 1, 1) := by decide +kernel
theorem dX7_years_10 : decode cX7_years 10 = .ok (.ifCond .ne 14, 3) := by decide +kernel
theorem dX7_years_13 : decode cX7_years 13 = .ok (.aload_n 0, 1) := by decide +kernel
theorem dX7_years_14 : decode cX7_years 14 = .ok (.iload_n 2, 1) := by decide +kernel
theorem dX7_years_15 : decode cX7_years 15 = .ok (.invokevirtual 106, 3) := by decide +kernel
theorem dX7_years_18 : decode cX7_years 18 = .ok (.ifCond .eq 22, 3) := by decide +kernel
theorem dX7_years_21 : decode cX7_years 21 = .ok (.goto 10, 3) := by decide +kernel
theorem dX7_years_24 : decode cX7_years 24 = .ok (.iload_n 2, 1) := by decide +kernel
theorem dX7_years_25 : decode cX7_years 25 = .ok (.invokestatic 113, 3) := by decide +kernel
theorem dX7_years_28 : decode cX7_years 28 = .ok (.ifCond .eq 12, 3) := by decide +kernel
theorem dX7_years_31 : decode cX7_years 31 = .ok (.iload_n 3, 1) := by decide +kernel
theorem dX7_years_32 : decode cX7_years 32 = .ok (.iconst 0, 1) := by decide +kernel
theorem dX7_years_33 : decode cX7_years 33 = .ok (.iconst 1, 1) := by decide +kernel
theorem dX7_years_34 : decode cX7_years 34 = .ok (.invokestatic 98, 3) := by decide +kernel
theorem dX7_years_37 : decode cX7_years 37 = .ok (.ifCond .ne 6, 3) := by decide +kernel
theorem dX7_years_40 : decode cX7_years 40 = .ok (.bipush (-2), 2) := by decide +kernel
theorem dX7_years_42 : decode cX7_years 42 = .ok (.ireturn, 1) := by decide +kernel
theorem dX7_years_43 : decode cX7_years 43 = .ok (.iload_n 1, 1) := by decide +kernel
theorem dX7_years_44 : decode cX7_years 44 = .ok (.ifCond .ne 10, 3) := by decide +kernel
theorem dX7_years_47 : decode cX7_years 47 = .ok (.aload_n 0, 1) := by decide +kernel
theorem dX7_years_48 : decode cX7_years 48 = .ok (.iload_n 2, 1) := by decide +kernel
theorem dX7_years_49 : decode cX7_years 49 = .ok (.iload_n 3, 1) := by decide +kernel
theorem dX7_years_50 : decode cX7_years 50 = .ok (.invokevirtual 246, 3) := by decide +kernel
theorem dX7_years_53 : decode cX7_years 53 = .ok (.ireturn, 1) := by decide +kernel
theorem dX7_years_54 : decode cX7_years 54 = .ok (.bipush (-3), 2) := by decide +kernel
theorem dX7_years_56 : decode cX7_years 56 = .ok (.istore 4, 2) := by decide +kernel
theorem dX7_years_58 : decode cX7_years 58 = .ok (.iconst 0, 1) := by decide +kernel
theorem dX7_years_59 : decode cX7_years 59 = .ok (.istore 5, 2) := by decide +kernel
theorem dX7_years_61 : decode cX7_years 61 = .ok (.iload 5, 2) := by decide +kernel
theorem dX7_years_63 : decode cX7_years 63 = .ok (.aload_n 0, 1) := by decide +kernel
theorem dX7_years_64 : decode cX7_years 64 = .ok (.getfield 95, 3) := by decide +kernel
theorem dX7_years_67 : decode cX7_years 67 = .ok (.if_icmp .ge 76, 3) := by decide +kernel
theorem dX7_years_70 : decode cX7_years 70 = .ok (.aload_n 0, 1) := by decide +kernel
theorem dX7_years_71 : decode cX7_years 71 = .ok (.invokevirtual 198, 3) := by decide +kernel
theorem dX7_years_74 : decode cX7_years 74 = .ok (.ifCond .eq 69, 3) := by decide +kernel
theorem dX7_years_77 : decode cX7_years 77 = .ok (.aload_n 0, 1) := by decide +kernel
theorem dX7_years_78 : decode cX7_years 78 = .ok (.getfield 53, 3) := by decide +kernel
theorem dX7_years_81 : decode cX7_years 81 = .ok (.iload 5, 2) := by decide +kernel
theorem dX7_years_83 : decode cX7_years 83 = .ok (.iaload, 1) := by decide +kernel
theorem dX7_years_84 : decode cX7_years 84 = .ok (.iload_n 2, 1) := by decide +kernel
theorem dX7_years_85 : decode cX7_years 85 = .ok (.invokestatic 152, 3) := by decide +kernel
theorem dX7_years_88 : decode cX7_years 88 = .ok (.ifCond .eq 49, 3) := by decide +kernel
theorem dX7_years_91 : decode cX7_years 91 = .ok (.aload_n 0, 1) := by decide +kernel
theorem dX7_years_92 : decode cX7_years 92 = .ok (.iload 5, 2) := by decide +kernel
theorem dX7_years_94 : decode cX7_years 94 = .ok (.iload_n 3, 1) := by decide +kernel
theorem dX7_years_95 : decode cX7_years 95 = .ok (.invokevirtual 243, 3) := by decide +kernel
theorem dX7_years_98 : decode cX7_years 98 = .ok (.istore 6, 2) := by decide +kernel
theorem dX7_years_100 : decode cX7_years 100 = .ok (.iload 4, 2) := by decide +kernel
theorem dX7_years_102 : decode cX7_years 102 = .ok (.bipush (-3), 2) := by decide +kernel
theorem dX7_years_104 : decode cX7_years 104 = .ok (.if_icmp .eq 24, 3) := by decide +kernel
theorem dX7_years_107 : decode cX7_years 107 = .ok (.iload_n 3, 1) := by decide +kernel
theorem dX7_years_108 : decode cX7_years 108 = .ok (.ifCond .ne 13, 3) := by decide +kernel
theorem dX7_years_111 : decode cX7_years 111 = .ok (.iload 6, 2) := by decide +kernel
theorem dX7_years_113 : decode cX7_years 113 = .ok (.iload 4, 2) := by decide +kernel
theorem dX7_years_115 : decode cX7_years 115 = .ok (.if_icmp .ge 18, 3) := by decide +kernel
theorem dX7_years_118 : decode cX7_years 118 = .ok (.goto 10, 3) := by decide +kernel
theorem dX7_years_121 : decode cX7_years 121 = .ok (.iload 6, 2) := by decide +kernel
theorem dX7_years_123 : decode cX7_years 123 = .ok (.iload 4, 2) := by decide +kernel
theorem dX7_years_125 : decode cX7_years 125 = .ok (.if_icmp .le 8, 3) := by decide +kernel
theorem dX7_years_128 : decode cX7_years 128 = .ok (.iload 6, 2) := by decide +kernel
theorem dX7_years_130 : decode cX7_years 130 = .ok (.goto 5, 3) := by decide +kernel
theorem dX7_years_133 : decode cX7_years 133 = .ok (.iload 4, 2) := by decide +kernel
theorem dX7_years_135 : decode cX7_years 135 = .ok (.istore 4, 2) := by decide +kernel
theorem dX7_years_137 : decode cX7_years 137 = .ok (.iinc 5 1, 3) := by decide +kernel
theorem dX7_years_140 : decode cX7_years 140 = .ok (.goto (-79), 3) := by decide +kernel
theorem dX7_years_143 : decode cX7_years 143 = .ok (.iload 4, 2) := by decide +kernel
theorem dX7_years_145 : decode cX7_years 145 = .ok (.ireturn, 1) := by decide +kernel
theorem dX7_gapsWith_0 : decode cX7_gapsWith 0 = .ok (.iconst 0, 1) := by decide +kernel
theorem dX7_gapsWith_1 : decode cX7_gapsWith 1 = .ok (.istore 4, 2) := by decide +kernel
theorem dX7_gapsWith_3 : decode cX7_gapsWith 3 = .ok (.iconst (-1), 1) := by decide +kernel
theorem dX7_gapsWith_4 : decode cX7_gapsWith 4 = .ok (.istore 5, 2) := by decide +kernel
theorem dX7_gapsWith_6 : decode cX7_gapsWith 6 = .ok (.iconst 0, 1) := by decide +kernel
theorem dX7_gapsWith_7 : decode cX7_gapsWith 7 = .ok (.istore 6, 2) := by decide +kernel
theorem dX7_gapsWith_9 : decode cX7_gapsWith 9 = .ok (.iload 6, 2) := by decide +kernel
theorem dX7_gapsWith_11 : decode cX7_gapsWith 11 = .ok (.aload_n 0, 1) := by decide +kernel
theorem dX7_gapsWith_12 : decode cX7_gapsWith 12 = .ok (.getfield 95, 3) := by decide +kernel
theorem dX7_gapsWith_15 : decode cX7_gapsWith 15 = .ok (.if_icmp .gt 135, 3) := by decide +kernel
theorem dX7_gapsWith_18 : decode cX7_gapsWith 18 = .ok (.iload 6, 2) := by decide +kernel
theorem dX7_gapsWith_20 : decode cX7_gapsWith 20 = .ok (.iload_n 2, 1) := by decide +kernel
theorem dX7_gapsWith_21 : decode cX7_gapsWith 21 = .ok (.if_icmp .ne 7, 3) := by decide +kernel
theorem dX7_gapsWith_24 : decode cX7_gapsWith 24 = .ok (.iconst 1, 1) := by decide +kernel
theorem dX7_gapsWith_25 : decode cX7_gapsWith 25 = .ok (.goto 4, 3) := by decide +kernel
theorem dX7_gapsWith_28 : decode cX7_gapsWith 28 = .ok (.iconst 0, 1) := by decide +kernel
theorem dX7_gapsWith_29 : decode cX7_gapsWith 29 = .ok (.istore 7, 2) := by decide +kernel
theorem dX7_gapsWith_31 : decode cX7_gapsWith 31 = .ok (.iload 7, 2) := by decide +kernel
theorem dX7_gapsWith_33 : decode cX7_gapsWith 33 = .ok (.ifCond .eq 7, 3) := by decide +kernel
theorem dX7_gapsWith_36 : decode cX7_gapsWith 36 = .ok (.iconst 0, 1) := by decide +kernel
theorem dX7_gapsWith_37 : decode cX7_gapsWith 37 = .ok (.goto 23, 3) := by decide +kernel
theorem dX7_gapsWith_40 : decode cX7_gapsWith 40 = .ok (.aload_n 0, 1) := by decide +kernel
theorem dX7_gapsWith_41 : decode cX7_gapsWith 41 = .ok (.getfield 62, 3) := by decide +kernel
theorem dX7_gapsWith_44 : decode cX7_gapsWith 44 = .ok (.iload 6, 2) := by decide +kernel
theorem dX7_gapsWith_46 : decode cX7_gapsWith 46 = .ok (.iload_n 2, 1) := by decide +kernel
theorem dX7_gapsWith_47 : decode cX7_gapsWith 47 = .ok (.if_icmp .ge 8, 3) := by decide +kernel
theorem dX7_gapsWith_50 : decode cX7_gapsWith 50 = .ok (.iload 6, 2) := by decide +kernel
theorem dX7_gapsWith_52 : decode cX7_gapsWith 52 = .ok (.goto 7, 3) := by decide +kernel
theorem dX7_gapsWith_55 : decode cX7_gapsWith 55 = .ok (.iload 6, 2) := by decide +kernel
theorem dX7_gapsWith_57 : decode cX7_gapsWith 57 = .ok (.iconst 1, 1) := by decide +kernel
theorem dX7_gapsWith_58 : decode cX7_gapsWith 58 = .ok (.isub, 1) := by decide +kernel
theorem dX7_gapsWith_59 : decode cX7_gapsWith 59 = .ok (.iaload, 1) := by decide +kernel
theorem dX7_gapsWith_60 : decode cX7_gapsWith 60 = .ok (.istore 8, 2) := by decide +kernel
theorem dX7_gapsWith_62 : decode cX7_gapsWith 62 = .ok (.iload 7, 2) := by decide +kernel
theorem dX7_gapsWith_64 : decode cX7_gapsWith 64 = .ok (.ifCond .eq 10, 3) := by decide +kernel
theorem dX7_gapsWith_67 : decode cX7_gapsWith 67 = .ok (.iload_n 3, 1) := by decide +kernel
theorem dX7_gapsWith_68 : decode cX7_gapsWith 68 = .ok (.ifCond .eq 43, 3) := by decide +kernel
theorem dX7_gapsWith_71 : decode cX7_gapsWith 71 = .ok (.goto 17, 3) := by decide +kernel
theorem dX7_gapsWith_74 : decode cX7_gapsWith 74 = .ok (.aload_n 0, 1) := by decide +kernel
theorem dX7_gapsWith_75 : decode cX7_gapsWith 75 = .ok (.getfield 53, 3) := by decide +kernel
theorem dX7_gapsWith_78 : decode cX7_gapsWith 78 = .ok (.iload 8, 2) := by decide +kernel
theorem dX7_gapsWith_80 : decode cX7_gapsWith 80 = .ok (.iaload, 1) := by decide +kernel
theorem dX7_gapsWith_81 : decode cX7_gapsWith 81 = .ok (.iload_n 1, 1) := by decide +kernel
theorem dX7_gapsWith_82 : decode cX7_gapsWith 82 = .ok (.invokestatic 152, 3) := by decide +kernel
theorem dX7_gapsWith_85 : decode cX7_gapsWith 85 = .ok (.ifCond .eq 26, 3) := by decide +kernel
theorem dX7_gapsWith_88 : decode cX7_gapsWith 88 = .ok (.iload 4, 2) := by decide +kernel
theorem dX7_gapsWith_90 : decode cX7_gapsWith 90 = .ok (.iload 5, 2) := by decide +kernel
theorem dX7_gapsWith_92 : decode cX7_gapsWith 92 = .ok (.iconst (-1), 1) := by decide +kernel
theorem dX7_gapsWith_93 : decode cX7_gapsWith 93 = .ok (.if_icmp .ne 7, 3) := by decide +kernel
theorem dX7_gapsWith_96 : decode cX7_gapsWith 96 = .ok (.iconst 0, 1) := by decide +kernel
theorem dX7_gapsWith_97 : decode cX7_gapsWith 97 = .ok (.goto 5, 3) := by decide +kernel
theorem dX7_gapsWith_100 : decode cX7_gapsWith 100 = .ok (.iload 5, 2) := by decide +kernel
theorem dX7_gapsWith_102 : decode cX7_gapsWith 102 = .ok (.iadd, 1) := by decide +kernel
theorem dX7_gapsWith_103 : decode cX7_gapsWith 103 = .ok (.istore 4, 2) := by decide +kernel
theorem dX7_gapsWith_105 : decode cX7_gapsWith 105 = .ok (.iconst 0, 1) := by decide +kernel
theorem dX7_gapsWith_106 : decode cX7_gapsWith 106 = .ok (.istore 5, 2) := by decide +kernel
theorem dX7_gapsWith_108 : decode cX7_gapsWith 108 = .ok (.goto 36, 3) := by decide +kernel
theorem dX7_gapsWith_111 : decode cX7_gapsWith 111 = .ok (.iload 5, 2) := by decide +kernel
theorem dX7_gapsWith_113 : decode cX7_gapsWith 113 = .ok (.iconst (-1), 1) := by decide +kernel
theorem dX7_gapsWith_114 : decode cX7_gapsWith 114 = .ok (.if_icmp .eq 30, 3) := by decide +kernel
theorem dX7_gapsWith_117 : decode cX7_gapsWith 117 = .ok (.iload 5, 2) := by decide +kernel
theorem dX7_gapsWith_119 : decode cX7_gapsWith 119 = .ok (.iload 7, 2) := by decide +kernel
theorem dX7_gapsWith_121 : decode cX7_gapsWith 121 = .ok (.ifCond .ne 19, 3) := by decide +kernel
theorem dX7_gapsWith_124 : decode cX7_gapsWith 124 = .ok (.aload_n 0, 1) := by decide +kernel
theorem dX7_gapsWith_125 : decode cX7_gapsWith 125 = .ok (.getfield 110, 3) := by decide +kernel
theorem dX7_gapsWith_128 : decode cX7_gapsWith 128 = .ok (.iload 8, 2) := by decide +kernel
theorem dX7_gapsWith_130 : decode cX7_gapsWith 130 = .ok (.invokestatic 152, 3) := by decide +kernel
theorem dX7_gapsWith_133 : decode cX7_gapsWith 133 = .ok (.ifCond .eq 7, 3) := by decide +kernel
theorem dX7_gapsWith_136 : decode cX7_gapsWith 136 = .ok (.iconst 0, 1) := by decide +kernel
theorem dX7_gapsWith_137 : decode cX7_gapsWith 137 = .ok (.goto 4, 3) := by decide +kernel
theorem dX7_gapsWith_140 : decode cX7_gapsWith 140 = .ok (.iconst 1, 1) := by decide +kernel
theorem dX7_gapsWith_141 : decode cX7_gapsWith 141 = .ok (.iadd, 1) := by decide +kernel
theorem dX7_gapsWith_142 : decode cX7_gapsWith 142 = .ok (.istore 5, 2) := by decide +kernel
theorem dX7_gapsWith_144 : decode cX7_gapsWith 144 = .ok (.iinc 6 1, 3) := by decide +kernel
theorem dX7_gapsWith_147 : decode cX7_gapsWith 147 = .ok (.goto (-138), 3) := by decide +kernel
theorem dX7_gapsWith_150 : decode cX7_gapsWith 150 = .ok (.iload 4, 2) := by decide +kernel
theorem dX7_gapsWith_152 : decode cX7_gapsWith 152 = .ok (.ireturn, 1) := by decide +kernel
theorem dX7_fresh_0 : decode cX7_fresh 0 = .ok (.iload_n 1, 1) := by decide +kernel
theorem dX7_fresh_1 : decode cX7_fresh 1 = .ok (.iconst 0, 1) := by decide +kernel
theorem dX7_fresh_2 : decode cX7_fresh 2 = .ok (.sipush 1023, 3) := by decide +kernel
theorem dX7_fresh_5 : decode cX7_fresh 5 = .ok (.invokestatic 98, 3) := by decide +kernel
theorem dX7_fresh_8 : decode cX7_fresh 8 = .ok (.ifCond .eq 12, 3) := by decide +kernel
theorem dX7_fresh_11 : decode cX7_fresh 11 = .ok (.iload_n 2, 1) := by decide +kernel
theorem dX7_fresh_12 : decode cX7_fresh 12 = .ok (.iconst 0, 1) := by decide +kernel
theorem dX7_fresh_13 : decode cX7_fresh 13 = .ok (.iconst 1, 1) := by decide +kernel
theorem dX7_fresh_14 : decode cX7_fresh 14 = .ok (.invokestatic 98, 3) := by decide +kernel
theorem dX7_fresh_17 : decode cX7_fresh 17 = .ok (.ifCond .ne 6, 3) := by decide +kernel
theorem dX7_fresh_20 : decode cX7_fresh 20 = .ok (.bipush (-2), 2) := by decide +kernel
theorem dX7_fresh_22 : decode cX7_fresh 22 = .ok (.ireturn, 1) := by decide +kernel
theorem dX7_fresh_23 : decode cX7_fresh 23 = .ok (.aload_n 0, 1) := by decide +kernel
theorem dX7_fresh_24 : decode cX7_fresh 24 = .ok (.invokevirtual 198, 3) := by decide +kernel
theorem dX7_fresh_27 : decode cX7_fresh 27 = .ok (.ifCond .ne 6, 3) := by decide +kernel
theorem dX7_fresh_30 : decode cX7_fresh 30 = .ok (.bipush (-3), 2) := by decide +kernel
theorem dX7_fresh_32 : decode cX7_fresh 32 = .ok (.ireturn, 1) := by decide +kernel
theorem dX7_fresh_33 : decode cX7_fresh 33 = .ok (.ldc 159, 2) := by decide +kernel
theorem dX7_fresh_35 : decode cX7_fresh 35 = .ok (.istore_n 3, 1) := by decide +kernel
theorem dX7_fresh_36 : decode cX7_fresh 36 = .ok (.iconst 0, 1) := by decide +kernel
theorem dX7_fresh_37 : decode cX7_fresh 37 = .ok (.istore 4, 2) := by decide +kernel
theorem dX7_fresh_39 : decode cX7_fresh 39 = .ok (.iconst 0, 1) := by decide +kernel
theorem dX7_fresh_40 : decode cX7_fresh 40 = .ok (.istore 5, 2) := by decide +kernel
theorem dX7_fresh_42 : decode cX7_fresh 42 = .ok (.iload 5, 2) := by decide +kernel
theorem dX7_fresh_44 : decode cX7_fresh 44 = .ok (.aload_n 0, 1) := by decide +kernel
theorem dX7_fresh_45 : decode cX7_fresh 45 = .ok (.getfield 95, 3) := by decide +kernel
theorem dX7_fresh_48 : decode cX7_fresh 48 = .ok (.if_icmp .gt 101, 3) := by decide +kernel
theorem dX7_fresh_51 : decode cX7_fresh 51 = .ok (.iconst 0, 1) := by decide +kernel
theorem dX7_fresh_52 : decode cX7_fresh 52 = .ok (.istore 6, 2) := by decide +kernel
theorem dX7_fresh_54 : decode cX7_fresh 54 = .ok (.iconst 0, 1) := by decide +kernel
theorem dX7_fresh_55 : decode cX7_fresh 55 = .ok (.istore 7, 2) := by decide +kernel
theorem dX7_fresh_57 : decode cX7_fresh 57 = .ok (.iload 7, 2) := by decide +kernel
theorem dX7_fresh_59 : decode cX7_fresh 59 = .ok (.bipush 10, 2) := by decide +kernel
theorem dX7_fresh_61 : decode cX7_fresh 61 = .ok (.if_icmp .ge 36, 3) := by decide +kernel
theorem dX7_fresh_64 : decode cX7_fresh 64 = .ok (.iload 6, 2) := by decide +kernel
theorem dX7_fresh_66 : decode cX7_fresh 66 = .ok (.aload_n 0, 1) := by decide +kernel
theorem dX7_fresh_67 : decode cX7_fresh 67 = .ok (.getfield 16, 3) := by decide +kernel
theorem dX7_fresh_70 : decode cX7_fresh 70 = .ok (.iload 7, 2) := by decide +kernel
theorem dX7_fresh_72 : decode cX7_fresh 72 = .ok (.iaload, 1) := by decide +kernel
theorem dX7_fresh_73 : decode cX7_fresh 73 = .ok (.aload_n 0, 1) := by decide +kernel
theorem dX7_fresh_74 : decode cX7_fresh 74 = .ok (.iload 7, 2) := by decide +kernel
theorem dX7_fresh_76 : decode cX7_fresh 76 = .ok (.iload 5, 2) := by decide +kernel
theorem dX7_fresh_78 : decode cX7_fresh 78 = .ok (.iload_n 1, 1) := by decide +kernel
theorem dX7_fresh_79 : decode cX7_fresh 79 = .ok (.iload 7, 2) := by decide +kernel
theorem dX7_fresh_81 : decode cX7_fresh 81 = .ok (.invokestatic 152, 3) := by decide +kernel
theorem dX7_fresh_84 : decode cX7_fresh 84 = .ok (.invokevirtual 249, 3) := by decide +kernel
theorem dX7_fresh_87 : decode cX7_fresh 87 = .ok (.imul, 1) := by decide +kernel
theorem dX7_fresh_88 : decode cX7_fresh 88 = .ok (.iadd, 1) := by decide +kernel
theorem dX7_fresh_89 : decode cX7_fresh 89 = .ok (.istore 6, 2) := by decide +kernel
theorem dX7_fresh_91 : decode cX7_fresh 91 = .ok (.iinc 7 1, 3) := by decide +kernel
theorem dX7_fresh_94 : decode cX7_fresh 94 = .ok (.goto (-37), 3) := by decide +kernel
theorem dX7_fresh_97 : decode cX7_fresh 97 = .ok (.iload 6, 2) := by decide +kernel
theorem dX7_fresh_99 : decode cX7_fresh 99 = .ok (.iload_n 3, 1) := by decide +kernel
theorem dX7_fresh_100 : decode cX7_fresh 100 = .ok (.if_icmp .ge 10, 3) := by decide +kernel
theorem dX7_fresh_103 : decode cX7_fresh 103 = .ok (.iconst 1, 1) := by decide +kernel
theorem dX7_fresh_104 : decode cX7_fresh 104 = .ok (.iload 5, 2) := by decide +kernel
theorem dX7_fresh_106 : decode cX7_fresh 106 = .ok (.ishl, 1) := by decide +kernel
theorem dX7_fresh_107 : decode cX7_fresh 107 = .ok (.goto 21, 3) := by decide +kernel
theorem dX7_fresh_110 : decode cX7_fresh 110 = .ok (.iload 6, 2) := by decide +kernel
theorem dX7_fresh_112 : decode cX7_fresh 112 = .ok (.iload_n 3, 1) := by decide +kernel
theorem dX7_fresh_113 : decode cX7_fresh 113 = .ok (.if_icmp .ne 13, 3) := by decide +kernel
theorem dX7_fresh_116 : decode cX7_fresh 116 = .ok (.iload 4, 2) := by decide +kernel
theorem dX7_fresh_118 : decode cX7_fresh 118 = .ok (.iconst 1, 1) := by decide +kernel
theorem dX7_fresh_119 : decode cX7_fresh 119 = .ok (.iload 5, 2) := by decide +kernel
theorem dX7_fresh_121 : decode cX7_fresh 121 = .ok (.ishl, 1) := by decide +kernel
theorem dX7_fresh_122 : decode cX7_fresh 122 = .ok (.ior, 1) := by decide +kernel
theorem dX7_fresh_123 : decode cX7_fresh 123 = .ok (.goto 5, 3) := by decide +kernel
theorem dX7_fresh_126 : decode cX7_fresh 126 = .ok (.iload 4, 2) := by decide +kernel
theorem dX7_fresh_128 : decode cX7_fresh 128 = .ok (.istore 4, 2) := by decide +kernel
theorem dX7_fresh_130 : decode cX7_fresh 130 = .ok (.iload 6, 2) := by decide +kernel
theorem dX7_fresh_132 : decode cX7_fresh 132 = .ok (.iload_n 3, 1) := by decide +kernel
theorem dX7_fresh_133 : decode cX7_fresh 133 = .ok (.if_icmp .ge 8, 3) := by decide +kernel
theorem dX7_fresh_136 : decode cX7_fresh 136 = .ok (.iload 6, 2) := by decide +kernel
theorem dX7_fresh_138 : decode cX7_fresh 138 = .ok (.goto 4, 3) := by decide +kernel
theorem dX7_fresh_141 : decode cX7_fresh 141 = .ok (.iload_n 3, 1) := by decide +kernel
theorem dX7_fresh_142 : decode cX7_fresh 142 = .ok (.istore_n 3, 1) := by decide +kernel
theorem dX7_fresh_143 : decode cX7_fresh 143 = .ok (.iinc 5 1, 3) := by decide +kernel
theorem dX7_fresh_146 : decode cX7_fresh 146 = .ok (.goto (-104), 3) := by decide +kernel
theorem dX7_fresh_149 : decode cX7_fresh 149 = .ok (.iload_n 2, 1) := by decide +kernel
theorem dX7_fresh_150 : decode cX7_fresh 150 = .ok (.ifCond .ne 8, 3) := by decide +kernel
theorem dX7_fresh_153 : decode cX7_fresh 153 = .ok (.iload 4, 2) := by decide +kernel
theorem dX7_fresh_155 : decode cX7_fresh 155 = .ok (.goto 4, 3) := by decide +kernel
theorem dX7_fresh_158 : decode cX7_fresh 158 = .ok (.iload_n 3, 1) := by decide +kernel
theorem dX7_fresh_159 : decode cX7_fresh 159 = .ok (.ireturn, 1) := by decide +kernel
theorem dX7_weightOf_0 : decode cX7_weightOf 0 = .ok (.iconst 0, 1) := by decide +kernel
theorem dX7_weightOf_1 : decode cX7_weightOf 1 = .ok (.istore_n 2, 1) := by decide +kernel
theorem dX7_weightOf_2 : decode cX7_weightOf 2 = .ok (.iconst 0, 1) := by decide +kernel
theorem dX7_weightOf_3 : decode cX7_weightOf 3 = .ok (.istore_n 3, 1) := by decide +kernel
theorem dX7_weightOf_4 : decode cX7_weightOf 4 = .ok (.iload_n 3, 1) := by decide +kernel
theorem dX7_weightOf_5 : decode cX7_weightOf 5 = .ok (.bipush 10, 2) := by decide +kernel
theorem dX7_weightOf_7 : decode cX7_weightOf 7 = .ok (.if_icmp .ge 30, 3) := by decide +kernel
theorem dX7_weightOf_10 : decode cX7_weightOf 10 = .ok (.iload_n 2, 1) := by decide +kernel
theorem dX7_weightOf_11 : decode cX7_weightOf 11 = .ok (.iload_n 1, 1) := by decide +kernel
theorem dX7_weightOf_12 : decode cX7_weightOf 12 = .ok (.iload_n 3, 1) := by decide +kernel
theorem dX7_weightOf_13 : decode cX7_weightOf 13 = .ok (.invokestatic 152, 3) := by decide +kernel
theorem dX7_weightOf_16 : decode cX7_weightOf 16 = .ok (.ifCond .eq 12, 3) := by decide +kernel
theorem dX7_weightOf_19 : decode cX7_weightOf 19 = .ok (.aload_n 0, 1) := by decide +kernel
theorem dX7_weightOf_20 : decode cX7_weightOf 20 = .ok (.getfield 16, 3) := by decide +kernel
theorem dX7_weightOf_23 : decode cX7_weightOf 23 = .ok (.iload_n 3, 1) := by decide +kernel
theorem dX7_weightOf_24 : decode cX7_weightOf 24 = .ok (.iaload, 1) := by decide +kernel
theorem dX7_weightOf_25 : decode cX7_weightOf 25 = .ok (.goto 4, 3) := by decide +kernel
theorem dX7_weightOf_28 : decode cX7_weightOf 28 = .ok (.iconst 0, 1) := by decide +kernel
theorem dX7_weightOf_29 : decode cX7_weightOf 29 = .ok (.iadd, 1) := by decide +kernel
theorem dX7_weightOf_30 : decode cX7_weightOf 30 = .ok (.istore_n 2, 1) := by decide +kernel
theorem dX7_weightOf_31 : decode cX7_weightOf 31 = .ok (.iinc 3 1, 3) := by decide +kernel
theorem dX7_weightOf_34 : decode cX7_weightOf 34 = .ok (.goto (-30), 3) := by decide +kernel
theorem dX7_weightOf_37 : decode cX7_weightOf 37 = .ok (.iload_n 2, 1) := by decide +kernel
theorem dX7_weightOf_38 : decode cX7_weightOf 38 = .ok (.ireturn, 1) := by decide +kernel
theorem dX7_alike_0 : decode cX7_alike 0 = .ok (.aload_n 0, 1) := by decide +kernel
theorem dX7_alike_1 : decode cX7_alike 1 = .ok (.iload_n 1, 1) := by decide +kernel
theorem dX7_alike_2 : decode cX7_alike 2 = .ok (.invokevirtual 106, 3) := by decide +kernel
theorem dX7_alike_5 : decode cX7_alike 5 = .ok (.ifCond .eq 25, 3) := by decide +kernel
theorem dX7_alike_8 : decode cX7_alike 8 = .ok (.aload_n 0, 1) := by decide +kernel
theorem dX7_alike_9 : decode cX7_alike 9 = .ok (.iload_n 2, 1) := by decide +kernel
theorem dX7_alike_10 : decode cX7_alike 10 = .ok (.invokevirtual 106, 3) := by decide +kernel
theorem dX7_alike_13 : decode cX7_alike 13 = .ok (.ifCond .eq 17, 3) := by decide +kernel
theorem dX7_alike_16 : decode cX7_alike 16 = .ok (.iload_n 1, 1) := by decide +kernel
theorem dX7_alike_17 : decode cX7_alike 17 = .ok (.iload_n 2, 1) := by decide +kernel
theorem dX7_alike_18 : decode cX7_alike 18 = .ok (.if_icmp .eq 12, 3) := by decide +kernel
theorem dX7_alike_21 : decode cX7_alike 21 = .ok (.iload_n 3, 1) := by decide +kernel
theorem dX7_alike_22 : decode cX7_alike 22 = .ok (.iconst 0, 1) := by decide +kernel
theorem dX7_alike_23 : decode cX7_alike 23 = .ok (.iconst 1, 1) := by decide +kernel
theorem dX7_alike_24 : decode cX7_alike 24 = .ok (.invokestatic 98, 3) := by decide +kernel
theorem dX7_alike_27 : decode cX7_alike 27 = .ok (.ifCond .ne 9, 3) := by decide +kernel
theorem dX7_alike_30 : decode cX7_alike 30 = .ok (.bipush (-2), 2) := by decide +kernel
theorem dX7_alike_32 : decode cX7_alike 32 = .ok (.invokestatic 221, 3) := by decide +kernel
theorem dX7_alike_35 : decode cX7_alike 35 = .ok (.lreturn, 1) := by decide +kernel
theorem dX7_alike_36 : decode cX7_alike 36 = .ok (.aload_n 0, 1) := by decide +kernel
theorem dX7_alike_37 : decode cX7_alike 37 = .ok (.invokevirtual 149, 3) := by decide +kernel
theorem dX7_alike_40 : decode cX7_alike 40 = .ok (.aload_n 0, 1) := by decide +kernel
theorem dX7_alike_41 : decode cX7_alike 41 = .ok (.aload_n 0, 1) := by decide +kernel
theorem dX7_alike_42 : decode cX7_alike 42 = .ok (.getfield 53, 3) := by decide +kernel
theorem dX7_alike_45 : decode cX7_alike 45 = .ok (.iload_n 1, 1) := by decide +kernel
theorem dX7_alike_46 : decode cX7_alike 46 = .ok (.iaload, 1) := by decide +kernel
theorem dX7_alike_47 : decode cX7_alike 47 = .ok (.aload_n 0, 1) := by decide +kernel
theorem dX7_alike_48 : decode cX7_alike 48 = .ok (.getfield 53, 3) := by decide +kernel
theorem dX7_alike_51 : decode cX7_alike 51 = .ok (.iload_n 2, 1) := by decide +kernel
theorem dX7_alike_52 : decode cX7_alike 52 = .ok (.iaload, 1) := by decide +kernel
theorem dX7_alike_53 : decode cX7_alike 53 = .ok (.ior, 1) := by decide +kernel
theorem dX7_alike_54 : decode cX7_alike 54 = .ok (.invokevirtual 253, 3) := by decide +kernel
theorem dX7_alike_57 : decode cX7_alike 57 = .ok (.istore 4, 2) := by decide +kernel
theorem dX7_alike_59 : decode cX7_alike 59 = .ok (.iload 4, 2) := by decide +kernel
theorem dX7_alike_61 : decode cX7_alike 61 = .ok (.ifCond .ne 11, 3) := by decide +kernel
theorem dX7_alike_64 : decode cX7_alike 64 = .ok (.bipush (-3), 2) := by decide +kernel
theorem dX7_alike_66 : decode cX7_alike 66 = .ok (.invokestatic 221, 3) := by decide +kernel
theorem dX7_alike_69 : decode cX7_alike 69 = .ok (.goto 28, 3) := by decide +kernel
theorem dX7_alike_72 : decode cX7_alike 72 = .ok (.aload_n 0, 1) := by decide +kernel
theorem dX7_alike_73 : decode cX7_alike 73 = .ok (.aload_n 0, 1) := by decide +kernel
theorem dX7_alike_74 : decode cX7_alike 74 = .ok (.getfield 53, 3) := by decide +kernel
theorem dX7_alike_77 : decode cX7_alike 77 = .ok (.iload_n 1, 1) := by decide +kernel
theorem dX7_alike_78 : decode cX7_alike 78 = .ok (.iaload, 1) := by decide +kernel
theorem dX7_alike_79 : decode cX7_alike 79 = .ok (.aload_n 0, 1) := by decide +kernel
theorem dX7_alike_80 : decode cX7_alike 80 = .ok (.getfield 53, 3) := by decide +kernel
theorem dX7_alike_83 : decode cX7_alike 83 = .ok (.iload_n 2, 1) := by decide +kernel
theorem dX7_alike_84 : decode cX7_alike 84 = .ok (.iaload, 1) := by decide +kernel
theorem dX7_alike_85 : decode cX7_alike 85 = .ok (.iand, 1) := by decide +kernel
theorem dX7_alike_86 : decode cX7_alike 86 = .ok (.invokevirtual 253, 3) := by decide +kernel
theorem dX7_alike_89 : decode cX7_alike 89 = .ok (.i2l, 1) := by decide +kernel
theorem dX7_alike_90 : decode cX7_alike 90 = .ok (.iload 4, 2) := by decide +kernel
theorem dX7_alike_92 : decode cX7_alike 92 = .ok (.i2l, 1) := by decide +kernel
theorem dX7_alike_93 : decode cX7_alike 93 = .ok (.iload_n 3, 1) := by decide +kernel
theorem dX7_alike_94 : decode cX7_alike 94 = .ok (.invokestatic 217, 3) := by decide +kernel
theorem dX7_alike_97 : decode cX7_alike 97 = .ok (.lreturn, 1) := by decide +kernel
theorem dX7_nearestNow_0 : decode cX7_nearestNow 0 = .ok (.aload_n 0, 1) := by decide +kernel
theorem dX7_nearestNow_1 : decode cX7_nearestNow 1 = .ok (.invokevirtual 149, 3) := by decide +kernel
theorem dX7_nearestNow_4 : decode cX7_nearestNow 4 = .ok (.iconst (-1), 1) := by decide +kernel
theorem dX7_nearestNow_5 : decode cX7_nearestNow 5 = .ok (.istore_n 2, 1) := by decide +kernel
theorem dX7_nearestNow_6 : decode cX7_nearestNow 6 = .ok (.iconst 0, 1) := by decide +kernel
theorem dX7_nearestNow_7 : decode cX7_nearestNow 7 = .ok (.istore_n 3, 1) := by decide +kernel
theorem dX7_nearestNow_8 : decode cX7_nearestNow 8 = .ok (.iconst 1, 1) := by decide +kernel
theorem dX7_nearestNow_9 : decode cX7_nearestNow 9 = .ok (.istore 4, 2) := by decide +kernel
theorem dX7_nearestNow_11 : decode cX7_nearestNow 11 = .ok (.iconst 0, 1) := by decide +kernel
theorem dX7_nearestNow_12 : decode cX7_nearestNow 12 = .ok (.istore 5, 2) := by decide +kernel
theorem dX7_nearestNow_14 : decode cX7_nearestNow 14 = .ok (.iload 5, 2) := by decide +kernel
theorem dX7_nearestNow_16 : decode cX7_nearestNow 16 = .ok (.aload_n 0, 1) := by decide +kernel
theorem dX7_nearestNow_17 : decode cX7_nearestNow 17 = .ok (.getfield 95, 3) := by decide +kernel
theorem dX7_nearestNow_20 : decode cX7_nearestNow 20 = .ok (.if_icmp .ge 87, 3) := by decide +kernel
theorem dX7_nearestNow_23 : decode cX7_nearestNow 23 = .ok (.aload_n 0, 1) := by decide +kernel
theorem dX7_nearestNow_24 : decode cX7_nearestNow 24 = .ok (.aload_n 0, 1) := by decide +kernel
theorem dX7_nearestNow_25 : decode cX7_nearestNow 25 = .ok (.getfield 53, 3) := by decide +kernel
theorem dX7_nearestNow_28 : decode cX7_nearestNow 28 = .ok (.iload 5, 2) := by decide +kernel
theorem dX7_nearestNow_30 : decode cX7_nearestNow 30 = .ok (.iaload, 1) := by decide +kernel
theorem dX7_nearestNow_31 : decode cX7_nearestNow 31 = .ok (.aload_n 0, 1) := by decide +kernel
theorem dX7_nearestNow_32 : decode cX7_nearestNow 32 = .ok (.getfield 53, 3) := by decide +kernel
theorem dX7_nearestNow_35 : decode cX7_nearestNow 35 = .ok (.iload_n 1, 1) := by decide +kernel
theorem dX7_nearestNow_36 : decode cX7_nearestNow 36 = .ok (.iaload, 1) := by decide +kernel
theorem dX7_nearestNow_37 : decode cX7_nearestNow 37 = .ok (.ior, 1) := by decide +kernel
theorem dX7_nearestNow_38 : decode cX7_nearestNow 38 = .ok (.invokevirtual 253, 3) := by decide +kernel
theorem dX7_nearestNow_41 : decode cX7_nearestNow 41 = .ok (.istore 6, 2) := by decide +kernel
theorem dX7_nearestNow_43 : decode cX7_nearestNow 43 = .ok (.aload_n 0, 1) := by decide +kernel
theorem dX7_nearestNow_44 : decode cX7_nearestNow 44 = .ok (.aload_n 0, 1) := by decide +kernel
theorem dX7_nearestNow_45 : decode cX7_nearestNow 45 = .ok (.getfield 53, 3) := by decide +kernel
theorem dX7_nearestNow_48 : decode cX7_nearestNow 48 = .ok (.iload 5, 2) := by decide +kernel
theorem dX7_nearestNow_50 : decode cX7_nearestNow 50 = .ok (.iaload, 1) := by decide +kernel
theorem dX7_nearestNow_51 : decode cX7_nearestNow 51 = .ok (.aload_n 0, 1) := by decide +kernel
theorem dX7_nearestNow_52 : decode cX7_nearestNow 52 = .ok (.getfield 53, 3) := by decide +kernel
theorem dX7_nearestNow_55 : decode cX7_nearestNow 55 = .ok (.iload_n 1, 1) := by decide +kernel
theorem dX7_nearestNow_56 : decode cX7_nearestNow 56 = .ok (.iaload, 1) := by decide +kernel
theorem dX7_nearestNow_57 : decode cX7_nearestNow 57 = .ok (.iand, 1) := by decide +kernel
theorem dX7_nearestNow_58 : decode cX7_nearestNow 58 = .ok (.invokevirtual 253, 3) := by decide +kernel
theorem dX7_nearestNow_61 : decode cX7_nearestNow 61 = .ok (.istore 7, 2) := by decide +kernel
theorem dX7_nearestNow_63 : decode cX7_nearestNow 63 = .ok (.iload 5, 2) := by decide +kernel
theorem dX7_nearestNow_65 : decode cX7_nearestNow 65 = .ok (.iload_n 1, 1) := by decide +kernel
theorem dX7_nearestNow_66 : decode cX7_nearestNow 66 = .ok (.if_icmp .eq 35, 3) := by decide +kernel
theorem dX7_nearestNow_69 : decode cX7_nearestNow 69 = .ok (.iload 6, 2) := by decide +kernel
theorem dX7_nearestNow_71 : decode cX7_nearestNow 71 = .ok (.ifCond .le 30, 3) := by decide +kernel
theorem dX7_nearestNow_74 : decode cX7_nearestNow 74 = .ok (.iload_n 2, 1) := by decide +kernel
theorem dX7_nearestNow_75 : decode cX7_nearestNow 75 = .ok (.iconst (-1), 1) := by decide +kernel
theorem dX7_nearestNow_76 : decode cX7_nearestNow 76 = .ok (.if_icmp .eq 15, 3) := by decide +kernel
theorem dX7_nearestNow_79 : decode cX7_nearestNow 79 = .ok (.iload 7, 2) := by decide +kernel
theorem dX7_nearestNow_81 : decode cX7_nearestNow 81 = .ok (.iload 4, 2) := by decide +kernel
theorem dX7_nearestNow_83 : decode cX7_nearestNow 83 = .ok (.imul, 1) := by decide +kernel
theorem dX7_nearestNow_84 : decode cX7_nearestNow 84 = .ok (.iload_n 3, 1) := by decide +kernel
theorem dX7_nearestNow_85 : decode cX7_nearestNow 85 = .ok (.iload 6, 2) := by decide +kernel
theorem dX7_nearestNow_87 : decode cX7_nearestNow 87 = .ok (.imul, 1) := by decide +kernel
theorem dX7_nearestNow_88 : decode cX7_nearestNow 88 = .ok (.if_icmp .le 13, 3) := by decide +kernel
theorem dX7_nearestNow_91 : decode cX7_nearestNow 91 = .ok (.iload 5, 2) := by decide +kernel
theorem dX7_nearestNow_93 : decode cX7_nearestNow 93 = .ok (.istore_n 2, 1) := by decide +kernel
theorem dX7_nearestNow_94 : decode cX7_nearestNow 94 = .ok (.iload 7, 2) := by decide +kernel
theorem dX7_nearestNow_96 : decode cX7_nearestNow 96 = .ok (.istore_n 3, 1) := by decide +kernel
theorem dX7_nearestNow_97 : decode cX7_nearestNow 97 = .ok (.iload 6, 2) := by decide +kernel
theorem dX7_nearestNow_99 : decode cX7_nearestNow 99 = .ok (.istore 4, 2) := by decide +kernel
theorem dX7_nearestNow_101 : decode cX7_nearestNow 101 = .ok (.iinc 5 1, 3) := by decide +kernel
theorem dX7_nearestNow_104 : decode cX7_nearestNow 104 = .ok (.goto (-90), 3) := by decide +kernel
theorem dX7_nearestNow_107 : decode cX7_nearestNow 107 = .ok (.iload_n 2, 1) := by decide +kernel
theorem dX7_nearestNow_108 : decode cX7_nearestNow 108 = .ok (.ireturn, 1) := by decide +kernel
theorem dX7_nearest_0 : decode cX7_nearest 0 = .ok (.aload_n 0, 1) := by decide +kernel
theorem dX7_nearest_1 : decode cX7_nearest 1 = .ok (.iload_n 1, 1) := by decide +kernel
theorem dX7_nearest_2 : decode cX7_nearest 2 = .ok (.invokevirtual 106, 3) := by decide +kernel
theorem dX7_nearest_5 : decode cX7_nearest 5 = .ok (.ifCond .eq 11, 3) := by decide +kernel
theorem dX7_nearest_8 : decode cX7_nearest 8 = .ok (.aload_n 0, 1) := by decide +kernel
theorem dX7_nearest_9 : decode cX7_nearest 9 = .ok (.iload_n 1, 1) := by decide +kernel
theorem dX7_nearest_10 : decode cX7_nearest 10 = .ok (.invokevirtual 256, 3) := by decide +kernel
theorem dX7_nearest_13 : decode cX7_nearest 13 = .ok (.goto 5, 3) := by decide +kernel
theorem dX7_nearest_16 : decode cX7_nearest 16 = .ok (.bipush (-2), 2) := by decide +kernel
theorem dX7_nearest_18 : decode cX7_nearest 18 = .ok (.ireturn, 1) := by decide +kernel
theorem dX7_meets_0 : decode cX7_meets 0 = .ok (.aload_n 0, 1) := by decide +kernel
theorem dX7_meets_1 : decode cX7_meets 1 = .ok (.iload_n 1, 1) := by decide +kernel
theorem dX7_meets_2 : decode cX7_meets 2 = .ok (.putfield 259, 3) := by decide +kernel
theorem dX7_meets_5 : decode cX7_meets 5 = .ok (.bipush (-10), 2) := by decide +kernel
theorem dX7_meets_7 : decode cX7_meets 7 = .ok (.iload_n 1, 1) := by decide +kernel
theorem dX7_meets_8 : decode cX7_meets 8 = .ok (.isub, 1) := by decide +kernel
theorem dX7_meets_9 : decode cX7_meets 9 = .ok (.ireturn, 1) := by decide +kernel
theorem dX7_isSheet_0 : decode cX7_isSheet 0 = .ok (.iload_n 0, 1) := by decide +kernel
theorem dX7_isSheet_1 : decode cX7_isSheet 1 = .ok (.iconst 0, 1) := by decide +kernel
theorem dX7_isSheet_2 : decode cX7_isSheet 2 = .ok (.iconst 3, 1) := by decide +kernel
theorem dX7_isSheet_3 : decode cX7_isSheet 3 = .ok (.invokestatic 98, 3) := by decide +kernel
theorem dX7_isSheet_6 : decode cX7_isSheet 6 = .ok (.ireturn, 1) := by decide +kernel
theorem dX7_sheet_0 : decode cX7_sheet 0 = .ok (.iload_n 1, 1) := by decide +kernel
theorem dX7_sheet_1 : decode cX7_sheet 1 = .ok (.invokestatic 143, 3) := by decide +kernel
theorem dX7_sheet_4 : decode cX7_sheet 4 = .ok (.ifCond .eq 18, 3) := by decide +kernel
theorem dX7_sheet_7 : decode cX7_sheet 7 = .ok (.iload_n 2, 1) := by decide +kernel
theorem dX7_sheet_8 : decode cX7_sheet 8 = .ok (.iconst 0, 1) := by decide +kernel
theorem dX7_sheet_9 : decode cX7_sheet 9 = .ok (.iconst 2, 1) := by decide +kernel
theorem dX7_sheet_10 : decode cX7_sheet 10 = .ok (.invokestatic 98, 3) := by decide +kernel
theorem dX7_sheet_13 : decode cX7_sheet 13 = .ok (.ifCond .eq 9, 3) := by decide +kernel
theorem dX7_sheet_16 : decode cX7_sheet 16 = .ok (.iload_n 3, 1) := by decide +kernel
theorem dX7_sheet_17 : decode cX7_sheet 17 = .ok (.bipush 40, 2) := by decide +kernel
theorem dX7_sheet_19 : decode cX7_sheet 19 = .ok (.if_icmp .le 6, 3) := by decide +kernel
theorem dX7_sheet_22 : decode cX7_sheet 22 = .ok (.bipush (-2), 2) := by decide +kernel
theorem dX7_sheet_24 : decode cX7_sheet 24 = .ok (.ireturn, 1) := by decide +kernel
theorem dX7_sheet_25 : decode cX7_sheet 25 = .ok (.iload_n 3, 1) := by decide +kernel
theorem dX7_sheet_26 : decode cX7_sheet 26 = .ok (.ifCond .ge 9, 3) := by decide +kernel
theorem dX7_sheet_29 : decode cX7_sheet 29 = .ok (.aload_n 0, 1) := by decide +kernel
theorem dX7_sheet_30 : decode cX7_sheet 30 = .ok (.iconst 5, 1) := by decide +kernel
theorem dX7_sheet_31 : decode cX7_sheet 31 = .ok (.invokevirtual 146, 3) := by decide +kernel
theorem dX7_sheet_34 : decode cX7_sheet 34 = .ok (.ireturn, 1) := by decide +kernel
theorem dX7_sheet_35 : decode cX7_sheet 35 = .ok (.aload_n 0, 1) := by decide +kernel
theorem dX7_sheet_36 : decode cX7_sheet 36 = .ok (.getfield 77, 3) := by decide +kernel
theorem dX7_sheet_39 : decode cX7_sheet 39 = .ok (.iload_n 1, 1) := by decide +kernel
theorem dX7_sheet_40 : decode cX7_sheet 40 = .ok (.iconst 1, 1) := by decide +kernel
theorem dX7_sheet_41 : decode cX7_sheet 41 = .ok (.bastore, 1) := by decide +kernel
theorem dX7_sheet_42 : decode cX7_sheet 42 = .ok (.aload_n 0, 1) := by decide +kernel
theorem dX7_sheet_43 : decode cX7_sheet 43 = .ok (.getfield 81, 3) := by decide +kernel
theorem dX7_sheet_46 : decode cX7_sheet 46 = .ok (.iload_n 1, 1) := by decide +kernel
theorem dX7_sheet_47 : decode cX7_sheet 47 = .ok (.iload_n 2, 1) := by decide +kernel
theorem dX7_sheet_48 : decode cX7_sheet 48 = .ok (.iastore, 1) := by decide +kernel
theorem dX7_sheet_49 : decode cX7_sheet 49 = .ok (.aload_n 0, 1) := by decide +kernel
theorem dX7_sheet_50 : decode cX7_sheet 50 = .ok (.getfield 84, 3) := by decide +kernel
theorem dX7_sheet_53 : decode cX7_sheet 53 = .ok (.iload_n 1, 1) := by decide +kernel
theorem dX7_sheet_54 : decode cX7_sheet 54 = .ok (.iload_n 3, 1) := by decide +kernel
theorem dX7_sheet_55 : decode cX7_sheet 55 = .ok (.iastore, 1) := by decide +kernel
theorem dX7_sheet_56 : decode cX7_sheet 56 = .ok (.iconst 0, 1) := by decide +kernel
theorem dX7_sheet_57 : decode cX7_sheet 57 = .ok (.istore 4, 2) := by decide +kernel
theorem dX7_sheet_59 : decode cX7_sheet 59 = .ok (.iload 4, 2) := by decide +kernel
theorem dX7_sheet_61 : decode cX7_sheet 61 = .ok (.bipush 40, 2) := by decide +kernel
theorem dX7_sheet_63 : decode cX7_sheet 63 = .ok (.if_icmp .ge 22, 3) := by decide +kernel
theorem dX7_sheet_66 : decode cX7_sheet 66 = .ok (.aload_n 0, 1) := by decide +kernel
theorem dX7_sheet_67 : decode cX7_sheet 67 = .ok (.getfield 87, 3) := by decide +kernel
theorem dX7_sheet_70 : decode cX7_sheet 70 = .ok (.bipush 40, 2) := by decide +kernel
theorem dX7_sheet_72 : decode cX7_sheet 72 = .ok (.iload_n 1, 1) := by decide +kernel
theorem dX7_sheet_73 : decode cX7_sheet 73 = .ok (.imul, 1) := by decide +kernel
theorem dX7_sheet_74 : decode cX7_sheet 74 = .ok (.iload 4, 2) := by decide +kernel
theorem dX7_sheet_76 : decode cX7_sheet 76 = .ok (.iadd, 1) := by decide +kernel
theorem dX7_sheet_77 : decode cX7_sheet 77 = .ok (.iconst 0, 1) := by decide +kernel
theorem dX7_sheet_78 : decode cX7_sheet 78 = .ok (.iastore, 1) := by decide +kernel
theorem dX7_sheet_79 : decode cX7_sheet 79 = .ok (.iinc 4 1, 3) := by decide +kernel
theorem dX7_sheet_82 : decode cX7_sheet 82 = .ok (.goto (-23), 3) := by decide +kernel
theorem dX7_sheet_85 : decode cX7_sheet 85 = .ok (.iload_n 3, 1) := by decide +kernel
theorem dX7_sheet_86 : decode cX7_sheet 86 = .ok (.ireturn, 1) := by decide +kernel
theorem dX7_lose_0 : decode cX7_lose 0 = .ok (.iload_n 1, 1) := by decide +kernel
theorem dX7_lose_1 : decode cX7_lose 1 = .ok (.invokestatic 143, 3) := by decide +kernel
theorem dX7_lose_4 : decode cX7_lose 4 = .ok (.ifCond .ne 6, 3) := by decide +kernel
theorem dX7_lose_7 : decode cX7_lose 7 = .ok (.bipush (-2), 2) := by decide +kernel
theorem dX7_lose_9 : decode cX7_lose 9 = .ok (.ireturn, 1) := by decide +kernel
theorem dX7_lose_10 : decode cX7_lose 10 = .ok (.aload_n 0, 1) := by decide +kernel
theorem dX7_lose_11 : decode cX7_lose 11 = .ok (.getfield 77, 3) := by decide +kernel
theorem dX7_lose_14 : decode cX7_lose 14 = .ok (.iload_n 1, 1) := by decide +kernel
theorem dX7_lose_15 : decode cX7_lose 15 = .ok (.baload, 1) := by decide +kernel
theorem dX7_lose_16 : decode cX7_lose 16 = .ok (.ifCond .ne 9, 3) := by decide +kernel
theorem dX7_lose_19 : decode cX7_lose 19 = .ok (.aload_n 0, 1) := by decide +kernel
theorem dX7_lose_20 : decode cX7_lose 20 = .ok (.iconst 1, 1) := by decide +kernel
theorem dX7_lose_21 : decode cX7_lose 21 = .ok (.invokevirtual 146, 3) := by decide +kernel
theorem dX7_lose_24 : decode cX7_lose 24 = .ok (.ireturn, 1) := by decide +kernel
theorem dX7_lose_25 : decode cX7_lose 25 = .ok (.aload_n 0, 1) := by decide +kernel
theorem dX7_lose_26 : decode cX7_lose 26 = .ok (.getfield 77, 3) := by decide +kernel
theorem dX7_lose_29 : decode cX7_lose 29 = .ok (.iload_n 1, 1) := by decide +kernel
theorem dX7_lose_30 : decode cX7_lose 30 = .ok (.iconst 0, 1) := by decide +kernel
theorem dX7_lose_31 : decode cX7_lose 31 = .ok (.bastore, 1) := by decide +kernel
theorem dX7_lose_32 : decode cX7_lose 32 = .ok (.aload_n 0, 1) := by decide +kernel
theorem dX7_lose_33 : decode cX7_lose 33 = .ok (.getfield 84, 3) := by decide +kernel
theorem dX7_lose_36 : decode cX7_lose 36 = .ok (.iload_n 1, 1) := by decide +kernel
theorem dX7_lose_37 : decode cX7_lose 37 = .ok (.iaload, 1) := by decide +kernel
theorem dX7_lose_38 : decode cX7_lose 38 = .ok (.ireturn, 1) := by decide +kernel
theorem dX7_lacks_0 : decode cX7_lacks 0 = .ok (.aload_n 0, 1) := by decide +kernel
theorem dX7_lacks_1 : decode cX7_lacks 1 = .ok (.getfield 77, 3) := by decide +kernel
theorem dX7_lacks_4 : decode cX7_lacks 4 = .ok (.iload_n 1, 1) := by decide +kernel
theorem dX7_lacks_5 : decode cX7_lacks 5 = .ok (.baload, 1) := by decide +kernel
theorem dX7_lacks_6 : decode cX7_lacks 6 = .ok (.ifCond .ne 7, 3) := by decide +kernel
theorem dX7_lacks_9 : decode cX7_lacks 9 = .ok (.iconst 1, 1) := by decide +kernel
theorem dX7_lacks_10 : decode cX7_lacks 10 = .ok (.goto 38, 3) := by decide +kernel
theorem dX7_lacks_13 : decode cX7_lacks 13 = .ok (.aload_n 0, 1) := by decide +kernel
theorem dX7_lacks_14 : decode cX7_lacks 14 = .ok (.getfield 81, 3) := by decide +kernel
theorem dX7_lacks_17 : decode cX7_lacks 17 = .ok (.iload_n 1, 1) := by decide +kernel
theorem dX7_lacks_18 : decode cX7_lacks 18 = .ok (.iaload, 1) := by decide +kernel
theorem dX7_lacks_19 : decode cX7_lacks 19 = .ok (.iload_n 2, 1) := by decide +kernel
theorem dX7_lacks_20 : decode cX7_lacks 20 = .ok (.if_icmp .eq 7, 3) := by decide +kernel
theorem dX7_lacks_23 : decode cX7_lacks 23 = .ok (.iconst 3, 1) := by decide +kernel
theorem dX7_lacks_24 : decode cX7_lacks 24 = .ok (.goto 24, 3) := by decide +kernel
theorem dX7_lacks_27 : decode cX7_lacks 27 = .ok (.iload_n 3, 1) := by decide +kernel
theorem dX7_lacks_28 : decode cX7_lacks 28 = .ok (.iconst 0, 1) := by decide +kernel
theorem dX7_lacks_29 : decode cX7_lacks 29 = .ok (.aload_n 0, 1) := by decide +kernel
theorem dX7_lacks_30 : decode cX7_lacks 30 = .ok (.getfield 84, 3) := by decide +kernel
theorem dX7_lacks_33 : decode cX7_lacks 33 = .ok (.iload_n 1, 1) := by decide +kernel
theorem dX7_lacks_34 : decode cX7_lacks 34 = .ok (.iaload, 1) := by decide +kernel
theorem dX7_lacks_35 : decode cX7_lacks 35 = .ok (.iconst 1, 1) := by decide +kernel
theorem dX7_lacks_36 : decode cX7_lacks 36 = .ok (.isub, 1) := by decide +kernel
theorem dX7_lacks_37 : decode cX7_lacks 37 = .ok (.invokestatic 98, 3) := by decide +kernel
theorem dX7_lacks_40 : decode cX7_lacks 40 = .ok (.ifCond .eq 7, 3) := by decide +kernel
theorem dX7_lacks_43 : decode cX7_lacks 43 = .ok (.iconst 0, 1) := by decide +kernel
theorem dX7_lacks_44 : decode cX7_lacks 44 = .ok (.goto 4, 3) := by decide +kernel
theorem dX7_lacks_47 : decode cX7_lacks 47 = .ok (.iconst 2, 1) := by decide +kernel
theorem dX7_lacks_48 : decode cX7_lacks 48 = .ok (.ireturn, 1) := by decide +kernel
theorem dX7_keep_0 : decode cX7_keep 0 = .ok (.aload_n 0, 1) := by decide +kernel
theorem dX7_keep_1 : decode cX7_keep 1 = .ok (.getfield 87, 3) := by decide +kernel
theorem dX7_keep_4 : decode cX7_keep 4 = .ok (.bipush 40, 2) := by decide +kernel
theorem dX7_keep_6 : decode cX7_keep 6 = .ok (.iload_n 1, 1) := by decide +kernel
theorem dX7_keep_7 : decode cX7_keep 7 = .ok (.imul, 1) := by decide +kernel
theorem dX7_keep_8 : decode cX7_keep 8 = .ok (.iload_n 2, 1) := by decide +kernel
theorem dX7_keep_9 : decode cX7_keep 9 = .ok (.iadd, 1) := by decide +kernel
theorem dX7_keep_10 : decode cX7_keep 10 = .ok (.aload_n 0, 1) := by decide +kernel
theorem dX7_keep_11 : decode cX7_keep 11 = .ok (.getfield 81, 3) := by decide +kernel
theorem dX7_keep_14 : decode cX7_keep 14 = .ok (.iload_n 1, 1) := by decide +kernel
theorem dX7_keep_15 : decode cX7_keep 15 = .ok (.iaload, 1) := by decide +kernel
theorem dX7_keep_16 : decode cX7_keep 16 = .ok (.ifCond .ne 8, 3) := by decide +kernel
theorem dX7_keep_19 : decode cX7_keep 19 = .ok (.iload_n 3, 1) := by decide +kernel
theorem dX7_keep_20 : decode cX7_keep 20 = .ok (.i2b, 1) := by decide +kernel
theorem dX7_keep_21 : decode cX7_keep 21 = .ok (.goto 19, 3) := by decide +kernel
theorem dX7_keep_24 : decode cX7_keep 24 = .ok (.aload_n 0, 1) := by decide +kernel
theorem dX7_keep_25 : decode cX7_keep 25 = .ok (.getfield 81, 3) := by decide +kernel
theorem dX7_keep_28 : decode cX7_keep 28 = .ok (.iload_n 1, 1) := by decide +kernel
theorem dX7_keep_29 : decode cX7_keep 29 = .ok (.iaload, 1) := by decide +kernel
theorem dX7_keep_30 : decode cX7_keep 30 = .ok (.iconst 1, 1) := by decide +kernel
theorem dX7_keep_31 : decode cX7_keep 31 = .ok (.if_icmp .ne 8, 3) := by decide +kernel
theorem dX7_keep_34 : decode cX7_keep 34 = .ok (.iload_n 3, 1) := by decide +kernel
theorem dX7_keep_35 : decode cX7_keep 35 = .ok (.i2s, 1) := by decide +kernel
theorem dX7_keep_36 : decode cX7_keep 36 = .ok (.goto 4, 3) := by decide +kernel
theorem dX7_keep_39 : decode cX7_keep 39 = .ok (.iload_n 3, 1) := by decide +kernel
theorem dX7_keep_40 : decode cX7_keep 40 = .ok (.iastore, 1) := by decide +kernel
theorem dX7_keep_41 : decode cX7_keep 41 = .ok (.return_, 1) := by decide +kernel
theorem dX7_put_0 : decode cX7_put 0 = .ok (.iload_n 1, 1) := by decide +kernel
theorem dX7_put_1 : decode cX7_put 1 = .ok (.invokestatic 143, 3) := by decide +kernel
theorem dX7_put_4 : decode cX7_put 4 = .ok (.ifCond .eq 12, 3) := by decide +kernel
theorem dX7_put_7 : decode cX7_put 7 = .ok (.iload_n 2, 1) := by decide +kernel
theorem dX7_put_8 : decode cX7_put 8 = .ok (.iconst 0, 1) := by decide +kernel
theorem dX7_put_9 : decode cX7_put 9 = .ok (.iconst 2, 1) := by decide +kernel
theorem dX7_put_10 : decode cX7_put 10 = .ok (.invokestatic 98, 3) := by decide +kernel
theorem dX7_put_13 : decode cX7_put 13 = .ok (.ifCond .ne 6, 3) := by decide +kernel
theorem dX7_put_16 : decode cX7_put 16 = .ok (.bipush (-2), 2) := by decide +kernel
theorem dX7_put_18 : decode cX7_put 18 = .ok (.ireturn, 1) := by decide +kernel
theorem dX7_put_19 : decode cX7_put 19 = .ok (.aload_n 0, 1) := by decide +kernel
theorem dX7_put_20 : decode cX7_put 20 = .ok (.iload_n 1, 1) := by decide +kernel
theorem dX7_put_21 : decode cX7_put 21 = .ok (.iload_n 2, 1) := by decide +kernel
theorem dX7_put_22 : decode cX7_put 22 = .ok (.iload_n 3, 1) := by decide +kernel
theorem dX7_put_23 : decode cX7_put 23 = .ok (.invokevirtual 262, 3) := by decide +kernel
theorem dX7_put_26 : decode cX7_put 26 = .ok (.istore 5, 2) := by decide +kernel
theorem dX7_put_28 : decode cX7_put 28 = .ok (.iload 5, 2) := by decide +kernel
theorem dX7_put_30 : decode cX7_put 30 = .ok (.ifCond .le 10, 3) := by decide +kernel
theorem dX7_put_33 : decode cX7_put 33 = .ok (.aload_n 0, 1) := by decide +kernel
theorem dX7_put_34 : decode cX7_put 34 = .ok (.iload 5, 2) := by decide +kernel
theorem dX7_put_36 : decode cX7_put 36 = .ok (.invokevirtual 146, 3) := by decide +kernel
theorem dX7_put_39 : decode cX7_put 39 = .ok (.ireturn, 1) := by decide +kernel
theorem dX7_put_40 : decode cX7_put 40 = .ok (.aload_n 0, 1) := by decide +kernel
theorem dX7_put_41 : decode cX7_put 41 = .ok (.iload_n 1, 1) := by decide +kernel
theorem dX7_put_42 : decode cX7_put 42 = .ok (.iload_n 3, 1) := by decide +kernel
theorem dX7_put_43 : decode cX7_put 43 = .ok (.iload 4, 2) := by decide +kernel
theorem dX7_put_45 : decode cX7_put 45 = .ok (.invokevirtual 266, 3) := by decide +kernel
theorem dX7_put_48 : decode cX7_put 48 = .ok (.iconst 1, 1) := by decide +kernel
theorem dX7_put_49 : decode cX7_put 49 = .ok (.ireturn, 1) := by decide +kernel
theorem dX7_get_0 : decode cX7_get 0 = .ok (.iload_n 1, 1) := by decide +kernel
theorem dX7_get_1 : decode cX7_get 1 = .ok (.invokestatic 143, 3) := by decide +kernel
theorem dX7_get_4 : decode cX7_get 4 = .ok (.ifCond .eq 12, 3) := by decide +kernel
theorem dX7_get_7 : decode cX7_get 7 = .ok (.iload_n 2, 1) := by decide +kernel
theorem dX7_get_8 : decode cX7_get 8 = .ok (.iconst 0, 1) := by decide +kernel
theorem dX7_get_9 : decode cX7_get 9 = .ok (.iconst 2, 1) := by decide +kernel
theorem dX7_get_10 : decode cX7_get 10 = .ok (.invokestatic 98, 3) := by decide +kernel
theorem dX7_get_13 : decode cX7_get 13 = .ok (.ifCond .ne 7, 3) := by decide +kernel
theorem dX7_get_16 : decode cX7_get 16 = .ok (.ldc_w 270, 3) := by decide +kernel
theorem dX7_get_19 : decode cX7_get 19 = .ok (.ireturn, 1) := by decide +kernel
theorem dX7_get_20 : decode cX7_get 20 = .ok (.aload_n 0, 1) := by decide +kernel
theorem dX7_get_21 : decode cX7_get 21 = .ok (.iload_n 1, 1) := by decide +kernel
theorem dX7_get_22 : decode cX7_get 22 = .ok (.iload_n 2, 1) := by decide +kernel
theorem dX7_get_23 : decode cX7_get 23 = .ok (.iload_n 3, 1) := by decide +kernel
theorem dX7_get_24 : decode cX7_get 24 = .ok (.invokevirtual 262, 3) := by decide +kernel
theorem dX7_get_27 : decode cX7_get 27 = .ok (.istore 4, 2) := by decide +kernel
theorem dX7_get_29 : decode cX7_get 29 = .ok (.iload 4, 2) := by decide +kernel
theorem dX7_get_31 : decode cX7_get 31 = .ok (.ifCond .le 13, 3) := by decide +kernel
theorem dX7_get_34 : decode cX7_get 34 = .ok (.aload_n 0, 1) := by decide +kernel
theorem dX7_get_35 : decode cX7_get 35 = .ok (.iload 4, 2) := by decide +kernel
theorem dX7_get_37 : decode cX7_get 37 = .ok (.putfield 259, 3) := by decide +kernel
theorem dX7_get_40 : decode cX7_get 40 = .ok (.ldc_w 270, 3) := by decide +kernel
theorem dX7_get_43 : decode cX7_get 43 = .ok (.ireturn, 1) := by decide +kernel
theorem dX7_get_44 : decode cX7_get 44 = .ok (.aload_n 0, 1) := by decide +kernel
theorem dX7_get_45 : decode cX7_get 45 = .ok (.getfield 87, 3) := by decide +kernel
theorem dX7_get_48 : decode cX7_get 48 = .ok (.bipush 40, 2) := by decide +kernel
theorem dX7_get_50 : decode cX7_get 50 = .ok (.iload_n 1, 1) := by decide +kernel
theorem dX7_get_51 : decode cX7_get 51 = .ok (.imul, 1) := by decide +kernel
theorem dX7_get_52 : decode cX7_get 52 = .ok (.iload_n 3, 1) := by decide +kernel
theorem dX7_get_53 : decode cX7_get 53 = .ok (.iadd, 1) := by decide +kernel
theorem dX7_get_54 : decode cX7_get 54 = .ok (.iaload, 1) := by decide +kernel
theorem dX7_get_55 : decode cX7_get 55 = .ok (.ireturn, 1) := by decide +kernel
theorem dX7_copy_0 : decode cX7_copy 0 = .ok (.iload_n 1, 1) := by decide +kernel
theorem dX7_copy_1 : decode cX7_copy 1 = .ok (.invokestatic 143, 3) := by decide +kernel
theorem dX7_copy_4 : decode cX7_copy 4 = .ok (.ifCond .eq 10, 3) := by decide +kernel
theorem dX7_copy_7 : decode cX7_copy 7 = .ok (.iload_n 3, 1) := by decide +kernel
theorem dX7_copy_8 : decode cX7_copy 8 = .ok (.invokestatic 143, 3) := by decide +kernel
theorem dX7_copy_11 : decode cX7_copy 11 = .ok (.ifCond .ne 6, 3) := by decide +kernel
theorem dX7_copy_14 : decode cX7_copy 14 = .ok (.bipush (-2), 2) := by decide +kernel
theorem dX7_copy_16 : decode cX7_copy 16 = .ok (.ireturn, 1) := by decide +kernel
theorem dX7_copy_17 : decode cX7_copy 17 = .ok (.aload_n 0, 1) := by decide +kernel
theorem dX7_copy_18 : decode cX7_copy 18 = .ok (.getfield 77, 3) := by decide +kernel
theorem dX7_copy_21 : decode cX7_copy 21 = .ok (.iload_n 1, 1) := by decide +kernel
theorem dX7_copy_22 : decode cX7_copy 22 = .ok (.baload, 1) := by decide +kernel
theorem dX7_copy_23 : decode cX7_copy 23 = .ok (.ifCond .eq 12, 3) := by decide +kernel
theorem dX7_copy_26 : decode cX7_copy 26 = .ok (.aload_n 0, 1) := by decide +kernel
theorem dX7_copy_27 : decode cX7_copy 27 = .ok (.getfield 77, 3) := by decide +kernel
theorem dX7_copy_30 : decode cX7_copy 30 = .ok (.iload_n 3, 1) := by decide +kernel
theorem dX7_copy_31 : decode cX7_copy 31 = .ok (.baload, 1) := by decide +kernel
theorem dX7_copy_32 : decode cX7_copy 32 = .ok (.ifCond .ne 9, 3) := by decide +kernel
theorem dX7_copy_35 : decode cX7_copy 35 = .ok (.aload_n 0, 1) := by decide +kernel
theorem dX7_copy_36 : decode cX7_copy 36 = .ok (.iconst 1, 1) := by decide +kernel
theorem dX7_copy_37 : decode cX7_copy 37 = .ok (.invokevirtual 146, 3) := by decide +kernel
theorem dX7_copy_40 : decode cX7_copy 40 = .ok (.ireturn, 1) := by decide +kernel
theorem dX7_copy_41 : decode cX7_copy 41 = .ok (.aload_n 0, 1) := by decide +kernel
theorem dX7_copy_42 : decode cX7_copy 42 = .ok (.getfield 81, 3) := by decide +kernel
theorem dX7_copy_45 : decode cX7_copy 45 = .ok (.iload_n 1, 1) := by decide +kernel
theorem dX7_copy_46 : decode cX7_copy 46 = .ok (.iaload, 1) := by decide +kernel
theorem dX7_copy_47 : decode cX7_copy 47 = .ok (.aload_n 0, 1) := by decide +kernel
theorem dX7_copy_48 : decode cX7_copy 48 = .ok (.getfield 81, 3) := by decide +kernel
theorem dX7_copy_51 : decode cX7_copy 51 = .ok (.iload_n 3, 1) := by decide +kernel
theorem dX7_copy_52 : decode cX7_copy 52 = .ok (.iaload, 1) := by decide +kernel
theorem dX7_copy_53 : decode cX7_copy 53 = .ok (.if_icmp .eq 9, 3) := by decide +kernel
theorem dX7_copy_56 : decode cX7_copy 56 = .ok (.aload_n 0, 1) := by decide +kernel
theorem dX7_copy_57 : decode cX7_copy 57 = .ok (.iconst 4, 1) := by decide +kernel
theorem dX7_copy_58 : decode cX7_copy 58 = .ok (.invokevirtual 146, 3) := by decide +kernel
theorem dX7_copy_61 : decode cX7_copy 61 = .ok (.ireturn, 1) := by decide +kernel
theorem dX7_copy_62 : decode cX7_copy 62 = .ok (.iload_n 2, 1) := by decide +kernel
theorem dX7_copy_63 : decode cX7_copy 63 = .ok (.ifCond .lt 48, 3) := by decide +kernel
theorem dX7_copy_66 : decode cX7_copy 66 = .ok (.iload 4, 2) := by decide +kernel
theorem dX7_copy_68 : decode cX7_copy 68 = .ok (.ifCond .lt 43, 3) := by decide +kernel
theorem dX7_copy_71 : decode cX7_copy 71 = .ok (.iload 5, 2) := by decide +kernel
theorem dX7_copy_73 : decode cX7_copy 73 = .ok (.ifCond .lt 38, 3) := by decide +kernel
theorem dX7_copy_76 : decode cX7_copy 76 = .ok (.iload_n 2, 1) := by decide +kernel
theorem dX7_copy_77 : decode cX7_copy 77 = .ok (.i2l, 1) := by decide +kernel
theorem dX7_copy_78 : decode cX7_copy 78 = .ok (.iload 5, 2) := by decide +kernel
theorem dX7_copy_80 : decode cX7_copy 80 = .ok (.i2l, 1) := by decide +kernel
theorem dX7_copy_81 : decode cX7_copy 81 = .ok (.ladd, 1) := by decide +kernel
theorem dX7_copy_82 : decode cX7_copy 82 = .ok (.aload_n 0, 1) := by decide +kernel
theorem dX7_copy_83 : decode cX7_copy 83 = .ok (.getfield 84, 3) := by decide +kernel
theorem dX7_copy_86 : decode cX7_copy 86 = .ok (.iload_n 1, 1) := by decide +kernel
theorem dX7_copy_87 : decode cX7_copy 87 = .ok (.iaload, 1) := by decide +kernel
theorem dX7_copy_88 : decode cX7_copy 88 = .ok (.i2l, 1) := by decide +kernel
theorem dX7_copy_89 : decode cX7_copy 89 = .ok (.lcmp, 1) := by decide +kernel
theorem dX7_copy_90 : decode cX7_copy 90 = .ok (.ifCond .gt 21, 3) := by decide +kernel
theorem dX7_copy_93 : decode cX7_copy 93 = .ok (.iload 4, 2) := by decide +kernel
theorem dX7_copy_95 : decode cX7_copy 95 = .ok (.i2l, 1) := by decide +kernel
theorem dX7_copy_96 : decode cX7_copy 96 = .ok (.iload 5, 2) := by decide +kernel
theorem dX7_copy_98 : decode cX7_copy 98 = .ok (.i2l, 1) := by decide +kernel
theorem dX7_copy_99 : decode cX7_copy 99 = .ok (.ladd, 1) := by decide +kernel
theorem dX7_copy_100 : decode cX7_copy 100 = .ok (.aload_n 0, 1) := by decide +kernel
theorem dX7_copy_101 : decode cX7_copy 101 = .ok (.getfield 84, 3) := by decide +kernel
theorem dX7_copy_104 : decode cX7_copy 104 = .ok (.iload_n 3, 1) := by decide +kernel
theorem dX7_copy_105 : decode cX7_copy 105 = .ok (.iaload, 1) := by decide +kernel
theorem dX7_copy_106 : decode cX7_copy 106 = .ok (.i2l, 1) := by decide +kernel
theorem dX7_copy_107 : decode cX7_copy 107 = .ok (.lcmp, 1) := by decide +kernel
theorem dX7_copy_108 : decode cX7_copy 108 = .ok (.ifCond .le 9, 3) := by decide +kernel
theorem dX7_copy_111 : decode cX7_copy 111 = .ok (.aload_n 0, 1) := by decide +kernel
theorem dX7_copy_112 : decode cX7_copy 112 = .ok (.iconst 2, 1) := by decide +kernel
theorem dX7_copy_113 : decode cX7_copy 113 = .ok (.invokevirtual 146, 3) := by decide +kernel
theorem dX7_copy_116 : decode cX7_copy 116 = .ok (.ireturn, 1) := by decide +kernel
theorem dX7_copy_117 : decode cX7_copy 117 = .ok (.iconst 0, 1) := by decide +kernel
theorem dX7_copy_118 : decode cX7_copy 118 = .ok (.istore 6, 2) := by decide +kernel
theorem dX7_copy_120 : decode cX7_copy 120 = .ok (.iload 6, 2) := by decide +kernel
theorem dX7_copy_122 : decode cX7_copy 122 = .ok (.iload 5, 2) := by decide +kernel
theorem dX7_copy_124 : decode cX7_copy 124 = .ok (.if_icmp .ge 30, 3) := by decide +kernel
theorem dX7_copy_127 : decode cX7_copy 127 = .ok (.aload_n 0, 1) := by decide +kernel
theorem dX7_copy_128 : decode cX7_copy 128 = .ok (.getfield 90, 3) := by decide +kernel
theorem dX7_copy_131 : decode cX7_copy 131 = .ok (.iload 6, 2) := by decide +kernel
theorem dX7_copy_133 : decode cX7_copy 133 = .ok (.aload_n 0, 1) := by decide +kernel
theorem dX7_copy_134 : decode cX7_copy 134 = .ok (.getfield 87, 3) := by decide +kernel
theorem dX7_copy_137 : decode cX7_copy 137 = .ok (.bipush 40, 2) := by decide +kernel
theorem dX7_copy_139 : decode cX7_copy 139 = .ok (.iload_n 1, 1) := by decide +kernel
theorem dX7_copy_140 : decode cX7_copy 140 = .ok (.imul, 1) := by decide +kernel
theorem dX7_copy_141 : decode cX7_copy 141 = .ok (.iload_n 2, 1) := by decide +kernel
theorem dX7_copy_142 : decode cX7_copy 142 = .ok (.iadd, 1) := by decide +kernel
theorem dX7_copy_143 : decode cX7_copy 143 = .ok (.iload 6, 2) := by decide +kernel
theorem dX7_copy_145 : decode cX7_copy 145 = .ok (.iadd, 1) := by decide +kernel
theorem dX7_copy_146 : decode cX7_copy 146 = .ok (.iaload, 1) := by decide +kernel
theorem dX7_copy_147 : decode cX7_copy 147 = .ok (.iastore, 1) := by decide +kernel
theorem dX7_copy_148 : decode cX7_copy 148 = .ok (.iinc 6 1, 3) := by decide +kernel
theorem dX7_copy_151 : decode cX7_copy 151 = .ok (.goto (-31), 3) := by decide +kernel
theorem dX7_copy_154 : decode cX7_copy 154 = .ok (.iconst 0, 1) := by decide +kernel
theorem dX7_copy_155 : decode cX7_copy 155 = .ok (.istore 6, 2) := by decide +kernel
theorem dX7_copy_157 : decode cX7_copy 157 = .ok (.iload 6, 2) := by decide +kernel
theorem dX7_copy_159 : decode cX7_copy 159 = .ok (.iload 5, 2) := by decide +kernel
theorem dX7_copy_161 : decode cX7_copy 161 = .ok (.if_icmp .ge 31, 3) := by decide +kernel
theorem dX7_copy_164 : decode cX7_copy 164 = .ok (.aload_n 0, 1) := by decide +kernel
theorem dX7_copy_165 : decode cX7_copy 165 = .ok (.getfield 87, 3) := by decide +kernel
theorem dX7_copy_168 : decode cX7_copy 168 = .ok (.bipush 40, 2) := by decide +kernel
theorem dX7_copy_170 : decode cX7_copy 170 = .ok (.iload_n 3, 1) := by decide +kernel
theorem dX7_copy_171 : decode cX7_copy 171 = .ok (.imul, 1) := by decide +kernel
theorem dX7_copy_172 : decode cX7_copy 172 = .ok (.iload 4, 2) := by decide +kernel
theorem dX7_copy_174 : decode cX7_copy 174 = .ok (.iadd, 1) := by decide +kernel
theorem dX7_copy_175 : decode cX7_copy 175 = .ok (.iload 6, 2) := by decide +kernel
theorem dX7_copy_177 : decode cX7_copy 177 = .ok (.iadd, 1) := by decide +kernel
theorem dX7_copy_178 : decode cX7_copy 178 = .ok (.aload_n 0, 1) := by decide +kernel
theorem dX7_copy_179 : decode cX7_copy 179 = .ok (.getfield 90, 3) := by decide +kernel
theorem dX7_copy_182 : decode cX7_copy 182 = .ok (.iload 6, 2) := by decide +kernel
theorem dX7_copy_184 : decode cX7_copy 184 = .ok (.iaload, 1) := by decide +kernel
theorem dX7_copy_185 : decode cX7_copy 185 = .ok (.iastore, 1) := by decide +kernel
theorem dX7_copy_186 : decode cX7_copy 186 = .ok (.iinc 6 1, 3) := by decide +kernel
theorem dX7_copy_189 : decode cX7_copy 189 = .ok (.goto (-32), 3) := by decide +kernel
theorem dX7_copy_192 : decode cX7_copy 192 = .ok (.iconst 1, 1) := by decide +kernel
theorem dX7_copy_193 : decode cX7_copy 193 = .ok (.ireturn, 1) := by decide +kernel
theorem dX7_write_0 : decode cX7_write 0 = .ok (.iload_n 1, 1) := by decide +kernel
theorem dX7_write_1 : decode cX7_write 1 = .ok (.invokestatic 143, 3) := by decide +kernel
theorem dX7_write_4 : decode cX7_write 4 = .ok (.ifCond .ne 6, 3) := by decide +kernel
theorem dX7_write_7 : decode cX7_write 7 = .ok (.bipush (-2), 2) := by decide +kernel
theorem dX7_write_9 : decode cX7_write 9 = .ok (.ireturn, 1) := by decide +kernel
theorem dX7_write_10 : decode cX7_write 10 = .ok (.aload_n 0, 1) := by decide +kernel
theorem dX7_write_11 : decode cX7_write 11 = .ok (.getfield 77, 3) := by decide +kernel
theorem dX7_write_14 : decode cX7_write 14 = .ok (.iload_n 1, 1) := by decide +kernel
theorem dX7_write_15 : decode cX7_write 15 = .ok (.baload, 1) := by decide +kernel
theorem dX7_write_16 : decode cX7_write 16 = .ok (.ifCond .ne 9, 3) := by decide +kernel
theorem dX7_write_19 : decode cX7_write 19 = .ok (.aload_n 0, 1) := by decide +kernel
theorem dX7_write_20 : decode cX7_write 20 = .ok (.iconst 1, 1) := by decide +kernel
theorem dX7_write_21 : decode cX7_write 21 = .ok (.invokevirtual 146, 3) := by decide +kernel
theorem dX7_write_24 : decode cX7_write 24 = .ok (.ireturn, 1) := by decide +kernel
theorem dX7_write_25 : decode cX7_write 25 = .ok (.aload_n 0, 1) := by decide +kernel
theorem dX7_write_26 : decode cX7_write 26 = .ok (.invokevirtual 198, 3) := by decide +kernel
theorem dX7_write_29 : decode cX7_write 29 = .ok (.ifCond .ne 6, 3) := by decide +kernel
theorem dX7_write_32 : decode cX7_write 32 = .ok (.bipush (-3), 2) := by decide +kernel
theorem dX7_write_34 : decode cX7_write 34 = .ok (.ireturn, 1) := by decide +kernel
theorem dX7_write_35 : decode cX7_write 35 = .ok (.iconst 0, 1) := by decide +kernel
theorem dX7_write_36 : decode cX7_write 36 = .ok (.istore_n 2, 1) := by decide +kernel
theorem dX7_write_37 : decode cX7_write 37 = .ok (.iload_n 2, 1) := by decide +kernel
theorem dX7_write_38 : decode cX7_write 38 = .ok (.aload_n 0, 1) := by decide +kernel
theorem dX7_write_39 : decode cX7_write 39 = .ok (.getfield 95, 3) := by decide +kernel
theorem dX7_write_42 : decode cX7_write 42 = .ok (.if_icmp .ge 31, 3) := by decide +kernel
theorem dX7_write_45 : decode cX7_write 45 = .ok (.iload_n 2, 1) := by decide +kernel
theorem dX7_write_46 : decode cX7_write 46 = .ok (.aload_n 0, 1) := by decide +kernel
theorem dX7_write_47 : decode cX7_write 47 = .ok (.getfield 84, 3) := by decide +kernel
theorem dX7_write_50 : decode cX7_write 50 = .ok (.iload_n 1, 1) := by decide +kernel
theorem dX7_write_51 : decode cX7_write 51 = .ok (.iaload, 1) := by decide +kernel
theorem dX7_write_52 : decode cX7_write 52 = .ok (.if_icmp .ge 21, 3) := by decide +kernel
theorem dX7_write_55 : decode cX7_write 55 = .ok (.aload_n 0, 1) := by decide +kernel
theorem dX7_write_56 : decode cX7_write 56 = .ok (.iload_n 1, 1) := by decide +kernel
theorem dX7_write_57 : decode cX7_write 57 = .ok (.iload_n 2, 1) := by decide +kernel
theorem dX7_write_58 : decode cX7_write 58 = .ok (.aload_n 0, 1) := by decide +kernel
theorem dX7_write_59 : decode cX7_write 59 = .ok (.getfield 62, 3) := by decide +kernel
theorem dX7_write_62 : decode cX7_write 62 = .ok (.iload_n 2, 1) := by decide +kernel
theorem dX7_write_63 : decode cX7_write 63 = .ok (.iaload, 1) := by decide +kernel
theorem dX7_write_64 : decode cX7_write 64 = .ok (.invokevirtual 266, 3) := by decide +kernel
theorem dX7_write_67 : decode cX7_write 67 = .ok (.iinc 2 1, 3) := by decide +kernel
theorem dX7_write_70 : decode cX7_write 70 = .ok (.goto (-33), 3) := by decide +kernel
theorem dX7_write_73 : decode cX7_write 73 = .ok (.iload_n 2, 1) := by decide +kernel
theorem dX7_write_74 : decode cX7_write 74 = .ok (.ireturn, 1) := by decide +kernel
theorem dX7_countNow_0 : decode cX7_countNow 0 = .ok (.aload_n 0, 1) := by decide +kernel
theorem dX7_countNow_1 : decode cX7_countNow 1 = .ok (.invokevirtual 149, 3) := by decide +kernel
theorem dX7_countNow_4 : decode cX7_countNow 4 = .ok (.iconst 0, 1) := by decide +kernel
theorem dX7_countNow_5 : decode cX7_countNow 5 = .ok (.istore_n 2, 1) := by decide +kernel
theorem dX7_countNow_6 : decode cX7_countNow 6 = .ok (.iconst 0, 1) := by decide +kernel
theorem dX7_countNow_7 : decode cX7_countNow 7 = .ok (.istore_n 3, 1) := by decide +kernel
theorem dX7_countNow_8 : decode cX7_countNow 8 = .ok (.iconst 0, 1) := by decide +kernel
theorem dX7_countNow_9 : decode cX7_countNow 9 = .ok (.istore 4, 2) := by decide +kernel
theorem dX7_countNow_11 : decode cX7_countNow 11 = .ok (.iload 4, 2) := by decide +kernel
theorem dX7_countNow_13 : decode cX7_countNow 13 = .ok (.aload_n 0, 1) := by decide +kernel
theorem dX7_countNow_14 : decode cX7_countNow 14 = .ok (.getfield 95, 3) := by decide +kernel
theorem dX7_countNow_17 : decode cX7_countNow 17 = .ok (.if_icmp .ge 32, 3) := by decide +kernel
theorem dX7_countNow_20 : decode cX7_countNow 20 = .ok (.iload_n 2, 1) := by decide +kernel
theorem dX7_countNow_21 : decode cX7_countNow 21 = .ok (.aload_n 0, 1) := by decide +kernel
theorem dX7_countNow_22 : decode cX7_countNow 22 = .ok (.getfield 53, 3) := by decide +kernel
theorem dX7_countNow_25 : decode cX7_countNow 25 = .ok (.iload 4, 2) := by decide +kernel
theorem dX7_countNow_27 : decode cX7_countNow 27 = .ok (.iaload, 1) := by decide +kernel
theorem dX7_countNow_28 : decode cX7_countNow 28 = .ok (.ior, 1) := by decide +kernel
theorem dX7_countNow_29 : decode cX7_countNow 29 = .ok (.istore_n 2, 1) := by decide +kernel
theorem dX7_countNow_30 : decode cX7_countNow 30 = .ok (.iload_n 3, 1) := by decide +kernel
theorem dX7_countNow_31 : decode cX7_countNow 31 = .ok (.aload_n 0, 1) := by decide +kernel
theorem dX7_countNow_32 : decode cX7_countNow 32 = .ok (.getfield 53, 3) := by decide +kernel
theorem dX7_countNow_35 : decode cX7_countNow 35 = .ok (.iload 4, 2) := by decide +kernel
theorem dX7_countNow_37 : decode cX7_countNow 37 = .ok (.iaload, 1) := by decide +kernel
theorem dX7_countNow_38 : decode cX7_countNow 38 = .ok (.invokestatic 189, 3) := by decide +kernel
theorem dX7_countNow_41 : decode cX7_countNow 41 = .ok (.iadd, 1) := by decide +kernel
theorem dX7_countNow_42 : decode cX7_countNow 42 = .ok (.istore_n 3, 1) := by decide +kernel
theorem dX7_countNow_43 : decode cX7_countNow 43 = .ok (.iinc 4 1, 3) := by decide +kernel
theorem dX7_countNow_46 : decode cX7_countNow 46 = .ok (.goto (-35), 3) := by decide +kernel
theorem dX7_countNow_49 : decode cX7_countNow 49 = .ok (.iload_n 1, 1) := by decide +kernel
theorem dX7_countNow_50 : decode cX7_countNow 50 = .ok (.iconst 2, 1) := by decide +kernel
theorem dX7_countNow_51 : decode cX7_countNow 51 = .ok (.if_icmp .ne 7, 3) := by decide +kernel
theorem dX7_countNow_54 : decode cX7_countNow 54 = .ok (.iload_n 2, 1) := by decide +kernel
theorem dX7_countNow_55 : decode cX7_countNow 55 = .ok (.goto 4, 3) := by decide +kernel
theorem dX7_countNow_58 : decode cX7_countNow 58 = .ok (.iload_n 3, 1) := by decide +kernel
theorem dX7_countNow_59 : decode cX7_countNow 59 = .ok (.ireturn, 1) := by decide +kernel
theorem dX7_count_0 : decode cX7_count 0 = .ok (.iload_n 1, 1) := by decide +kernel
theorem dX7_count_1 : decode cX7_count 1 = .ok (.tableswitch 92 0 8 #[51, 56, 61, 61, 67, 72, 77, 82, 87], 51) := by decide +kernel
theorem dX7_count_52 : decode cX7_count 52 = .ok (.aload_n 0, 1) := by decide +kernel
theorem dX7_count_53 : decode cX7_count 53 = .ok (.getfield 95, 3) := by decide +kernel
theorem dX7_count_56 : decode cX7_count 56 = .ok (.ireturn, 1) := by decide +kernel
theorem dX7_count_57 : decode cX7_count 57 = .ok (.aload_n 0, 1) := by decide +kernel
theorem dX7_count_58 : decode cX7_count 58 = .ok (.getfield 133, 3) := by decide +kernel
theorem dX7_count_61 : decode cX7_count 61 = .ok (.ireturn, 1) := by decide +kernel
theorem dX7_count_62 : decode cX7_count 62 = .ok (.aload_n 0, 1) := by decide +kernel
theorem dX7_count_63 : decode cX7_count 63 = .ok (.iload_n 1, 1) := by decide +kernel
theorem dX7_count_64 : decode cX7_count 64 = .ok (.invokevirtual 271, 3) := by decide +kernel
theorem dX7_count_67 : decode cX7_count 67 = .ok (.ireturn, 1) := by decide +kernel
theorem dX7_count_68 : decode cX7_count 68 = .ok (.aload_n 0, 1) := by decide +kernel
theorem dX7_count_69 : decode cX7_count 69 = .ok (.getfield 116, 3) := by decide +kernel
theorem dX7_count_72 : decode cX7_count 72 = .ok (.ireturn, 1) := by decide +kernel
theorem dX7_count_73 : decode cX7_count 73 = .ok (.aload_n 0, 1) := by decide +kernel
theorem dX7_count_74 : decode cX7_count 74 = .ok (.getfield 119, 3) := by decide +kernel
theorem dX7_count_77 : decode cX7_count 77 = .ok (.ireturn, 1) := by decide +kernel
theorem dX7_count_78 : decode cX7_count 78 = .ok (.aload_n 0, 1) := by decide +kernel
theorem dX7_count_79 : decode cX7_count 79 = .ok (.getfield 37, 3) := by decide +kernel
theorem dX7_count_82 : decode cX7_count 82 = .ok (.ireturn, 1) := by decide +kernel
theorem dX7_count_83 : decode cX7_count 83 = .ok (.aload_n 0, 1) := by decide +kernel
theorem dX7_count_84 : decode cX7_count 84 = .ok (.getfield 110, 3) := by decide +kernel
theorem dX7_count_87 : decode cX7_count 87 = .ok (.ireturn, 1) := by decide +kernel
theorem dX7_count_88 : decode cX7_count 88 = .ok (.aload_n 0, 1) := by decide +kernel
theorem dX7_count_89 : decode cX7_count 89 = .ok (.getfield 259, 3) := by decide +kernel
theorem dX7_count_92 : decode cX7_count 92 = .ok (.ireturn, 1) := by decide +kernel
theorem dX7_count_93 : decode cX7_count 93 = .ok (.bipush (-2), 2) := by decide +kernel
theorem dX7_count_95 : decode cX7_count 95 = .ok (.ireturn, 1) := by decide +kernel
theorem dX7_digest_0 : decode cX7_digest 0 = .ok (.ldc2_w 274, 3) := by decide +kernel
theorem dX7_digest_3 : decode cX7_digest 3 = .ok (.lstore_n 1, 1) := by decide +kernel
theorem dX7_digest_4 : decode cX7_digest 4 = .ok (.iconst 0, 1) := by decide +kernel
theorem dX7_digest_5 : decode cX7_digest 5 = .ok (.istore_n 3, 1) := by decide +kernel
theorem dX7_digest_6 : decode cX7_digest 6 = .ok (.iload_n 3, 1) := by decide +kernel
theorem dX7_digest_7 : decode cX7_digest 7 = .ok (.bipush 8, 2) := by decide +kernel
theorem dX7_digest_9 : decode cX7_digest 9 = .ok (.if_icmp .ge 22, 3) := by decide +kernel
theorem dX7_digest_12 : decode cX7_digest 12 = .ok (.ldc2_w 276, 3) := by decide +kernel
theorem dX7_digest_15 : decode cX7_digest 15 = .ok (.lload_n 1, 1) := by decide +kernel
theorem dX7_digest_16 : decode cX7_digest 16 = .ok (.lmul, 1) := by decide +kernel
theorem dX7_digest_17 : decode cX7_digest 17 = .ok (.aload_n 0, 1) := by decide +kernel
theorem dX7_digest_18 : decode cX7_digest 18 = .ok (.iload_n 3, 1) := by decide +kernel
theorem dX7_digest_19 : decode cX7_digest 19 = .ok (.invokevirtual 278, 3) := by decide +kernel
theorem dX7_digest_22 : decode cX7_digest 22 = .ok (.i2l, 1) := by decide +kernel
theorem dX7_digest_23 : decode cX7_digest 23 = .ok (.ladd, 1) := by decide +kernel
theorem dX7_digest_24 : decode cX7_digest 24 = .ok (.lstore_n 1, 1) := by decide +kernel
theorem dX7_digest_25 : decode cX7_digest 25 = .ok (.iinc 3 1, 3) := by decide +kernel
theorem dX7_digest_28 : decode cX7_digest 28 = .ok (.goto (-22), 3) := by decide +kernel
theorem dX7_digest_31 : decode cX7_digest 31 = .ok (.ldc2_w 276, 3) := by decide +kernel
theorem dX7_digest_34 : decode cX7_digest 34 = .ok (.lload_n 1, 1) := by decide +kernel
theorem dX7_digest_35 : decode cX7_digest 35 = .ok (.lmul, 1) := by decide +kernel
theorem dX7_digest_36 : decode cX7_digest 36 = .ok (.aload_n 0, 1) := by decide +kernel
theorem dX7_digest_37 : decode cX7_digest 37 = .ok (.invokevirtual 129, 3) := by decide +kernel
theorem dX7_digest_40 : decode cX7_digest 40 = .ok (.i2l, 1) := by decide +kernel
theorem dX7_digest_41 : decode cX7_digest 41 = .ok (.ladd, 1) := by decide +kernel
theorem dX7_digest_42 : decode cX7_digest 42 = .ok (.lstore_n 1, 1) := by decide +kernel
theorem dX7_digest_43 : decode cX7_digest 43 = .ok (.aload_n 0, 1) := by decide +kernel
theorem dX7_digest_44 : decode cX7_digest 44 = .ok (.invokevirtual 149, 3) := by decide +kernel
theorem dX7_digest_47 : decode cX7_digest 47 = .ok (.iconst 0, 1) := by decide +kernel
theorem dX7_digest_48 : decode cX7_digest 48 = .ok (.istore_n 3, 1) := by decide +kernel
theorem dX7_digest_49 : decode cX7_digest 49 = .ok (.iload_n 3, 1) := by decide +kernel
theorem dX7_digest_50 : decode cX7_digest 50 = .ok (.aload_n 0, 1) := by decide +kernel
theorem dX7_digest_51 : decode cX7_digest 51 = .ok (.getfield 95, 3) := by decide +kernel
theorem dX7_digest_54 : decode cX7_digest 54 = .ok (.if_icmp .ge 90, 3) := by decide +kernel
theorem dX7_digest_57 : decode cX7_digest 57 = .ok (.ldc2_w 276, 3) := by decide +kernel
theorem dX7_digest_60 : decode cX7_digest 60 = .ok (.lload_n 1, 1) := by decide +kernel
theorem dX7_digest_61 : decode cX7_digest 61 = .ok (.lmul, 1) := by decide +kernel
theorem dX7_digest_62 : decode cX7_digest 62 = .ok (.aload_n 0, 1) := by decide +kernel
theorem dX7_digest_63 : decode cX7_digest 63 = .ok (.getfield 53, 3) := by decide +kernel
theorem dX7_digest_66 : decode cX7_digest 66 = .ok (.iload_n 3, 1) := by decide +kernel
theorem dX7_digest_67 : decode cX7_digest 67 = .ok (.iaload, 1) := by decide +kernel
theorem dX7_digest_68 : decode cX7_digest 68 = .ok (.i2l, 1) := by decide +kernel
theorem dX7_digest_69 : decode cX7_digest 69 = .ok (.ladd, 1) := by decide +kernel
theorem dX7_digest_70 : decode cX7_digest 70 = .ok (.lstore_n 1, 1) := by decide +kernel
theorem dX7_digest_71 : decode cX7_digest 71 = .ok (.ldc2_w 276, 3) := by decide +kernel
theorem dX7_digest_74 : decode cX7_digest 74 = .ok (.lload_n 1, 1) := by decide +kernel
theorem dX7_digest_75 : decode cX7_digest 75 = .ok (.lmul, 1) := by decide +kernel
theorem dX7_digest_76 : decode cX7_digest 76 = .ok (.aload_n 0, 1) := by decide +kernel
theorem dX7_digest_77 : decode cX7_digest 77 = .ok (.iload_n 3, 1) := by decide +kernel
theorem dX7_digest_78 : decode cX7_digest 78 = .ok (.invokevirtual 207, 3) := by decide +kernel
theorem dX7_digest_81 : decode cX7_digest 81 = .ok (.i2l, 1) := by decide +kernel
theorem dX7_digest_82 : decode cX7_digest 82 = .ok (.ladd, 1) := by decide +kernel
theorem dX7_digest_83 : decode cX7_digest 83 = .ok (.lstore_n 1, 1) := by decide +kernel
theorem dX7_digest_84 : decode cX7_digest 84 = .ok (.ldc2_w 276, 3) := by decide +kernel
theorem dX7_digest_87 : decode cX7_digest 87 = .ok (.lload_n 1, 1) := by decide +kernel
theorem dX7_digest_88 : decode cX7_digest 88 = .ok (.lmul, 1) := by decide +kernel
theorem dX7_digest_89 : decode cX7_digest 89 = .ok (.aload_n 0, 1) := by decide +kernel
theorem dX7_digest_90 : decode cX7_digest 90 = .ok (.iload_n 3, 1) := by decide +kernel
theorem dX7_digest_91 : decode cX7_digest 91 = .ok (.invokevirtual 210, 3) := by decide +kernel
theorem dX7_digest_94 : decode cX7_digest 94 = .ok (.i2l, 1) := by decide +kernel
theorem dX7_digest_95 : decode cX7_digest 95 = .ok (.ladd, 1) := by decide +kernel
theorem dX7_digest_96 : decode cX7_digest 96 = .ok (.lstore_n 1, 1) := by decide +kernel
theorem dX7_digest_97 : decode cX7_digest 97 = .ok (.ldc2_w 276, 3) := by decide +kernel
theorem dX7_digest_100 : decode cX7_digest 100 = .ok (.lload_n 1, 1) := by decide +kernel
theorem dX7_digest_101 : decode cX7_digest 101 = .ok (.lmul, 1) := by decide +kernel
theorem dX7_digest_102 : decode cX7_digest 102 = .ok (.aload_n 0, 1) := by decide +kernel
theorem dX7_digest_103 : decode cX7_digest 103 = .ok (.iload_n 3, 1) := by decide +kernel
theorem dX7_digest_104 : decode cX7_digest 104 = .ok (.iconst 0, 1) := by decide +kernel
theorem dX7_digest_105 : decode cX7_digest 105 = .ok (.invokevirtual 246, 3) := by decide +kernel
theorem dX7_digest_108 : decode cX7_digest 108 = .ok (.i2l, 1) := by decide +kernel
theorem dX7_digest_109 : decode cX7_digest 109 = .ok (.ladd, 1) := by decide +kernel
theorem dX7_digest_110 : decode cX7_digest 110 = .ok (.lstore_n 1, 1) := by decide +kernel
theorem dX7_digest_111 : decode cX7_digest 111 = .ok (.ldc2_w 276, 3) := by decide +kernel
theorem dX7_digest_114 : decode cX7_digest 114 = .ok (.lload_n 1, 1) := by decide +kernel
theorem dX7_digest_115 : decode cX7_digest 115 = .ok (.lmul, 1) := by decide +kernel
theorem dX7_digest_116 : decode cX7_digest 116 = .ok (.aload_n 0, 1) := by decide +kernel
theorem dX7_digest_117 : decode cX7_digest 117 = .ok (.iload_n 3, 1) := by decide +kernel
theorem dX7_digest_118 : decode cX7_digest 118 = .ok (.iconst 1, 1) := by decide +kernel
theorem dX7_digest_119 : decode cX7_digest 119 = .ok (.invokevirtual 246, 3) := by decide +kernel
theorem dX7_digest_122 : decode cX7_digest 122 = .ok (.i2l, 1) := by decide +kernel
theorem dX7_digest_123 : decode cX7_digest 123 = .ok (.ladd, 1) := by decide +kernel
theorem dX7_digest_124 : decode cX7_digest 124 = .ok (.lstore_n 1, 1) := by decide +kernel
theorem dX7_digest_125 : decode cX7_digest 125 = .ok (.ldc2_w 276, 3) := by decide +kernel
theorem dX7_digest_128 : decode cX7_digest 128 = .ok (.lload_n 1, 1) := by decide +kernel
theorem dX7_digest_129 : decode cX7_digest 129 = .ok (.lmul, 1) := by decide +kernel
theorem dX7_digest_130 : decode cX7_digest 130 = .ok (.aload_n 0, 1) := by decide +kernel
theorem dX7_digest_131 : decode cX7_digest 131 = .ok (.iload_n 3, 1) := by decide +kernel
theorem dX7_digest_132 : decode cX7_digest 132 = .ok (.invokevirtual 256, 3) := by decide +kernel
theorem dX7_digest_135 : decode cX7_digest 135 = .ok (.i2l, 1) := by decide +kernel
theorem dX7_digest_136 : decode cX7_digest 136 = .ok (.ladd, 1) := by decide +kernel
theorem dX7_digest_137 : decode cX7_digest 137 = .ok (.lstore_n 1, 1) := by decide +kernel
theorem dX7_digest_138 : decode cX7_digest 138 = .ok (.iinc 3 1, 3) := by decide +kernel
theorem dX7_digest_141 : decode cX7_digest 141 = .ok (.goto (-92), 3) := by decide +kernel
theorem dX7_digest_144 : decode cX7_digest 144 = .ok (.iconst 0, 1) := by decide +kernel
theorem dX7_digest_145 : decode cX7_digest 145 = .ok (.istore_n 3, 1) := by decide +kernel
theorem dX7_digest_146 : decode cX7_digest 146 = .ok (.iload_n 3, 1) := by decide +kernel
theorem dX7_digest_147 : decode cX7_digest 147 = .ok (.iconst 3, 1) := by decide +kernel
theorem dX7_digest_148 : decode cX7_digest 148 = .ok (.if_icmp .ge 22, 3) := by decide +kernel
theorem dX7_digest_151 : decode cX7_digest 151 = .ok (.ldc2_w 276, 3) := by decide +kernel
theorem dX7_digest_154 : decode cX7_digest 154 = .ok (.lload_n 1, 1) := by decide +kernel
theorem dX7_digest_155 : decode cX7_digest 155 = .ok (.lmul, 1) := by decide +kernel
theorem dX7_digest_156 : decode cX7_digest 156 = .ok (.aload_n 0, 1) := by decide +kernel
theorem dX7_digest_157 : decode cX7_digest 157 = .ok (.iload_n 3, 1) := by decide +kernel
theorem dX7_digest_158 : decode cX7_digest 158 = .ok (.invokevirtual 204, 3) := by decide +kernel
theorem dX7_digest_161 : decode cX7_digest 161 = .ok (.i2l, 1) := by decide +kernel
theorem dX7_digest_162 : decode cX7_digest 162 = .ok (.ladd, 1) := by decide +kernel
theorem dX7_digest_163 : decode cX7_digest 163 = .ok (.lstore_n 1, 1) := by decide +kernel
theorem dX7_digest_164 : decode cX7_digest 164 = .ok (.iinc 3 1, 3) := by decide +kernel
theorem dX7_digest_167 : decode cX7_digest 167 = .ok (.goto (-21), 3) := by decide +kernel
theorem dX7_digest_170 : decode cX7_digest 170 = .ok (.ldc2_w 276, 3) := by decide +kernel
theorem dX7_digest_173 : decode cX7_digest 173 = .ok (.lload_n 1, 1) := by decide +kernel
theorem dX7_digest_174 : decode cX7_digest 174 = .ok (.lmul, 1) := by decide +kernel
theorem dX7_digest_175 : decode cX7_digest 175 = .ok (.aload_n 0, 1) := by decide +kernel
theorem dX7_digest_176 : decode cX7_digest 176 = .ok (.iconst 0, 1) := by decide +kernel
theorem dX7_digest_177 : decode cX7_digest 177 = .ok (.iconst 1, 1) := by decide +kernel
theorem dX7_digest_178 : decode cX7_digest 178 = .ok (.invokevirtual 213, 3) := by decide +kernel
theorem dX7_digest_181 : decode cX7_digest 181 = .ok (.i2l, 1) := by decide +kernel
theorem dX7_digest_182 : decode cX7_digest 182 = .ok (.ladd, 1) := by decide +kernel
theorem dX7_digest_183 : decode cX7_digest 183 = .ok (.lstore_n 1, 1) := by decide +kernel
theorem dX7_digest_184 : decode cX7_digest 184 = .ok (.ldc2_w 276, 3) := by decide +kernel
theorem dX7_digest_187 : decode cX7_digest 187 = .ok (.lload_n 1, 1) := by decide +kernel
theorem dX7_digest_188 : decode cX7_digest 188 = .ok (.lmul, 1) := by decide +kernel
theorem dX7_digest_189 : decode cX7_digest 189 = .ok (.aload_n 0, 1) := by decide +kernel
theorem dX7_digest_190 : decode cX7_digest 190 = .ok (.iconst 0, 1) := by decide +kernel
theorem dX7_digest_191 : decode cX7_digest 191 = .ok (.invokevirtual 225, 3) := by decide +kernel
theorem dX7_digest_194 : decode cX7_digest 194 = .ok (.ladd, 1) := by decide +kernel
theorem dX7_digest_195 : decode cX7_digest 195 = .ok (.lstore_n 1, 1) := by decide +kernel
theorem dX7_digest_196 : decode cX7_digest 196 = .ok (.ldc2_w 276, 3) := by decide +kernel
theorem dX7_digest_199 : decode cX7_digest 199 = .ok (.lload_n 1, 1) := by decide +kernel
theorem dX7_digest_200 : decode cX7_digest 200 = .ok (.lmul, 1) := by decide +kernel
theorem dX7_digest_201 : decode cX7_digest 201 = .ok (.aload_n 0, 1) := by decide +kernel
theorem dX7_digest_202 : decode cX7_digest 202 = .ok (.iconst 1, 1) := by decide +kernel
theorem dX7_digest_203 : decode cX7_digest 203 = .ok (.invokevirtual 225, 3) := by decide +kernel
theorem dX7_digest_206 : decode cX7_digest 206 = .ok (.ladd, 1) := by decide +kernel
theorem dX7_digest_207 : decode cX7_digest 207 = .ok (.lstore_n 1, 1) := by decide +kernel
theorem dX7_digest_208 : decode cX7_digest 208 = .ok (.ldc2_w 276, 3) := by decide +kernel
theorem dX7_digest_211 : decode cX7_digest 211 = .ok (.lload_n 1, 1) := by decide +kernel
theorem dX7_digest_212 : decode cX7_digest 212 = .ok (.lmul, 1) := by decide +kernel
theorem dX7_digest_213 : decode cX7_digest 213 = .ok (.aload_n 0, 1) := by decide +kernel
theorem dX7_digest_214 : decode cX7_digest 214 = .ok (.invokevirtual 228, 3) := by decide +kernel
theorem dX7_digest_217 : decode cX7_digest 217 = .ok (.i2l, 1) := by decide +kernel
theorem dX7_digest_218 : decode cX7_digest 218 = .ok (.ladd, 1) := by decide +kernel
theorem dX7_digest_219 : decode cX7_digest 219 = .ok (.lstore_n 1, 1) := by decide +kernel
theorem dX7_digest_220 : decode cX7_digest 220 = .ok (.ldc2_w 276, 3) := by decide +kernel
theorem dX7_digest_223 : decode cX7_digest 223 = .ok (.lload_n 1, 1) := by decide +kernel
theorem dX7_digest_224 : decode cX7_digest 224 = .ok (.lmul, 1) := by decide +kernel
theorem dX7_digest_225 : decode cX7_digest 225 = .ok (.aload_n 0, 1) := by decide +kernel
theorem dX7_digest_226 : decode cX7_digest 226 = .ok (.iconst 2, 1) := by decide +kernel
theorem dX7_digest_227 : decode cX7_digest 227 = .ok (.iconst (-1), 1) := by decide +kernel
theorem dX7_digest_228 : decode cX7_digest 228 = .ok (.invokevirtual 240, 3) := by decide +kernel
theorem dX7_digest_231 : decode cX7_digest 231 = .ok (.i2l, 1) := by decide +kernel
theorem dX7_digest_232 : decode cX7_digest 232 = .ok (.ladd, 1) := by decide +kernel
theorem dX7_digest_233 : decode cX7_digest 233 = .ok (.lstore_n 1, 1) := by decide +kernel
theorem dX7_digest_234 : decode cX7_digest 234 = .ok (.iconst 0, 1) := by decide +kernel
theorem dX7_digest_235 : decode cX7_digest 235 = .ok (.istore_n 3, 1) := by decide +kernel
theorem dX7_digest_236 : decode cX7_digest 236 = .ok (.iload_n 3, 1) := by decide +kernel
theorem dX7_digest_237 : decode cX7_digest 237 = .ok (.bipush 10, 2) := by decide +kernel
theorem dX7_digest_239 : decode cX7_digest 239 = .ok (.if_icmp .ge 22, 3) := by decide +kernel
theorem dX7_digest_242 : decode cX7_digest 242 = .ok (.ldc2_w 276, 3) := by decide +kernel
theorem dX7_digest_245 : decode cX7_digest 245 = .ok (.lload_n 1, 1) := by decide +kernel
theorem dX7_digest_246 : decode cX7_digest 246 = .ok (.lmul, 1) := by decide +kernel
theorem dX7_digest_247 : decode cX7_digest 247 = .ok (.aload_n 0, 1) := by decide +kernel
theorem dX7_digest_248 : decode cX7_digest 248 = .ok (.iload_n 3, 1) := by decide +kernel
theorem dX7_digest_249 : decode cX7_digest 249 = .ok (.invokevirtual 231, 3) := by decide +kernel
theorem dX7_digest_252 : decode cX7_digest 252 = .ok (.i2l, 1) := by decide +kernel
theorem dX7_digest_253 : decode cX7_digest 253 = .ok (.ladd, 1) := by decide +kernel
theorem dX7_digest_254 : decode cX7_digest 254 = .ok (.lstore_n 1, 1) := by decide +kernel
theorem dX7_digest_255 : decode cX7_digest 255 = .ok (.iinc 3 1, 3) := by decide +kernel
theorem dX7_digest_258 : decode cX7_digest 258 = .ok (.goto (-22), 3) := by decide +kernel
theorem dX7_digest_261 : decode cX7_digest 261 = .ok (.lload_n 1, 1) := by decide +kernel
theorem dX7_digest_262 : decode cX7_digest 262 = .ok (.lreturn, 1) := by decide +kernel
theorem dJ6_numberOfTrailingZeros_0f7a4_0 : decode cJ6_numberOfTrailingZeros_0f7a4 0 = .ok (.iload_n 0, 1) := by decide +kernel
theorem dJ6_numberOfTrailingZeros_0f7a4_1 : decode cJ6_numberOfTrailingZeros_0f7a4 1 = .ok (.iconst (-1), 1) := by decide +kernel
theorem dJ6_numberOfTrailingZeros_0f7a4_2 : decode cJ6_numberOfTrailingZeros_0f7a4 2 = .ok (.ixor, 1) := by decide +kernel
theorem dJ6_numberOfTrailingZeros_0f7a4_3 : decode cJ6_numberOfTrailingZeros_0f7a4 3 = .ok (.iload_n 0, 1) := by decide +kernel
theorem dJ6_numberOfTrailingZeros_0f7a4_4 : decode cJ6_numberOfTrailingZeros_0f7a4 4 = .ok (.iconst 1, 1) := by decide +kernel
theorem dJ6_numberOfTrailingZeros_0f7a4_5 : decode cJ6_numberOfTrailingZeros_0f7a4 5 = .ok (.isub, 1) := by decide +kernel
theorem dJ6_numberOfTrailingZeros_0f7a4_6 : decode cJ6_numberOfTrailingZeros_0f7a4 6 = .ok (.iand, 1) := by decide +kernel
theorem dJ6_numberOfTrailingZeros_0f7a4_7 : decode cJ6_numberOfTrailingZeros_0f7a4 7 = .ok (.istore_n 0, 1) := by decide +kernel
theorem dJ6_numberOfTrailingZeros_0f7a4_8 : decode cJ6_numberOfTrailingZeros_0f7a4 8 = .ok (.iload_n 0, 1) := by decide +kernel
theorem dJ6_numberOfTrailingZeros_0f7a4_9 : decode cJ6_numberOfTrailingZeros_0f7a4 9 = .ok (.ifCond .gt 8, 3) := by decide +kernel
theorem dJ6_numberOfTrailingZeros_0f7a4_12 : decode cJ6_numberOfTrailingZeros_0f7a4 12 = .ok (.iload_n 0, 1) := by decide +kernel
theorem dJ6_numberOfTrailingZeros_0f7a4_13 : decode cJ6_numberOfTrailingZeros_0f7a4 13 = .ok (.bipush 32, 2) := by decide +kernel
theorem dJ6_numberOfTrailingZeros_0f7a4_15 : decode cJ6_numberOfTrailingZeros_0f7a4 15 = .ok (.iand, 1) := by decide +kernel
theorem dJ6_numberOfTrailingZeros_0f7a4_16 : decode cJ6_numberOfTrailingZeros_0f7a4 16 = .ok (.ireturn, 1) := by decide +kernel
theorem dJ6_numberOfTrailingZeros_0f7a4_17 : decode cJ6_numberOfTrailingZeros_0f7a4 17 = .ok (.iconst 1, 1) := by decide +kernel
theorem dJ6_numberOfTrailingZeros_0f7a4_18 : decode cJ6_numberOfTrailingZeros_0f7a4 18 = .ok (.istore_n 1, 1) := by decide +kernel
theorem dJ6_numberOfTrailingZeros_0f7a4_19 : decode cJ6_numberOfTrailingZeros_0f7a4 19 = .ok (.iload_n 0, 1) := by decide +kernel
theorem dJ6_numberOfTrailingZeros_0f7a4_20 : decode cJ6_numberOfTrailingZeros_0f7a4 20 = .ok (.ldc_w 264, 3) := by decide +kernel
theorem dJ6_numberOfTrailingZeros_0f7a4_23 : decode cJ6_numberOfTrailingZeros_0f7a4 23 = .ok (.if_icmp .le 11, 3) := by decide +kernel
theorem dJ6_numberOfTrailingZeros_0f7a4_26 : decode cJ6_numberOfTrailingZeros_0f7a4 26 = .ok (.iinc 1 16, 3) := by decide +kernel
theorem dJ6_numberOfTrailingZeros_0f7a4_29 : decode cJ6_numberOfTrailingZeros_0f7a4 29 = .ok (.iload_n 0, 1) := by decide +kernel
theorem dJ6_numberOfTrailingZeros_0f7a4_30 : decode cJ6_numberOfTrailingZeros_0f7a4 30 = .ok (.bipush 16, 2) := by decide +kernel
theorem dJ6_numberOfTrailingZeros_0f7a4_32 : decode cJ6_numberOfTrailingZeros_0f7a4 32 = .ok (.iushr, 1) := by decide +kernel
theorem dJ6_numberOfTrailingZeros_0f7a4_33 : decode cJ6_numberOfTrailingZeros_0f7a4 33 = .ok (.istore_n 0, 1) := by decide +kernel
theorem dJ6_numberOfTrailingZeros_0f7a4_34 : decode cJ6_numberOfTrailingZeros_0f7a4 34 = .ok (.iload_n 0, 1) := by decide +kernel
theorem dJ6_numberOfTrailingZeros_0f7a4_35 : decode cJ6_numberOfTrailingZeros_0f7a4 35 = .ok (.sipush 256, 3) := by decide +kernel
theorem dJ6_numberOfTrailingZeros_0f7a4_38 : decode cJ6_numberOfTrailingZeros_0f7a4 38 = .ok (.if_icmp .le 11, 3) := by decide +kernel
theorem dJ6_numberOfTrailingZeros_0f7a4_41 : decode cJ6_numberOfTrailingZeros_0f7a4 41 = .ok (.iinc 1 8, 3) := by decide +kernel
theorem dJ6_numberOfTrailingZeros_0f7a4_44 : decode cJ6_numberOfTrailingZeros_0f7a4 44 = .ok (.iload_n 0, 1) := by decide +kernel
theorem dJ6_numberOfTrailingZeros_0f7a4_45 : decode cJ6_numberOfTrailingZeros_0f7a4 45 = .ok (.bipush 8, 2) := by decide +kernel
theorem dJ6_numberOfTrailingZeros_0f7a4_47 : decode cJ6_numberOfTrailingZeros_0f7a4 47 = .ok (.iushr, 1) := by decide +kernel
theorem dJ6_numberOfTrailingZeros_0f7a4_48 : decode cJ6_numberOfTrailingZeros_0f7a4 48 = .ok (.istore_n 0, 1) := by decide +kernel
theorem dJ6_numberOfTrailingZeros_0f7a4_49 : decode cJ6_numberOfTrailingZeros_0f7a4 49 = .ok (.iload_n 0, 1) := by decide +kernel
theorem dJ6_numberOfTrailingZeros_0f7a4_50 : decode cJ6_numberOfTrailingZeros_0f7a4 50 = .ok (.bipush 16, 2) := by decide +kernel
theorem dJ6_numberOfTrailingZeros_0f7a4_52 : decode cJ6_numberOfTrailingZeros_0f7a4 52 = .ok (.if_icmp .le 10, 3) := by decide +kernel
theorem dJ6_numberOfTrailingZeros_0f7a4_55 : decode cJ6_numberOfTrailingZeros_0f7a4 55 = .ok (.iinc 1 4, 3) := by decide +kernel
theorem dJ6_numberOfTrailingZeros_0f7a4_58 : decode cJ6_numberOfTrailingZeros_0f7a4 58 = .ok (.iload_n 0, 1) := by decide +kernel
theorem dJ6_numberOfTrailingZeros_0f7a4_59 : decode cJ6_numberOfTrailingZeros_0f7a4 59 = .ok (.iconst 4, 1) := by decide +kernel
theorem dJ6_numberOfTrailingZeros_0f7a4_60 : decode cJ6_numberOfTrailingZeros_0f7a4 60 = .ok (.iushr, 1) := by decide +kernel
theorem dJ6_numberOfTrailingZeros_0f7a4_61 : decode cJ6_numberOfTrailingZeros_0f7a4 61 = .ok (.istore_n 0, 1) := by decide +kernel
theorem dJ6_numberOfTrailingZeros_0f7a4_62 : decode cJ6_numberOfTrailingZeros_0f7a4 62 = .ok (.iload_n 0, 1) := by decide +kernel
theorem dJ6_numberOfTrailingZeros_0f7a4_63 : decode cJ6_numberOfTrailingZeros_0f7a4 63 = .ok (.iconst 4, 1) := by decide +kernel
theorem dJ6_numberOfTrailingZeros_0f7a4_64 : decode cJ6_numberOfTrailingZeros_0f7a4 64 = .ok (.if_icmp .le 10, 3) := by decide +kernel
theorem dJ6_numberOfTrailingZeros_0f7a4_67 : decode cJ6_numberOfTrailingZeros_0f7a4 67 = .ok (.iinc 1 2, 3) := by decide +kernel
theorem dJ6_numberOfTrailingZeros_0f7a4_70 : decode cJ6_numberOfTrailingZeros_0f7a4 70 = .ok (.iload_n 0, 1) := by decide +kernel
theorem dJ6_numberOfTrailingZeros_0f7a4_71 : decode cJ6_numberOfTrailingZeros_0f7a4 71 = .ok (.iconst 2, 1) := by decide +kernel
theorem dJ6_numberOfTrailingZeros_0f7a4_72 : decode cJ6_numberOfTrailingZeros_0f7a4 72 = .ok (.iushr, 1) := by decide +kernel
theorem dJ6_numberOfTrailingZeros_0f7a4_73 : decode cJ6_numberOfTrailingZeros_0f7a4 73 = .ok (.istore_n 0, 1) := by decide +kernel
theorem dJ6_numberOfTrailingZeros_0f7a4_74 : decode cJ6_numberOfTrailingZeros_0f7a4 74 = .ok (.iload_n 1, 1) := by decide +kernel
theorem dJ6_numberOfTrailingZeros_0f7a4_75 : decode cJ6_numberOfTrailingZeros_0f7a4 75 = .ok (.iload_n 0, 1) := by decide +kernel
theorem dJ6_numberOfTrailingZeros_0f7a4_76 : decode cJ6_numberOfTrailingZeros_0f7a4 76 = .ok (.iconst 1, 1) := by decide +kernel
theorem dJ6_numberOfTrailingZeros_0f7a4_77 : decode cJ6_numberOfTrailingZeros_0f7a4 77 = .ok (.iushr, 1) := by decide +kernel
theorem dJ6_numberOfTrailingZeros_0f7a4_78 : decode cJ6_numberOfTrailingZeros_0f7a4 78 = .ok (.iadd, 1) := by decide +kernel
theorem dJ6_numberOfTrailingZeros_0f7a4_79 : decode cJ6_numberOfTrailingZeros_0f7a4 79 = .ok (.ireturn, 1) := by decide +kernel
theorem dJ6_bitCount_0f7a4_0 : decode cJ6_bitCount_0f7a4 0 = .ok (.iload_n 0, 1) := by decide +kernel
theorem dJ6_bitCount_0f7a4_1 : decode cJ6_bitCount_0f7a4 1 = .ok (.iload_n 0, 1) := by decide +kernel
theorem dJ6_bitCount_0f7a4_2 : decode cJ6_bitCount_0f7a4 2 = .ok (.iconst 1, 1) := by decide +kernel
theorem dJ6_bitCount_0f7a4_3 : decode cJ6_bitCount_0f7a4 3 = .ok (.iushr, 1) := by decide +kernel
theorem dJ6_bitCount_0f7a4_4 : decode cJ6_bitCount_0f7a4 4 = .ok (.ldc_w 265, 3) := by decide +kernel
theorem dJ6_bitCount_0f7a4_7 : decode cJ6_bitCount_0f7a4 7 = .ok (.iand, 1) := by decide +kernel
theorem dJ6_bitCount_0f7a4_8 : decode cJ6_bitCount_0f7a4 8 = .ok (.isub, 1) := by decide +kernel
theorem dJ6_bitCount_0f7a4_9 : decode cJ6_bitCount_0f7a4 9 = .ok (.istore_n 0, 1) := by decide +kernel
theorem dJ6_bitCount_0f7a4_10 : decode cJ6_bitCount_0f7a4 10 = .ok (.iload_n 0, 1) := by decide +kernel
theorem dJ6_bitCount_0f7a4_11 : decode cJ6_bitCount_0f7a4 11 = .ok (.ldc_w 266, 3) := by decide +kernel
theorem dJ6_bitCount_0f7a4_14 : decode cJ6_bitCount_0f7a4 14 = .ok (.iand, 1) := by decide +kernel
theorem dJ6_bitCount_0f7a4_15 : decode cJ6_bitCount_0f7a4 15 = .ok (.iload_n 0, 1) := by decide +kernel
theorem dJ6_bitCount_0f7a4_16 : decode cJ6_bitCount_0f7a4 16 = .ok (.iconst 2, 1) := by decide +kernel
theorem dJ6_bitCount_0f7a4_17 : decode cJ6_bitCount_0f7a4 17 = .ok (.iushr, 1) := by decide +kernel
theorem dJ6_bitCount_0f7a4_18 : decode cJ6_bitCount_0f7a4 18 = .ok (.ldc_w 266, 3) := by decide +kernel
theorem dJ6_bitCount_0f7a4_21 : decode cJ6_bitCount_0f7a4 21 = .ok (.iand, 1) := by decide +kernel
theorem dJ6_bitCount_0f7a4_22 : decode cJ6_bitCount_0f7a4 22 = .ok (.iadd, 1) := by decide +kernel
theorem dJ6_bitCount_0f7a4_23 : decode cJ6_bitCount_0f7a4 23 = .ok (.istore_n 0, 1) := by decide +kernel
theorem dJ6_bitCount_0f7a4_24 : decode cJ6_bitCount_0f7a4 24 = .ok (.iload_n 0, 1) := by decide +kernel
theorem dJ6_bitCount_0f7a4_25 : decode cJ6_bitCount_0f7a4 25 = .ok (.iload_n 0, 1) := by decide +kernel
theorem dJ6_bitCount_0f7a4_26 : decode cJ6_bitCount_0f7a4 26 = .ok (.iconst 4, 1) := by decide +kernel
theorem dJ6_bitCount_0f7a4_27 : decode cJ6_bitCount_0f7a4 27 = .ok (.iushr, 1) := by decide +kernel
theorem dJ6_bitCount_0f7a4_28 : decode cJ6_bitCount_0f7a4 28 = .ok (.iadd, 1) := by decide +kernel
theorem dJ6_bitCount_0f7a4_29 : decode cJ6_bitCount_0f7a4 29 = .ok (.ldc_w 267, 3) := by decide +kernel
theorem dJ6_bitCount_0f7a4_32 : decode cJ6_bitCount_0f7a4 32 = .ok (.iand, 1) := by decide +kernel
theorem dJ6_bitCount_0f7a4_33 : decode cJ6_bitCount_0f7a4 33 = .ok (.istore_n 0, 1) := by decide +kernel
theorem dJ6_bitCount_0f7a4_34 : decode cJ6_bitCount_0f7a4 34 = .ok (.iload_n 0, 1) := by decide +kernel
theorem dJ6_bitCount_0f7a4_35 : decode cJ6_bitCount_0f7a4 35 = .ok (.iload_n 0, 1) := by decide +kernel
theorem dJ6_bitCount_0f7a4_36 : decode cJ6_bitCount_0f7a4 36 = .ok (.bipush 8, 2) := by decide +kernel
theorem dJ6_bitCount_0f7a4_38 : decode cJ6_bitCount_0f7a4 38 = .ok (.iushr, 1) := by decide +kernel
theorem dJ6_bitCount_0f7a4_39 : decode cJ6_bitCount_0f7a4 39 = .ok (.iadd, 1) := by decide +kernel
theorem dJ6_bitCount_0f7a4_40 : decode cJ6_bitCount_0f7a4 40 = .ok (.istore_n 0, 1) := by decide +kernel
theorem dJ6_bitCount_0f7a4_41 : decode cJ6_bitCount_0f7a4 41 = .ok (.iload_n 0, 1) := by decide +kernel
theorem dJ6_bitCount_0f7a4_42 : decode cJ6_bitCount_0f7a4 42 = .ok (.iload_n 0, 1) := by decide +kernel
theorem dJ6_bitCount_0f7a4_43 : decode cJ6_bitCount_0f7a4 43 = .ok (.bipush 16, 2) := by decide +kernel
theorem dJ6_bitCount_0f7a4_45 : decode cJ6_bitCount_0f7a4 45 = .ok (.iushr, 1) := by decide +kernel
theorem dJ6_bitCount_0f7a4_46 : decode cJ6_bitCount_0f7a4 46 = .ok (.iadd, 1) := by decide +kernel
theorem dJ6_bitCount_0f7a4_47 : decode cJ6_bitCount_0f7a4 47 = .ok (.istore_n 0, 1) := by decide +kernel
theorem dJ6_bitCount_0f7a4_48 : decode cJ6_bitCount_0f7a4 48 = .ok (.iload_n 0, 1) := by decide +kernel
theorem dJ6_bitCount_0f7a4_49 : decode cJ6_bitCount_0f7a4 49 = .ok (.bipush 63, 2) := by decide +kernel
theorem dJ6_bitCount_0f7a4_51 : decode cJ6_bitCount_0f7a4 51 = .ok (.iand, 1) := by decide +kernel
theorem dJ6_bitCount_0f7a4_52 : decode cJ6_bitCount_0f7a4 52 = .ok (.ireturn, 1) := by decide +kernel
theorem dJ9_max_7cf53_0 : decode cJ9_max_7cf53 0 = .ok (.iload_n 0, 1) := by decide +kernel
theorem dJ9_max_7cf53_1 : decode cJ9_max_7cf53 1 = .ok (.iload_n 1, 1) := by decide +kernel
theorem dJ9_max_7cf53_2 : decode cJ9_max_7cf53 2 = .ok (.if_icmp .lt 7, 3) := by decide +kernel
theorem dJ9_max_7cf53_5 : decode cJ9_max_7cf53 5 = .ok (.iload_n 0, 1) := by decide +kernel
theorem dJ9_max_7cf53_6 : decode cJ9_max_7cf53 6 = .ok (.goto 4, 3) := by decide +kernel
theorem dJ9_max_7cf53_9 : decode cJ9_max_7cf53 9 = .ok (.iload_n 1, 1) := by decide +kernel
theorem dJ9_max_7cf53_10 : decode cJ9_max_7cf53 10 = .ok (.ireturn, 1) := by decide +kernel
theorem dJ9_min_7cf53_0 : decode cJ9_min_7cf53 0 = .ok (.iload_n 0, 1) := by decide +kernel
theorem dJ9_min_7cf53_1 : decode cJ9_min_7cf53 1 = .ok (.iload_n 1, 1) := by decide +kernel
theorem dJ9_min_7cf53_2 : decode cJ9_min_7cf53 2 = .ok (.if_icmp .gt 7, 3) := by decide +kernel
theorem dJ9_min_7cf53_5 : decode cJ9_min_7cf53 5 = .ok (.iload_n 0, 1) := by decide +kernel
theorem dJ9_min_7cf53_6 : decode cJ9_min_7cf53 6 = .ok (.goto 4, 3) := by decide +kernel
theorem dJ9_min_7cf53_9 : decode cJ9_min_7cf53 9 = .ok (.iload_n 1, 1) := by decide +kernel
theorem dJ9_min_7cf53_10 : decode cJ9_min_7cf53 10 = .ok (.ireturn, 1) := by decide +kernel
end
section
/-! ENGINE: a walk at the level of 'what is on the locals, the stack and the store', over any world that is a function of a store -/
abbrev XSt : Type := Nat → Nat → Int32
def xst (S : XSt) (q i : Nat) (v : Int32) : XSt := fun q' => if q' = q then upd (S q) i v else S q'
abbrev XSr : Type := XSt × Int64
def xsr (S : XSr) (q i : Nat) (v : Int32) : XSr := (xst S.1 q i v, S.2)
def xsl (S : XSr) (v : Int64) : XSr := (S.1, v)
def xlet {α β : Type} (e : α) (F : α → β) : β := F e
def xin (i : Int32) (n : Nat) : Bool := !(decide (i < 0) || decide (n ≤ i.toNatClampNeg))
def xbool (v : Int32) : Bool := decide (v = 0) || decide (v = 1)
abbrev xti (i : Int32) : Nat := i.toNatClampNeg
theorem xin_in {i : Int32} {n : Nat} (h : xin i n = true) : vp_in i n := by
  intro hc
  simp only [xin, Bool.not_eq_true', Bool.or_eq_false_iff, decide_eq_false_iff_not] at h
  rcases hc with hc | hc
  · exact h.1 hc
  · exact h.2 hc
theorem xif_some {α : Type} {c : Prop} [Decidable c] {A : Option α} {o : α} (h : (if c then A else none) = some o) : c ∧ A = some o := by
  by_cases hc : c
  · rw [if_pos hc] at h; exact ⟨hc, h⟩
  · rw [if_neg hc] at h; cases h
theorem xbind_some {α β : Type} {x : Option α} {F : α → Option β} {o : β} (h : x.bind F = some o) : ∃ q, x = some q ∧ F q = some o := by
  cases x with
  | none => cases h
  | some q => exact ⟨q, rfl, h⟩
def xloop {τ ρ : Type} (body : (τ → Option ρ) → τ → Option ρ) : Nat → τ → Option ρ
  | 0, _ => none
  | n + 1, t => body (xloop body n) t
def xlp {τ ε ρ : Type} (Bd : (ε → Option ρ) → (τ → Option ρ) → τ → Option ρ) (k : ε → Option ρ) (n : Nat) (t : τ) : Option ρ := xloop (Bd k) n t
def XFU : Nat := 100000
theorem x_loop {τ ε ρ : Type} {Bd : (ε → Option ρ) → (τ → Option ρ) → τ → Option ρ} {k : ε → Option ρ} {o : ρ} {n : Nat} {t : τ} (E : ε → Prop) (P : τ → Prop) (h : xlp Bd k n t = some o) (hk : ∀ e, k e = some o → E e)
    (hb : ∀ (k' : ε → Option ρ) (rc : τ → Option ρ) (t : τ), (∀ e, k' e = some o → E e) → (∀ t', rc t' = some o → P t') → Bd k' rc t = some o → P t) : P t := by
  unfold xlp at h
  induction n generalizing t with
  | zero => cases h
  | succ n ih => exact hb k (xloop (Bd k) n) t hk (fun t' h' => ih h') h
theorem x_join {τ ρ : Type} {o : ρ} {J : τ → ρ} {F : (τ → ρ) → ρ} {G : Prop} (P : τ → Prop) (h : xlet J F = o) (hJ : ∀ t, J t = o → P t) (k : ∀ j : τ → ρ, (∀ t, j t = o → P t) → F j = o → G) : G := k J hJ h
def xtb : List Cond := lw_tbl.filter goodWord
theorem xtb_in {w : Cond} (i : Nat) (h : lw_tbl[i]? = some w) (g : goodWord w = true) : w ∈ xtb := List.mem_filter.mpr ⟨List.mem_of_getElem? h, g⟩
theorem xtb_ws (ws : List Cond) (ps : List Nat) (hp : ws = ps.filterMap (fun i => lw_tbl[i]?)) (h : ws.all goodWord = true) : ∀ w ∈ ws, w ∈ xtb := by
  intro w hw
  have h1 := List.all_eq_true.mp h w hw
  rw [hp] at hw
  obtain ⟨i, -, hi⟩ := List.mem_filterMap.mp hw
  exact xtb_in i hi h1
theorem xnar {v : Int32} (hz : xbool v = true) : narrow .boolean (.int v) = .int v := by
  simp only [xbool, Bool.or_eq_true, decide_eq_true_eq] at hz
  rcases hz with rfl | rfl <;> rfl
theorem xfit {v : Int32} (hz : xbool v = true) : fits .boolean (.int v) = true := by
  simp only [xbool, Bool.or_eq_true, decide_eq_true_eq] at hz
  rcases hz with rfl | rfl <;> rfl
theorem xtb_good {w c0 : Cond} (h : w ∈ xtb) : w ∈ c0 :: xtb ∧ ((w.onTables && w.keeps) = true ∨ ∃ ty, w = .arrayClass ty) := ⟨List.mem_cons_of_mem _ h, good_of_word (List.mem_filter.mp h).2⟩
abbrev XK : Type := Program × Env × State × MethodId × Array Value × List Frame × Method × Code
abbrev XW (σ : Type) : Type := va_G × (Nat → Prop) × List (ClassId × FieldType) × (σ → va_W)
abbrev XG (σ : Type) : Type := Launch × Room × XK × Nat × (Option Value × σ)
def xWd {σ : Type} (ω : XW σ) (S : σ) (U : State) : Prop := va_P ω.1 vwCl (ω.2.2.2 S) U.heap ∧ va_K ω.1 vwCl ω.2.2.1 U ∧ va_D ω.2.1 (ω.2.2.2 S)
def xQ {σ : Type} (ω : XW σ) (out : Option Value × σ) : Array Value → State → Outcome → State → Prop := fun _ st oc t => oc = .returned out.1 ∧ xWd ω out.2 t ∧ va_F ω.2.1 st t
def XAt {σ : Type} (ω : XW σ) (Γ : XG σ) (pc : Nat) (lv : List (Nat × Value)) (vs : List Value) (S : σ) : Prop := match Γ with
  | (l, R, (p, e, s, m, args, below, meth, c), nL, out) => ∀ (H : Heap) (locs : List Loc) (ls : Array Slot), va_P ω.1 vwCl (ω.2.2.2 S) H → va_D ω.2.1 (ω.2.2.2 S) → va_S ω.2.1 s.heap H locs → lv_has ls nL lv →
    W p l e R s m args below meth c H locs 0 0 (MQ below (xQ ω out) args s 0 0 ω.2.1) (F0 m pc ls vs)
def Cx {σ : Type} (ω : XW σ) (Γ : XG σ) (cc : ByteArray) (own : String) (ret : Option FieldType) (l0 : Launch) (rm : Room) (nL0 : Nat) (out0 : Option Value × σ) : Prop := match Γ with
  | (l, R, (p, _, s, m, args, _, meth, c), nL, out) => (p.tables.exec = Jvm.exec ∧ c.code = cc ∧ c.maxLocals = nL ∧ s.vm.findClass own = some m.cls ∧ (∀ w ∈ xtb, w.before args s = true)) ∧ meth.locks = false ∧ meth.sig.returnType = ret ∧ va_K ω.1 vwCl ω.2.2.1 s ∧ l = l0 ∧ R = rm ∧ nL = nL0 ∧ out = out0
/-- a method's contract: from the store S to the answer and the store of out -/
def xM {σ : Type} (l : Launch) (ω : XW σ) (y : MethodName) (cc : ByteArray) (n : Nat) (ret : Option FieldType) (rm : Room) (av : List Value) (S : σ) (out : Option Value × σ) : Prop :=
  Met l y (.code y cc n ret :: xtb) rm (va_Pc av (xWd ω S)) (xQ ω out) 0 0 ω.2.1
theorem xM_of {σ : Type} {l : Launch} {ω : XW σ} {y : MethodName} {cc : ByteArray} {n : Nat} {ret : Option FieldType} {rm : Room} {av : List Value} {S : σ} {out : Option Value × σ} {own : String} (hy : plainName y.cls = true) (ho : y.cls = own) (hn : (lg_sl av).length ≤ n)
    (k : ∀ Γ : XG σ, Cx ω Γ cc own ret l rm n out → XAt ω Γ 0 (lv_args 0 av) [] S) : xM l ω y cc n ret rm av S out := by
  refine Met.ofW (cc := cc) (maxL := n) (ret := ret) hy rfl ?_
  intro p e s m args below meth c s₁ B hml hv
  obtain ⟨rfl, hP, hK, hD⟩ := hv
  have hts := atoms_spec (ws := .code y cc n ret :: xtb) B.pre
  have hown : s.vm.findClass own = some m.cls := by rw [← ho]; exact findClass_of_methodNamed B.named
  have hl := lv_entry av (n := n) hn
  rw [lg_entry_eq]
  exact k (l, rm, (p, e, s, m, av.toArray, below, meth, c), n, out) ⟨⟨B.exec, B.bytes, hml, hown, fun w hw => hts w (List.mem_cons_of_mem _ hw)⟩, B.notSynchronized, B.returns, hK, rfl, rfl, rfl, rfl⟩ s.heap [] _ hP hD va_S.rf hl
section XR
variable {σ : Type} {ω : XW σ} {Γ : XG σ} {cc : ByteArray} {own : String} {ret : Option FieldType} {l0 : Launch} {rm : Room} {nL0 : Nat} {out0 : Option Value × σ} {lv : List (Nat × Value)} {vs : List Value} {S : σ}
theorem x_sub (pc : Nat) {lv' : List (Nat × Value)} (ks : List Nat) (hl : lv_pick lv ks = lv') (k : XAt ω Γ pc lv' vs S) : XAt ω Γ pc lv vs S := by
  obtain ⟨l, R, ⟨p, e, s, m, args, below, meth, c⟩, nL, out⟩ := Γ
  exact fun H locs ls hP hD hS hv => k H locs ls hP hD hS (lv_sub hv ks hl)
theorem x_top {ρ : Type} {o : ρ} {x : Int32} {F : Int32 → ρ} {pc : Nat} (h : xlet x F = o) (k : ∀ y : Int32, F y = o → XAt ω Γ pc lv (.int y :: vs) S) : XAt ω Γ pc lv (.int x :: vs) S := k x h
theorem x_topS {ρ : Type} {o : ρ} {x : σ} {F : σ → ρ} {pc : Nat} (h : xlet x F = o) (k : ∀ y : σ, F y = o → XAt ω Γ pc lv vs y) : XAt ω Γ pc lv vs x := k x h
theorem x_topl {ρ : Type} {o : ρ} {x : Int64} {F : Int64 → ρ} {pc : Nat} (h : xlet x F = o) (k : ∀ y : Int64, F y = o → XAt ω Γ pc lv (.long y :: vs) S) : XAt ω Γ pc lv (.long x :: vs) S := k x h
theorem x_iconst (pc : Nat) (C : Cx ω Γ cc own ret l0 rm nL0 out0) {n : Int} {v : Int32} (hd : decode cc pc = .ok (.iconst n, 1)) (hv : Int32.ofInt n = v) (k : XAt ω Γ (pc + 1) lv (.int v :: vs) S) : XAt ω Γ pc lv vs S := by
  obtain ⟨l, R, ⟨p, e, s, m, args, below, meth, c⟩, nL, out⟩ := Γ
  exact fun H locs ls hP hD hS hl => lv_iconst C.1.1 C.1.2.1 hd hv (k H locs ls hP hD hS hl)
theorem x_bipush (pc : Nat) (C : Cx ω Γ cc own ret l0 rm nL0 out0) {n : Int} {v : Int32} (hd : decode cc pc = .ok (.bipush n, 2)) (hv : (Int8.ofInt n).toInt32 = v) (k : XAt ω Γ (pc + 2) lv (.int v :: vs) S) : XAt ω Γ pc lv vs S := by
  obtain ⟨l, R, ⟨p, e, s, m, args, below, meth, c⟩, nL, out⟩ := Γ
  exact fun H locs ls hP hD hS hl => lv_bipush C.1.1 C.1.2.1 hd hv (k H locs ls hP hD hS hl)
theorem x_sipush (pc : Nat) (C : Cx ω Γ cc own ret l0 rm nL0 out0) {n : Int} {v : Int32} (hd : decode cc pc = .ok (.sipush n, 3)) (hv : (Int16.ofInt n).toInt32 = v) (k : XAt ω Γ (pc + 3) lv (.int v :: vs) S) : XAt ω Γ pc lv vs S := by
  obtain ⟨l, R, ⟨p, e, s, m, args, below, meth, c⟩, nL, out⟩ := Γ
  exact fun H locs ls hP hD hS hl => lv_sipush C.1.1 C.1.2.1 hd hv (k H locs ls hP hD hS hl)
theorem x_lconst (pc : Nat) (C : Cx ω Γ cc own ret l0 rm nL0 out0) {n : Fin 2} {v : Int64} (hd : decode cc pc = .ok (.lconst n, 1)) (hv : Int64.ofNat (n : Nat) = v) (k : XAt ω Γ (pc + 1) lv (.long v :: vs) S) : XAt ω Γ pc lv vs S := by
  obtain ⟨l, R, ⟨p, e, s, m, args, below, meth, c⟩, nL, out⟩ := Γ
  exact fun H locs ls hP hD hS hl => lv_lconst C.1.1 C.1.2.1 hd hv (k H locs ls hP hD hS hl)
theorem x_ldc (pc : Nat) (C : Cx ω Γ cc own ret l0 rm nL0 out0) {index : Nat} {v : Int32} (hw : Cond.constant own index v ∈ xtb) (hd : decode cc pc = .ok (.ldc index, 2)) (k : XAt ω Γ (pc + 2) lv (.int v :: vs) S) : XAt ω Γ pc lv vs S := by
  obtain ⟨l, R, ⟨p, e, s, m, args, below, meth, c⟩, nL, out⟩ := Γ
  exact fun H locs ls hP hD hS hl => lv_ldc C.1.1 C.1.2.1 C.1.2.2.2.1 (C.1.2.2.2.2 _ hw) hd (k H locs ls hP hD hS hl)
theorem x_ldcw (pc : Nat) (C : Cx ω Γ cc own ret l0 rm nL0 out0) {index : Nat} {v : Int32} (hw : Cond.constant own index v ∈ xtb) (hd : decode cc pc = .ok (.ldc_w index, 3)) (k : XAt ω Γ (pc + 3) lv (.int v :: vs) S) : XAt ω Γ pc lv vs S := by
  obtain ⟨l, R, ⟨p, e, s, m, args, below, meth, c⟩, nL, out⟩ := Γ
  exact fun H locs ls hP hD hS hl => lv_ldcw C.1.1 C.1.2.1 C.1.2.2.2.1 (C.1.2.2.2.2 _ hw) hd (k H locs ls hP hD hS hl)
theorem x_ldc2 (pc : Nat) (C : Cx ω Γ cc own ret l0 rm nL0 out0) {index : Nat} {v : Int64} (hw : Cond.constantLong own index v ∈ xtb) (hd : decode cc pc = .ok (.ldc2_w index, 3)) (k : XAt ω Γ (pc + 3) lv (.long v :: vs) S) : XAt ω Γ pc lv vs S := by
  obtain ⟨l, R, ⟨p, e, s, m, args, below, meth, c⟩, nL, out⟩ := Γ
  exact fun H locs ls hP hD hS hl => lv_ldc2 C.1.1 C.1.2.1 C.1.2.2.2.1 (C.1.2.2.2.2 _ hw) hd (k H locs ls hP hD hS hl)
theorem x_iload_n (pc : Nat) (C : Cx ω Γ cc own ret l0 rm nL0 out0) {n : Fin 4} {i : Nat} {x : Int32} (hd : decode cc pc = .ok (.iload_n n, 1)) (hi : (n : Nat) = i) (j : Nat) (hj : lv[j]? = some (i, .int x)) (k : XAt ω Γ (pc + 1) lv (.int x :: vs) S) : XAt ω Γ pc lv vs S := by
  obtain ⟨l, R, ⟨p, e, s, m, args, below, meth, c⟩, nL, out⟩ := Γ
  exact fun H locs ls hP hD hS hl => lv_iload_n C.1.1 C.1.2.1 hd hi (lv_at hl j hj) (k H locs ls hP hD hS hl)
theorem x_iload (pc : Nat) (C : Cx ω Γ cc own ret l0 rm nL0 out0) {i : Nat} {x : Int32} (hd : decode cc pc = .ok (.iload i, 2)) (j : Nat) (hj : lv[j]? = some (i, .int x)) (k : XAt ω Γ (pc + 2) lv (.int x :: vs) S) : XAt ω Γ pc lv vs S := by
  obtain ⟨l, R, ⟨p, e, s, m, args, below, meth, c⟩, nL, out⟩ := Γ
  exact fun H locs ls hP hD hS hl => lv_iload C.1.1 C.1.2.1 hd (lv_at hl j hj) (k H locs ls hP hD hS hl)
theorem x_lload_n (pc : Nat) (C : Cx ω Γ cc own ret l0 rm nL0 out0) {n : Fin 4} {i : Nat} {x : Int64} (hd : decode cc pc = .ok (.lload_n n, 1)) (hi : (n : Nat) = i) (j : Nat) (hj : lv[j]? = some (i, .long x)) (k : XAt ω Γ (pc + 1) lv (.long x :: vs) S) : XAt ω Γ pc lv vs S := by
  obtain ⟨l, R, ⟨p, e, s, m, args, below, meth, c⟩, nL, out⟩ := Γ
  exact fun H locs ls hP hD hS hl => lv_lload_n C.1.1 C.1.2.1 hd hi (lv_at hl j hj) (k H locs ls hP hD hS hl)
theorem x_lload (pc : Nat) (C : Cx ω Γ cc own ret l0 rm nL0 out0) {i : Nat} {x : Int64} (hd : decode cc pc = .ok (.lload i, 2)) (j : Nat) (hj : lv[j]? = some (i, .long x)) (k : XAt ω Γ (pc + 2) lv (.long x :: vs) S) : XAt ω Γ pc lv vs S := by
  obtain ⟨l, R, ⟨p, e, s, m, args, below, meth, c⟩, nL, out⟩ := Γ
  exact fun H locs ls hP hD hS hl => lv_lload C.1.1 C.1.2.1 hd (lv_at hl j hj) (k H locs ls hP hD hS hl)
theorem x_aload_n (pc : Nat) (C : Cx ω Γ cc own ret l0 rm nL0 out0) {n : Fin 4} {i : Nat} {x : Nat} (hd : decode cc pc = .ok (.aload_n n, 1)) (hi : (n : Nat) = i) (j : Nat) (hj : lv[j]? = some (i, .ref x)) (k : XAt ω Γ (pc + 1) lv (.ref x :: vs) S) : XAt ω Γ pc lv vs S := by
  obtain ⟨l, R, ⟨p, e, s, m, args, below, meth, c⟩, nL, out⟩ := Γ
  exact fun H locs ls hP hD hS hl => lv_aload_n C.1.1 C.1.2.1 hd hi (lv_at hl j hj) (k H locs ls hP hD hS hl)
theorem x_aload (pc : Nat) (C : Cx ω Γ cc own ret l0 rm nL0 out0) {i : Nat} {x : Nat} (hd : decode cc pc = .ok (.aload i, 2)) (j : Nat) (hj : lv[j]? = some (i, .ref x)) (k : XAt ω Γ (pc + 2) lv (.ref x :: vs) S) : XAt ω Γ pc lv vs S := by
  obtain ⟨l, R, ⟨p, e, s, m, args, below, meth, c⟩, nL, out⟩ := Γ
  exact fun H locs ls hP hD hS hl => lv_aload C.1.1 C.1.2.1 hd (lv_at hl j hj) (k H locs ls hP hD hS hl)
/-- the locals behind a store of one word, of two words -/
def xl1 (lv : List (Nat × Value)) (i : Nat) (v : Value) : List (Nat × Value) := (i, v) :: lv.filter (fun q => !(q.1 == i) && !(q.1 + 1 == i && q.2.category == 2))
def xl2 (lv : List (Nat × Value)) (i : Nat) (v : Value) : List (Nat × Value) := (i, v) :: lv.filter (fun q => !(q.1 == i) && (!(q.1 == i + 1) && !(q.1 + 1 == i && q.2.category == 2)))
theorem x_istore_n (pc : Nat) (C : Cx ω Γ cc own ret l0 rm nL0 out0) {n : Fin 4} {i : Nat} {x : Int32} {lv' : List (Nat × Value)} (hd : decode cc pc = .ok (.istore_n n, 1)) (hi : (n : Nat) = i) (hn : i < nL0) (ks : List Nat) (hl' : lv_pick (xl1 lv i (.int x)) ks = lv') (k : XAt ω Γ (pc + 1) lv' vs S) : XAt ω Γ pc lv (.int x :: vs) S := by
  obtain ⟨l, R, ⟨p, e, s, m, args, below, meth, c⟩, nL, out⟩ := Γ
  exact fun H locs ls hP hD hS hl => lv_istore_n C.1.1 C.1.2.1 hd hi hl (by rw [C.2.2.2.2.2.2.1]; exact hn) rfl (fun ls hl => k H locs ls hP hD hS (lv_sub hl ks hl'))
theorem x_istore (pc : Nat) (C : Cx ω Γ cc own ret l0 rm nL0 out0) {i : Nat} {x : Int32} {lv' : List (Nat × Value)} (hd : decode cc pc = .ok (.istore i, 2)) (hn : i < nL0) (ks : List Nat) (hl' : lv_pick (xl1 lv i (.int x)) ks = lv') (k : XAt ω Γ (pc + 2) lv' vs S) : XAt ω Γ pc lv (.int x :: vs) S := by
  obtain ⟨l, R, ⟨p, e, s, m, args, below, meth, c⟩, nL, out⟩ := Γ
  exact fun H locs ls hP hD hS hl => lv_istore C.1.1 C.1.2.1 hd hl (by rw [C.2.2.2.2.2.2.1]; exact hn) rfl (fun ls hl => k H locs ls hP hD hS (lv_sub hl ks hl'))
theorem x_lstore_n (pc : Nat) (C : Cx ω Γ cc own ret l0 rm nL0 out0) {n : Fin 4} {i : Nat} {x : Int64} {lv' : List (Nat × Value)} (hd : decode cc pc = .ok (.lstore_n n, 1)) (hi : (n : Nat) = i) (hn : i + 1 < nL0) (ks : List Nat) (hl' : lv_pick (xl2 lv i (.long x)) ks = lv') (k : XAt ω Γ (pc + 1) lv' vs S) : XAt ω Γ pc lv (.long x :: vs) S := by
  obtain ⟨l, R, ⟨p, e, s, m, args, below, meth, c⟩, nL, out⟩ := Γ
  exact fun H locs ls hP hD hS hl => lv_lstore_n C.1.1 C.1.2.1 hd hi hl (by rw [C.2.2.2.2.2.2.1]; exact hn) rfl (fun ls hl => k H locs ls hP hD hS (lv_sub hl ks hl'))
theorem x_lstore (pc : Nat) (C : Cx ω Γ cc own ret l0 rm nL0 out0) {i : Nat} {x : Int64} {lv' : List (Nat × Value)} (hd : decode cc pc = .ok (.lstore i, 2)) (hn : i + 1 < nL0) (ks : List Nat) (hl' : lv_pick (xl2 lv i (.long x)) ks = lv') (k : XAt ω Γ (pc + 2) lv' vs S) : XAt ω Γ pc lv (.long x :: vs) S := by
  obtain ⟨l, R, ⟨p, e, s, m, args, below, meth, c⟩, nL, out⟩ := Γ
  exact fun H locs ls hP hD hS hl => lv_lstore C.1.1 C.1.2.1 hd hl (by rw [C.2.2.2.2.2.2.1]; exact hn) rfl (fun ls hl => k H locs ls hP hD hS (lv_sub hl ks hl'))
theorem x_iinc {ρ : Type} {o : ρ} {F : Int32 → ρ} (pc : Nat) (C : Cx ω Γ cc own ret l0 rm nL0 out0) {i : Nat} {n : Int} {x w : Int32} {L : Int32 → List (Nat × Value)} (hd : decode cc pc = .ok (.iinc i n, 3)) (j : Nat) (hj : lv[j]? = some (i, .int x)) (hw : Int32.ofInt n = w) (hn : i < nL0) (ks : List Nat) (hl' : ∀ v, lv_pick (xl1 lv i (.int v)) ks = L v) (h : xlet (x + w) F = o) (k : ∀ v, F v = o → XAt ω Γ (pc + 3) (L v) vs S) : XAt ω Γ pc lv vs S := by
  obtain ⟨l, R, ⟨p, e, s, m, args, below, meth, c⟩, nL, out⟩ := Γ
  exact fun H locs ls hP hD hS hl => lv_iinc C.1.1 C.1.2.1 (v := x + w) hd hl hj (by rw [hw]) (by rw [C.2.2.2.2.2.2.1]; exact hn) rfl (fun ls hl => k _ h H locs ls hP hD hS (lv_sub hl ks (hl' _)))
end XR
end
section
section XR2
variable {σ : Type} {ω : XW σ} {Γ : XG σ} {cc : ByteArray} {own : String} {ret : Option FieldType} {l0 : Launch} {rm : Room} {nL0 : Nat} {out0 : Option Value × σ} {lv : List (Nat × Value)} {vs : List Value} {S : σ}
theorem x_iadd (pc : Nat) (C : Cx ω Γ cc own ret l0 rm nL0 out0) {x y : Int32} (hd : decode cc pc = .ok (.iadd, 1)) (k : XAt ω Γ (pc + 1) lv (.int (x + y) :: vs) S) : XAt ω Γ pc lv (.int y :: .int x :: vs) S := by
  obtain ⟨l, R, ⟨p, e, s, m, args, below, meth, c⟩, nL, out⟩ := Γ
  exact fun H locs ls hP hD hS hl => lv_iadd C.1.1 C.1.2.1 hd (k H locs ls hP hD hS hl)
theorem x_isub (pc : Nat) (C : Cx ω Γ cc own ret l0 rm nL0 out0) {x y : Int32} (hd : decode cc pc = .ok (.isub, 1)) (k : XAt ω Γ (pc + 1) lv (.int (x - y) :: vs) S) : XAt ω Γ pc lv (.int y :: .int x :: vs) S := by
  obtain ⟨l, R, ⟨p, e, s, m, args, below, meth, c⟩, nL, out⟩ := Γ
  exact fun H locs ls hP hD hS hl => lv_isub C.1.1 C.1.2.1 hd (k H locs ls hP hD hS hl)
theorem x_imul (pc : Nat) (C : Cx ω Γ cc own ret l0 rm nL0 out0) {x y : Int32} (hd : decode cc pc = .ok (.imul, 1)) (k : XAt ω Γ (pc + 1) lv (.int (x * y) :: vs) S) : XAt ω Γ pc lv (.int y :: .int x :: vs) S := by
  obtain ⟨l, R, ⟨p, e, s, m, args, below, meth, c⟩, nL, out⟩ := Γ
  exact fun H locs ls hP hD hS hl => lv_imul C.1.1 C.1.2.1 hd (k H locs ls hP hD hS hl)
theorem x_iand (pc : Nat) (C : Cx ω Γ cc own ret l0 rm nL0 out0) {x y : Int32} (hd : decode cc pc = .ok (.iand, 1)) (k : XAt ω Γ (pc + 1) lv (.int (x &&& y) :: vs) S) : XAt ω Γ pc lv (.int y :: .int x :: vs) S := by
  obtain ⟨l, R, ⟨p, e, s, m, args, below, meth, c⟩, nL, out⟩ := Γ
  exact fun H locs ls hP hD hS hl => lv_iand C.1.1 C.1.2.1 hd (k H locs ls hP hD hS hl)
theorem x_ior (pc : Nat) (C : Cx ω Γ cc own ret l0 rm nL0 out0) {x y : Int32} (hd : decode cc pc = .ok (.ior, 1)) (k : XAt ω Γ (pc + 1) lv (.int (x ||| y) :: vs) S) : XAt ω Γ pc lv (.int y :: .int x :: vs) S := by
  obtain ⟨l, R, ⟨p, e, s, m, args, below, meth, c⟩, nL, out⟩ := Γ
  exact fun H locs ls hP hD hS hl => lv_ior C.1.1 C.1.2.1 hd (k H locs ls hP hD hS hl)
theorem x_ixor (pc : Nat) (C : Cx ω Γ cc own ret l0 rm nL0 out0) {x y : Int32} (hd : decode cc pc = .ok (.ixor, 1)) (k : XAt ω Γ (pc + 1) lv (.int (x ^^^ y) :: vs) S) : XAt ω Γ pc lv (.int y :: .int x :: vs) S := by
  obtain ⟨l, R, ⟨p, e, s, m, args, below, meth, c⟩, nL, out⟩ := Γ
  exact fun H locs ls hP hD hS hl => lv_ixor C.1.1 C.1.2.1 hd (k H locs ls hP hD hS hl)
theorem x_ishl (pc : Nat) (C : Cx ω Γ cc own ret l0 rm nL0 out0) {x y : Int32} (hd : decode cc pc = .ok (.ishl, 1)) (k : XAt ω Γ (pc + 1) lv (.int (x <<< (y &&& 31)) :: vs) S) : XAt ω Γ pc lv (.int y :: .int x :: vs) S := by
  obtain ⟨l, R, ⟨p, e, s, m, args, below, meth, c⟩, nL, out⟩ := Γ
  exact fun H locs ls hP hD hS hl => lv_ishl C.1.1 C.1.2.1 hd (k H locs ls hP hD hS hl)
theorem x_ishr (pc : Nat) (C : Cx ω Γ cc own ret l0 rm nL0 out0) {x y : Int32} (hd : decode cc pc = .ok (.ishr, 1)) (k : XAt ω Γ (pc + 1) lv (.int (x >>> (y &&& 31)) :: vs) S) : XAt ω Γ pc lv (.int y :: .int x :: vs) S := by
  obtain ⟨l, R, ⟨p, e, s, m, args, below, meth, c⟩, nL, out⟩ := Γ
  exact fun H locs ls hP hD hS hl => lv_ishr C.1.1 C.1.2.1 hd (k H locs ls hP hD hS hl)
theorem x_ladd (pc : Nat) (C : Cx ω Γ cc own ret l0 rm nL0 out0) {x y : Int64} (hd : decode cc pc = .ok (.ladd, 1)) (k : XAt ω Γ (pc + 1) lv (.long (x + y) :: vs) S) : XAt ω Γ pc lv (.long y :: .long x :: vs) S := by
  obtain ⟨l, R, ⟨p, e, s, m, args, below, meth, c⟩, nL, out⟩ := Γ
  exact fun H locs ls hP hD hS hl => lv_ladd C.1.1 C.1.2.1 hd (k H locs ls hP hD hS hl)
theorem x_lsub (pc : Nat) (C : Cx ω Γ cc own ret l0 rm nL0 out0) {x y : Int64} (hd : decode cc pc = .ok (.lsub, 1)) (k : XAt ω Γ (pc + 1) lv (.long (x - y) :: vs) S) : XAt ω Γ pc lv (.long y :: .long x :: vs) S := by
  obtain ⟨l, R, ⟨p, e, s, m, args, below, meth, c⟩, nL, out⟩ := Γ
  exact fun H locs ls hP hD hS hl => lv_lsub C.1.1 C.1.2.1 hd (k H locs ls hP hD hS hl)
theorem x_lmul (pc : Nat) (C : Cx ω Γ cc own ret l0 rm nL0 out0) {x y : Int64} (hd : decode cc pc = .ok (.lmul, 1)) (k : XAt ω Γ (pc + 1) lv (.long (x * y) :: vs) S) : XAt ω Γ pc lv (.long y :: .long x :: vs) S := by
  obtain ⟨l, R, ⟨p, e, s, m, args, below, meth, c⟩, nL, out⟩ := Γ
  exact fun H locs ls hP hD hS hl => lv_lmul C.1.1 C.1.2.1 hd (k H locs ls hP hD hS hl)
theorem x_idiv (pc : Nat) (C : Cx ω Γ cc own ret l0 rm nL0 out0) {x y : Int32} (hne : ¬ y = 0) (hd : decode cc pc = .ok (.idiv, 1)) (k : XAt ω Γ (pc + 1) lv (.int (x / y) :: vs) S) : XAt ω Γ pc lv (.int y :: .int x :: vs) S := by
  obtain ⟨l, R, ⟨p, e, s, m, args, below, meth, c⟩, nL, out⟩ := Γ
  exact fun H locs ls hP hD hS hl => lv_idiv C.1.1 C.1.2.1 hd hne (k H locs ls hP hD hS hl)
theorem x_irem (pc : Nat) (C : Cx ω Γ cc own ret l0 rm nL0 out0) {x y : Int32} (hne : ¬ y = 0) (hd : decode cc pc = .ok (.irem, 1)) (k : XAt ω Γ (pc + 1) lv (.int (x - x / y * y) :: vs) S) : XAt ω Γ pc lv (.int y :: .int x :: vs) S := by
  obtain ⟨l, R, ⟨p, e, s, m, args, below, meth, c⟩, nL, out⟩ := Γ
  exact fun H locs ls hP hD hS hl => lv_irem C.1.1 C.1.2.1 hd hne (k H locs ls hP hD hS hl)
theorem x_ldiv (pc : Nat) (C : Cx ω Γ cc own ret l0 rm nL0 out0) {x y : Int64} (hne : ¬ y = 0) (hd : decode cc pc = .ok (.ldiv, 1)) (k : XAt ω Γ (pc + 1) lv (.long (x / y) :: vs) S) : XAt ω Γ pc lv (.long y :: .long x :: vs) S := by
  obtain ⟨l, R, ⟨p, e, s, m, args, below, meth, c⟩, nL, out⟩ := Γ
  exact fun H locs ls hP hD hS hl => lv_ldiv C.1.1 C.1.2.1 hd hne (k H locs ls hP hD hS hl)
theorem x_lrem (pc : Nat) (C : Cx ω Γ cc own ret l0 rm nL0 out0) {x y : Int64} (hne : ¬ y = 0) (hd : decode cc pc = .ok (.lrem, 1)) (k : XAt ω Γ (pc + 1) lv (.long (x - x / y * y) :: vs) S) : XAt ω Γ pc lv (.long y :: .long x :: vs) S := by
  obtain ⟨l, R, ⟨p, e, s, m, args, below, meth, c⟩, nL, out⟩ := Γ
  exact fun H locs ls hP hD hS hl => lv_lrem C.1.1 C.1.2.1 hd hne (k H locs ls hP hD hS hl)
def xushr (x y : Int32) : Int32 := (x.toUInt32 >>> (y.toUInt32 &&& Int32.toUInt32 31)).toInt32
theorem x_iushr (pc : Nat) (C : Cx ω Γ cc own ret l0 rm nL0 out0) {x y : Int32} (hd : decode cc pc = .ok (.iushr, 1)) (k : XAt ω Γ (pc + 1) lv (.int (xushr x y) :: vs) S) : XAt ω Γ pc lv (.int y :: .int x :: vs) S := by
  obtain ⟨l, R, ⟨p, e, s, m, args, below, meth, c⟩, nL, out⟩ := Γ
  exact fun H locs ls hP hD hS hl => lv_iushr C.1.1 C.1.2.1 hd rfl (k H locs ls hP hD hS hl)
theorem x_ineg (pc : Nat) (C : Cx ω Γ cc own ret l0 rm nL0 out0) {x : Int32} (hd : decode cc pc = .ok (.ineg, 1)) (k : XAt ω Γ (pc + 1) lv (.int (-x) :: vs) S) : XAt ω Γ pc lv (.int x :: vs) S := by
  obtain ⟨l, R, ⟨p, e, s, m, args, below, meth, c⟩, nL, out⟩ := Γ
  exact fun H locs ls hP hD hS hl => lv_ineg C.1.1 C.1.2.1 hd (k H locs ls hP hD hS hl)
theorem x_i2l (pc : Nat) (C : Cx ω Γ cc own ret l0 rm nL0 out0) {x : Int32} (hd : decode cc pc = .ok (.i2l, 1)) (k : XAt ω Γ (pc + 1) lv (.long (x.toInt64) :: vs) S) : XAt ω Γ pc lv (.int x :: vs) S := by
  obtain ⟨l, R, ⟨p, e, s, m, args, below, meth, c⟩, nL, out⟩ := Γ
  exact fun H locs ls hP hD hS hl => lv_i2l C.1.1 C.1.2.1 hd rfl (k H locs ls hP hD hS hl)
theorem x_l2i (pc : Nat) (C : Cx ω Γ cc own ret l0 rm nL0 out0) {x : Int64} (hd : decode cc pc = .ok (.l2i, 1)) (k : XAt ω Γ (pc + 1) lv (.int (x.toInt32) :: vs) S) : XAt ω Γ pc lv (.long x :: vs) S := by
  obtain ⟨l, R, ⟨p, e, s, m, args, below, meth, c⟩, nL, out⟩ := Γ
  exact fun H locs ls hP hD hS hl => lv_l2i C.1.1 C.1.2.1 hd rfl (k H locs ls hP hD hS hl)
theorem x_i2b (pc : Nat) (C : Cx ω Γ cc own ret l0 rm nL0 out0) {x : Int32} (hd : decode cc pc = .ok (.i2b, 1)) (k : XAt ω Γ (pc + 1) lv (.int (x.toInt8.toInt32) :: vs) S) : XAt ω Γ pc lv (.int x :: vs) S := by
  obtain ⟨l, R, ⟨p, e, s, m, args, below, meth, c⟩, nL, out⟩ := Γ
  exact fun H locs ls hP hD hS hl => lv_i2b C.1.1 C.1.2.1 hd rfl (k H locs ls hP hD hS hl)
theorem x_i2s (pc : Nat) (C : Cx ω Γ cc own ret l0 rm nL0 out0) {x : Int32} (hd : decode cc pc = .ok (.i2s, 1)) (k : XAt ω Γ (pc + 1) lv (.int (x.toInt16.toInt32) :: vs) S) : XAt ω Γ pc lv (.int x :: vs) S := by
  obtain ⟨l, R, ⟨p, e, s, m, args, below, meth, c⟩, nL, out⟩ := Γ
  exact fun H locs ls hP hD hS hl => lv_i2s C.1.1 C.1.2.1 hd rfl (k H locs ls hP hD hS hl)
theorem x_lcmp (pc : Nat) (C : Cx ω Γ cc own ret l0 rm nL0 out0) {x y : Int64} (hd : decode cc pc = .ok (.lcmp, 1)) (k : XAt ω Γ (pc + 1) lv (.int (lg_cmp x y) :: vs) S) : XAt ω Γ pc lv (.long y :: .long x :: vs) S := by
  obtain ⟨l, R, ⟨p, e, s, m, args, below, meth, c⟩, nL, out⟩ := Γ
  exact fun H locs ls hP hD hS hl => W.lcmp C.1.1 C.1.2.1 hd (k H locs ls hP hD hS hl)
theorem x_dup (pc : Nat) (C : Cx ω Γ cc own ret l0 rm nL0 out0) {v : Value} (hd : decode cc pc = .ok (.dup, 1)) (h1 : v.category = 1) (k : XAt ω Γ (pc + 1) lv (v :: v :: vs) S) : XAt ω Γ pc lv (v :: vs) S := by
  obtain ⟨l, R, ⟨p, e, s, m, args, below, meth, c⟩, nL, out⟩ := Γ
  exact fun H locs ls hP hD hS hl => lv_dup C.1.1 C.1.2.1 hd h1 (k H locs ls hP hD hS hl)
theorem x_pop (pc : Nat) (C : Cx ω Γ cc own ret l0 rm nL0 out0) {v : Value} (hd : decode cc pc = .ok (.pop, 1)) (h1 : v.category = 1) (k : XAt ω Γ (pc + 1) lv vs S) : XAt ω Γ pc lv (v :: vs) S := by
  obtain ⟨l, R, ⟨p, e, s, m, args, below, meth, c⟩, nL, out⟩ := Γ
  exact fun H locs ls hP hD hS hl => lv_pop C.1.1 C.1.2.1 hd h1 (k H locs ls hP hD hS hl)
theorem x_dup2 (pc : Nat) (C : Cx ω Γ cc own ret l0 rm nL0 out0) {v w : Value} (hd : decode cc pc = .ok (.dup2, 1)) (h1 : v.category = 1) (h2 : w.category = 1) (k : XAt ω Γ (pc + 1) lv (v :: w :: v :: w :: vs) S) : XAt ω Γ pc lv (v :: w :: vs) S := by
  obtain ⟨l, R, ⟨p, e, s, m, args, below, meth, c⟩, nL, out⟩ := Γ
  exact fun H locs ls hP hD hS hl => lv_dup2_11 C.1.1 C.1.2.1 hd h1 h2 (k H locs ls hP hD hS hl)
theorem x_goto (pc : Nat) (C : Cx ω Γ cc own ret l0 rm nL0 out0) {off : Int} (tgt : Nat) (hd : decode cc pc = .ok (.goto off, 3)) (ht : (pc : Int) + off = (tgt : Int)) (k : XAt ω Γ tgt lv vs S) : XAt ω Γ pc lv vs S := by
  obtain ⟨l, R, ⟨p, e, s, m, args, below, meth, c⟩, nL, out⟩ := Γ
  exact fun H locs ls hP hD hS hl => lv_goto C.1.1 C.1.2.1 hd ht (k H locs ls hP hD hS hl)
theorem x_if_eq {ρ : Type} {o A B : ρ} (pc : Nat) (C : Cx ω Γ cc own ret l0 rm nL0 out0) {x : Int32} {off : Int} (tgt : Nat) (hd : decode cc pc = .ok (.ifCond .eq off, 3)) (ht : (pc : Int) + off = (tgt : Int)) (h : (if x = 0 then A else B) = o) (kt : A = o → XAt ω Γ tgt lv vs S) (kf : B = o → XAt ω Γ (pc + 3) lv vs S) : XAt ω Γ pc lv (.int x :: vs) S := by
  obtain ⟨l, R, ⟨p, e, s, m, args, below, meth, c⟩, nL, out⟩ := Γ
  exact fun H locs ls hP hD hS hl => lv_if_eq C.1.1 C.1.2.1 hd ht (fun q => kt ((if_pos q).symm.trans h) H locs ls hP hD hS hl) (fun q => kf ((if_neg q).symm.trans h) H locs ls hP hD hS hl)
theorem x_icmp_eq {ρ : Type} {o A B : ρ} (pc : Nat) (C : Cx ω Γ cc own ret l0 rm nL0 out0) {x y : Int32} {off : Int} (tgt : Nat) (hd : decode cc pc = .ok (.if_icmp .eq off, 3)) (ht : (pc : Int) + off = (tgt : Int)) (h : (if x = y then A else B) = o) (kt : A = o → XAt ω Γ tgt lv vs S) (kf : B = o → XAt ω Γ (pc + 3) lv vs S) : XAt ω Γ pc lv (.int y :: .int x :: vs) S := by
  obtain ⟨l, R, ⟨p, e, s, m, args, below, meth, c⟩, nL, out⟩ := Γ
  exact fun H locs ls hP hD hS hl => lv_icmp_eq C.1.1 C.1.2.1 hd ht (fun q => kt ((if_pos q).symm.trans h) H locs ls hP hD hS hl) (fun q => kf ((if_neg q).symm.trans h) H locs ls hP hD hS hl)
theorem x_if_ne {ρ : Type} {o A B : ρ} (pc : Nat) (C : Cx ω Γ cc own ret l0 rm nL0 out0) {x : Int32} {off : Int} (tgt : Nat) (hd : decode cc pc = .ok (.ifCond .ne off, 3)) (ht : (pc : Int) + off = (tgt : Int)) (h : (if x = 0 then B else A) = o) (kt : A = o → XAt ω Γ tgt lv vs S) (kf : B = o → XAt ω Γ (pc + 3) lv vs S) : XAt ω Γ pc lv (.int x :: vs) S := by
  obtain ⟨l, R, ⟨p, e, s, m, args, below, meth, c⟩, nL, out⟩ := Γ
  exact fun H locs ls hP hD hS hl => lv_if_ne C.1.1 C.1.2.1 hd ht (fun q => kt ((if_neg q).symm.trans h) H locs ls hP hD hS hl) (fun q => kf ((if_pos q).symm.trans h) H locs ls hP hD hS hl)
theorem x_icmp_ne {ρ : Type} {o A B : ρ} (pc : Nat) (C : Cx ω Γ cc own ret l0 rm nL0 out0) {x y : Int32} {off : Int} (tgt : Nat) (hd : decode cc pc = .ok (.if_icmp .ne off, 3)) (ht : (pc : Int) + off = (tgt : Int)) (h : (if x = y then B else A) = o) (kt : A = o → XAt ω Γ tgt lv vs S) (kf : B = o → XAt ω Γ (pc + 3) lv vs S) : XAt ω Γ pc lv (.int y :: .int x :: vs) S := by
  obtain ⟨l, R, ⟨p, e, s, m, args, below, meth, c⟩, nL, out⟩ := Γ
  exact fun H locs ls hP hD hS hl => lv_icmp_ne C.1.1 C.1.2.1 hd ht (fun q => kt ((if_neg q).symm.trans h) H locs ls hP hD hS hl) (fun q => kf ((if_pos q).symm.trans h) H locs ls hP hD hS hl)
theorem x_if_lt {ρ : Type} {o A B : ρ} (pc : Nat) (C : Cx ω Γ cc own ret l0 rm nL0 out0) {x : Int32} {off : Int} (tgt : Nat) (hd : decode cc pc = .ok (.ifCond .lt off, 3)) (ht : (pc : Int) + off = (tgt : Int)) (h : (if x < 0 then A else B) = o) (kt : A = o → XAt ω Γ tgt lv vs S) (kf : B = o → XAt ω Γ (pc + 3) lv vs S) : XAt ω Γ pc lv (.int x :: vs) S := by
  obtain ⟨l, R, ⟨p, e, s, m, args, below, meth, c⟩, nL, out⟩ := Γ
  exact fun H locs ls hP hD hS hl => lv_if_lt C.1.1 C.1.2.1 hd ht (fun q => kt ((if_pos q).symm.trans h) H locs ls hP hD hS hl) (fun q => kf ((if_neg q).symm.trans h) H locs ls hP hD hS hl)
theorem x_icmp_lt {ρ : Type} {o A B : ρ} (pc : Nat) (C : Cx ω Γ cc own ret l0 rm nL0 out0) {x y : Int32} {off : Int} (tgt : Nat) (hd : decode cc pc = .ok (.if_icmp .lt off, 3)) (ht : (pc : Int) + off = (tgt : Int)) (h : (if x < y then A else B) = o) (kt : A = o → XAt ω Γ tgt lv vs S) (kf : B = o → XAt ω Γ (pc + 3) lv vs S) : XAt ω Γ pc lv (.int y :: .int x :: vs) S := by
  obtain ⟨l, R, ⟨p, e, s, m, args, below, meth, c⟩, nL, out⟩ := Γ
  exact fun H locs ls hP hD hS hl => lv_icmp_lt C.1.1 C.1.2.1 hd ht (fun q => kt ((if_pos q).symm.trans h) H locs ls hP hD hS hl) (fun q => kf ((if_neg q).symm.trans h) H locs ls hP hD hS hl)
theorem x_if_ge {ρ : Type} {o A B : ρ} (pc : Nat) (C : Cx ω Γ cc own ret l0 rm nL0 out0) {x : Int32} {off : Int} (tgt : Nat) (hd : decode cc pc = .ok (.ifCond .ge off, 3)) (ht : (pc : Int) + off = (tgt : Int)) (h : (if 0 ≤ x then A else B) = o) (kt : A = o → XAt ω Γ tgt lv vs S) (kf : B = o → XAt ω Γ (pc + 3) lv vs S) : XAt ω Γ pc lv (.int x :: vs) S := by
  obtain ⟨l, R, ⟨p, e, s, m, args, below, meth, c⟩, nL, out⟩ := Γ
  exact fun H locs ls hP hD hS hl => lv_if_ge C.1.1 C.1.2.1 hd ht (fun q => kt ((if_pos q).symm.trans h) H locs ls hP hD hS hl) (fun q => kf ((if_neg q).symm.trans h) H locs ls hP hD hS hl)
theorem x_icmp_ge {ρ : Type} {o A B : ρ} (pc : Nat) (C : Cx ω Γ cc own ret l0 rm nL0 out0) {x y : Int32} {off : Int} (tgt : Nat) (hd : decode cc pc = .ok (.if_icmp .ge off, 3)) (ht : (pc : Int) + off = (tgt : Int)) (h : (if y ≤ x then A else B) = o) (kt : A = o → XAt ω Γ tgt lv vs S) (kf : B = o → XAt ω Γ (pc + 3) lv vs S) : XAt ω Γ pc lv (.int y :: .int x :: vs) S := by
  obtain ⟨l, R, ⟨p, e, s, m, args, below, meth, c⟩, nL, out⟩ := Γ
  exact fun H locs ls hP hD hS hl => lv_icmp_ge C.1.1 C.1.2.1 hd ht (fun q => kt ((if_pos q).symm.trans h) H locs ls hP hD hS hl) (fun q => kf ((if_neg q).symm.trans h) H locs ls hP hD hS hl)
theorem x_if_gt {ρ : Type} {o A B : ρ} (pc : Nat) (C : Cx ω Γ cc own ret l0 rm nL0 out0) {x : Int32} {off : Int} (tgt : Nat) (hd : decode cc pc = .ok (.ifCond .gt off, 3)) (ht : (pc : Int) + off = (tgt : Int)) (h : (if 0 < x then A else B) = o) (kt : A = o → XAt ω Γ tgt lv vs S) (kf : B = o → XAt ω Γ (pc + 3) lv vs S) : XAt ω Γ pc lv (.int x :: vs) S := by
  obtain ⟨l, R, ⟨p, e, s, m, args, below, meth, c⟩, nL, out⟩ := Γ
  exact fun H locs ls hP hD hS hl => lv_if_gt C.1.1 C.1.2.1 hd ht (fun q => kt ((if_pos q).symm.trans h) H locs ls hP hD hS hl) (fun q => kf ((if_neg q).symm.trans h) H locs ls hP hD hS hl)
theorem x_icmp_gt {ρ : Type} {o A B : ρ} (pc : Nat) (C : Cx ω Γ cc own ret l0 rm nL0 out0) {x y : Int32} {off : Int} (tgt : Nat) (hd : decode cc pc = .ok (.if_icmp .gt off, 3)) (ht : (pc : Int) + off = (tgt : Int)) (h : (if y < x then A else B) = o) (kt : A = o → XAt ω Γ tgt lv vs S) (kf : B = o → XAt ω Γ (pc + 3) lv vs S) : XAt ω Γ pc lv (.int y :: .int x :: vs) S := by
  obtain ⟨l, R, ⟨p, e, s, m, args, below, meth, c⟩, nL, out⟩ := Γ
  exact fun H locs ls hP hD hS hl => lv_icmp_gt C.1.1 C.1.2.1 hd ht (fun q => kt ((if_pos q).symm.trans h) H locs ls hP hD hS hl) (fun q => kf ((if_neg q).symm.trans h) H locs ls hP hD hS hl)
theorem x_if_le {ρ : Type} {o A B : ρ} (pc : Nat) (C : Cx ω Γ cc own ret l0 rm nL0 out0) {x : Int32} {off : Int} (tgt : Nat) (hd : decode cc pc = .ok (.ifCond .le off, 3)) (ht : (pc : Int) + off = (tgt : Int)) (h : (if x ≤ 0 then A else B) = o) (kt : A = o → XAt ω Γ tgt lv vs S) (kf : B = o → XAt ω Γ (pc + 3) lv vs S) : XAt ω Γ pc lv (.int x :: vs) S := by
  obtain ⟨l, R, ⟨p, e, s, m, args, below, meth, c⟩, nL, out⟩ := Γ
  exact fun H locs ls hP hD hS hl => lv_if_le C.1.1 C.1.2.1 hd ht (fun q => kt ((if_pos q).symm.trans h) H locs ls hP hD hS hl) (fun q => kf ((if_neg q).symm.trans h) H locs ls hP hD hS hl)
theorem x_icmp_le {ρ : Type} {o A B : ρ} (pc : Nat) (C : Cx ω Γ cc own ret l0 rm nL0 out0) {x y : Int32} {off : Int} (tgt : Nat) (hd : decode cc pc = .ok (.if_icmp .le off, 3)) (ht : (pc : Int) + off = (tgt : Int)) (h : (if x ≤ y then A else B) = o) (kt : A = o → XAt ω Γ tgt lv vs S) (kf : B = o → XAt ω Γ (pc + 3) lv vs S) : XAt ω Γ pc lv (.int y :: .int x :: vs) S := by
  obtain ⟨l, R, ⟨p, e, s, m, args, below, meth, c⟩, nL, out⟩ := Γ
  exact fun H locs ls hP hD hS hl => lv_icmp_le C.1.1 C.1.2.1 hd ht (fun q => kt ((if_pos q).symm.trans h) H locs ls hP hD hS hl) (fun q => kf ((if_neg q).symm.trans h) H locs ls hP hD hS hl)
theorem x_iret (pc : Nat) {v r : Int32} {S' : σ} (C : Cx ω Γ cc own (some .int) l0 rm nL0 (some (.int r), S')) (hd : decode cc pc = .ok (.ireturn, 1)) (h : v = r) (hS' : S = S') : XAt ω Γ pc lv [.int v] S := by
  obtain ⟨l, R, ⟨p, e, s, m, args, below, meth, c⟩, nL, out⟩ := Γ
  obtain ⟨⟨hx, hb, -⟩, hlk, hr, hK, -, -, -, ho⟩ := C
  subst ho; subst h; subst hS'
  exact fun H locs ls hP hD hS hl => W.iret (v := v) hx hb hr (fun t ht hW => ⟨rfl, ⟨by rw [ht]; exact hP, va_K.moved hW.alike hK, hD⟩, hS.F ht⟩) hS.2.2 hd hlk
theorem x_lret (pc : Nat) {v r : Int64} {S' : σ} (C : Cx ω Γ cc own (some .long) l0 rm nL0 (some (.long r), S')) (hd : decode cc pc = .ok (.lreturn, 1)) (h : v = r) (hS' : S = S') : XAt ω Γ pc lv [.long v] S := by
  obtain ⟨l, R, ⟨p, e, s, m, args, below, meth, c⟩, nL, out⟩ := Γ
  obtain ⟨⟨hx, hb, -⟩, hlk, hr, hK, -, -, -, ho⟩ := C
  subst ho; subst h; subst hS'
  exact fun H locs ls hP hD hS hl => W.lret (v := v) hx hb hr (fun t ht hW => ⟨rfl, ⟨by rw [ht]; exact hP, va_K.moved hW.alike hK, hD⟩, hS.F ht⟩) hS.2.2 hd hlk
theorem x_zret (pc : Nat) {v r : Int32} {S' : σ} (C : Cx ω Γ cc own (some .boolean) l0 rm nL0 (some (.int r), S')) (hd : decode cc pc = .ok (.ireturn, 1)) (hz : xbool v = true) (h : v = r) (hS' : S = S') : XAt ω Γ pc lv [.int v] S := by
  obtain ⟨l, R, ⟨p, e, s, m, args, below, meth, c⟩, nL, out⟩ := Γ
  obtain ⟨⟨hx, hb, -⟩, hlk, hr, hK, -, -, -, ho⟩ := C
  subst ho; subst h; subst hS'
  have hn : narrow .boolean (.int v) = .int v := by
    simp only [xbool, Bool.or_eq_true, decide_eq_true_eq] at hz
    rcases hz with rfl | rfl <;> rfl
  exact fun H locs ls hP hD hS hl => W.zret (v := v) hx hb hr hn (fun t ht hW => ⟨rfl, ⟨by rw [ht]; exact hP, va_K.moved hW.alike hK, hD⟩, hS.F ht⟩) hS.2.2 hd hlk
theorem x_vret (pc : Nat) {S' : σ} (C : Cx ω Γ cc own none l0 rm nL0 (none, S')) (hd : decode cc pc = .ok (.return_, 1)) (hS' : S = S') : XAt ω Γ pc lv [] S := by
  obtain ⟨l, R, ⟨p, e, s, m, args, below, meth, c⟩, nL, out⟩ := Γ
  obtain ⟨⟨hx, hb, -⟩, hlk, hr, hK, -, -, -, ho⟩ := C
  subst ho; subst hS'
  exact fun H locs ls hP hD hS hl => W.vret hx hb hr (fun t ht hW => ⟨rfl, ⟨by rw [ht]; exact hP, va_K.moved hW.alike hK, hD⟩, hS.F ht⟩) hS.2.2 hd hlk
theorem xPc_blind (av : List Value) (S : σ) : FrameBlind (va_Pc av (xWd ω S)) := by
  intro a U g mk q
  obtain ⟨q0, qP, qK, qD⟩ := q
  exact ⟨q0, qP, va_K.moved (u := U) (U := U.calling g mk a) (Vm.Alike.refl U.vm) qK, qD⟩
theorem x_goodV {c0 : Cond} {own C : String} {index : Nat} {y : MethodName} {bytes : ByteArray} {maxL : Nat} {ret : Option FieldType} (h1 : Cond.methodLink own index y ∈ xtb) (h2 : Cond.instanceMethod y ∈ xtb) (h3 : Cond.selects C y y ∈ xtb) (h4 : Cond.initialized C ∈ xtb) (h5 : Cond.code y bytes maxL ret ∈ xtb) : GoodIn (c0 :: xtb) (wsV own index C y (.code y bytes maxL ret :: xtb)) := by
  intro w hw
  rcases List.mem_append.mp hw with h | h
  · simp only [List.mem_cons, List.not_mem_nil, or_false] at h
    rcases h with rfl | rfl | rfl | rfl
    · exact xtb_good h1
    · exact xtb_good h2
    · exact xtb_good h3
    · exact xtb_good h4
  · rcases List.mem_cons.mp h with rfl | h
    · exact xtb_good h5
    · exact xtb_good h
theorem x_goodS {c0 : Cond} {y : MethodName} {bytes : ByteArray} {maxL : Nat} {ret : Option FieldType} (h5 : Cond.code y bytes maxL ret ∈ xtb) : GoodIn (c0 :: xtb) (.code y bytes maxL ret :: xtb) := by
  intro w hw
  rcases List.mem_cons.mp hw with rfl | h
  · exact xtb_good h5
  · exact xtb_good h
/-- what stays of a call: the callee's end, at the caller -/
theorem x_back {l : Launch} {p : Program} {e : Env} {R : Room} {s : State} {m : MethodId} {args : Array Value} {below : List Frame} {meth : Method} {c : Code} {nL pc : Nat} {ls : Array Slot} {out : Option Value × σ} {o1 : Option Value} {S1 : σ} {a : Array Value} {H : Heap} {locs : List Loc} {rest st0 : List Value}
    (hr : va_Run p l e R s m args below meth c H locs 0 0 0 0 (F0 m pc ls st0) rest (xQ ω (o1, S1) a) ω.2.1) (hS : va_S ω.2.1 s.heap H locs) (hl : lv_has ls nL lv)
    (k : ∀ (H : Heap) (locs : List Loc) (ls : Array Slot), va_P ω.1 vwCl (ω.2.2.2 S1) H → va_D ω.2.1 (ω.2.2.2 S1) → va_S ω.2.1 s.heap H locs → lv_has ls nL lv → W p l e R s m args below meth c H locs 0 0 (MQ below (xQ ω out) args s 0 0 ω.2.1) (F0 m (pc + 3) ls (o1.toList ++ rest))) :
    W p l e R s m args below meth c H locs 0 0 (MQ below (xQ ω out) args s 0 0 ω.2.1) (F0 m pc ls st0) := by
  intro T hT X
  obtain ⟨v, st₀, t, T', L, h0, X', hL, e1, e2, ⟨hv, ⟨qP, qK, qD⟩, hz, hk⟩, st⟩ := hr T hT X
  have hv := Outcome.returned.inj hv
  subst hv
  rw [h0] at hz hk
  obtain ⟨t2, a1, b1⟩ := k T'.heap (locs ++ L) ls (by rw [e1]; exact qP) qD ⟨Nat.le_trans hS.1 (by rw [e1]; exact hz), fun q h1 h2 => by rw [e1, hk q (Nat.lt_of_lt_of_le h1 hS.1) h2]; exact hS.2.1 q h1 h2, fun q hq => by
      rcases List.mem_append.mp hq with h | h
      · exact hS.2.2 q h
      · exact hL q h⟩ hl T' rfl X'
  exact ⟨t2, st t2 a1, b1⟩
theorem x_callV (pc : Nat) (C : Cx ω Γ cc own ret l0 rm nL0 out0) {y : MethodName} {bytes : ByteArray} {maxL index : Nat} {ret1 : Option FieldType} {rm1 : Room} {As rest : List Value} {b q0 ci : Nat} {fs : List Value} {T : u_T} {N : Nat} {Cl : String} {o1 : Option Value} {S1 : σ} (n : Nat)
    (hM : xM l0 ω y bytes maxL ret1 rm1 (.ref b :: As) S (o1, S1)) (he : (ω.2.2.2 S)[q0]? = some (b, .inr (ci, fs))) (hc : vwCl[ci]? = some (Cl, T, N))
    (h1 : Cond.methodLink own index y ∈ xtb) (h2 : Cond.instanceMethod y ∈ xtb ∧ Cond.selects Cl y y ∈ xtb ∧ Cond.initialized Cl ∈ xtb ∧ Cond.code y bytes maxL ret1 ∈ xtb)
    (hd : y.cls = Cl ∧ y.cls ≠ "java/lang/invoke/MethodHandle" ∧ y.cls ≠ "java/lang/invoke/VarHandle" ∧ (parseMethodDescriptor y.desc).map (fun d => d.parameters.length) = some n) (hcs : rm1.cells = 0 ∧ rm1.slots = 0) (hR : rm1.frames + 1 ≤ rm.frames ∧ 8 + (maxL + 11) + rm1.locals ≤ rm.locals)
    (hn : As.length = n) (hst : vs = As.reverse ++ .ref b :: rest) (hW : (rest.map fun v => v.category).sum ≤ 8) (hdg : decode cc pc = .ok (.invokevirtual index, 3)) (k : XAt ω Γ (pc + 3) lv (o1.toList ++ rest) S1) : XAt ω Γ pc lv vs S := by
  obtain ⟨l, R, ⟨p, e, s, m, args, below, meth, c⟩, nL, out⟩ := Γ
  obtain ⟨hF, hlk, hr, hK, e1, e2, e3, e4⟩ := C
  subst e1; subst e2; subst hst
  intro H locs ls hP hD hS hl
  have hts : ∀ w ∈ (Cond.initialized Cl :: xtb), w.before args s = true := fun w h => by
    rcases List.mem_cons.mp h with rfl | h
    · exact hF.2.2.2.2 _ h2.2.2.1
    · exact hF.2.2.2.2 _ h
  refine x_back (va_runV (As := As) (rest := rest) hF hM (cwV n hts (x_goodV h1 h2.1 h2.2.1 h2.2.2.1 h2.2.2.2) rfl hcs.1 hcs.2 hd hR) ⟨xPc_blind _ _, va_recv hK hP hc he, fun U hU hW => ⟨rfl, by rw [hU]; exact hP, va_K.moved hW.alike hK, hD⟩⟩ rfl hn hl.1 rfl (lv_room hW) hdg ⟨Nat.zero_le _, Nat.zero_le _⟩) hS hl k
theorem x_callS (pc : Nat) (C : Cx ω Γ cc own ret l0 rm nL0 out0) {y : MethodName} {bytes : ByteArray} {maxL index : Nat} {ret1 : Option FieldType} {rm1 : Room} {As rest : List Value} {o1 : Option Value} {S1 : σ} (n : Nat)
    (hM : xM l0 ω y bytes maxL ret1 rm1 As S (o1, S1))
    (h1 : Cond.methodLink own index y ∈ xtb) (h2 : Cond.static y ∈ xtb ∧ Cond.initialized y.cls ∈ xtb ∧ Cond.code y bytes maxL ret1 ∈ xtb)
    (hd : y.cls ≠ "java/lang/invoke/MethodHandle" ∧ y.cls ≠ "java/lang/invoke/VarHandle" ∧ (parseMethodDescriptor y.desc).map (fun d => d.parameters.length) = some n) (hcs : rm1.cells = 0 ∧ rm1.slots = 0) (hR : rm1.frames + 1 ≤ rm.frames ∧ 8 + (maxL + 11) + rm1.locals ≤ rm.locals)
    (hn : As.length = n) (hst : vs = As.reverse ++ rest) (hW : (rest.map fun v => v.category).sum ≤ 8) (hdg : decode cc pc = .ok (.invokestatic index, 3)) (k : XAt ω Γ (pc + 3) lv (o1.toList ++ rest) S1) : XAt ω Γ pc lv vs S := by
  obtain ⟨l, R, ⟨p, e, s, m, args, below, meth, c⟩, nL, out⟩ := Γ
  obtain ⟨hF, hlk, hr, hK, e1, e2, e3, e4⟩ := C
  subst e1; subst e2; subst hst
  intro H locs ls hP hD hS hl
  have hts : ∀ w ∈ (Cond.initialized y.cls :: xtb), w.before args s = true := fun w h => by
    rcases List.mem_cons.mp h with rfl | h
    · exact hF.2.2.2.2 _ h2.2.1
    · exact hF.2.2.2.2 _ h
  refine x_back (va_runS (As := As) (rest := rest) hF hM ⟨callB_of n hts (x_goodS h2.2.2) rfl hcs.1 hcs.2 (hF.2.2.2.2 _ h2.2.1) (hF.2.2.2.2 _ h1) hd hR, hF.2.2.2.2 _ h2.1⟩ ⟨xPc_blind _ _, fun U hU hW => ⟨rfl, by rw [hU]; exact hP, va_K.moved hW.alike hK, hD⟩⟩ rfl hn hl.1 rfl (lv_room hW) hdg ⟨Nat.zero_le _, Nat.zero_le _⟩) hS hl k
theorem x_mmax (pc : Nat) (C : Cx ω Γ cc own ret l0 rm nL0 out0) {index : Nat} {x y : Int32} (h1 : Cond.methodLink own index Lib.Math.max.name ∈ xtb) (h2 : Cond.static Lib.Math.max.name ∈ xtb) (h3 : Cond.initialized "java/lang/Math" ∈ xtb) (h4 : Cond.code Lib.Math.max.name Lib.Math.max.code 2 (some .int) ∈ xtb) (hf : 1 ≤ rm.frames) (hlo : (vs.map fun v => v.category).sum + 13 ≤ rm.locals) (hd : decode cc pc = .ok (.invokestatic index, 3)) (k : XAt ω Γ (pc + 3) lv (.int (if x < y then y else x) :: vs) S) : XAt ω Γ pc lv (.int y :: .int x :: vs) S := by
  obtain ⟨l, R, ⟨p, e, s, m, args, below, meth, c⟩, nL, out⟩ := Γ
  obtain ⟨hF, hlk, hr, hK, e1, e2, e3, e4⟩ := C
  subst e2
  exact fun H locs ls hP hD hS hl => va_mmax hF.1 hF.2.1 (by rw [hF.2.2.1, hl.1]) hF.2.2.2.1 (hF.2.2.2.2 _ h1) (hF.2.2.2.2 _ h2) (hF.2.2.2.2 _ h3) (hF.2.2.2.2 _ h4) hf hlo (Nat.zero_le _) (Nat.zero_le _) hd (k H locs ls hP hD hS hl)
theorem x_mmin (pc : Nat) (C : Cx ω Γ cc own ret l0 rm nL0 out0) {index : Nat} {x y : Int32} (h1 : Cond.methodLink own index Lib.Math.min.name ∈ xtb) (h2 : Cond.static Lib.Math.min.name ∈ xtb) (h3 : Cond.initialized "java/lang/Math" ∈ xtb) (h4 : Cond.code Lib.Math.min.name Lib.Math.min.code 2 (some .int) ∈ xtb) (hf : 1 ≤ rm.frames) (hlo : (vs.map fun v => v.category).sum + 13 ≤ rm.locals) (hd : decode cc pc = .ok (.invokestatic index, 3)) (k : XAt ω Γ (pc + 3) lv (.int (if y < x then y else x) :: vs) S) : XAt ω Γ pc lv (.int y :: .int x :: vs) S := by
  obtain ⟨l, R, ⟨p, e, s, m, args, below, meth, c⟩, nL, out⟩ := Γ
  obtain ⟨hF, hlk, hr, hK, e1, e2, e3, e4⟩ := C
  subst e2
  exact fun H locs ls hP hD hS hl => va_mmin hF.1 hF.2.1 (by rw [hF.2.2.1, hl.1]) hF.2.2.2.1 (hF.2.2.2.2 _ h1) (hF.2.2.2.2 _ h2) (hF.2.2.2.2 _ h3) (hF.2.2.2.2 _ h4) hf hlo (Nat.zero_le _) (Nat.zero_le _) hd (k H locs ls hP hD hS hl)
theorem x_iald (pc : Nat) (C : Cx ω Γ cc own ret l0 rm nL0 out0) {q t n a : Nat} {cA : ClassId} {f : Nat → Int32} {i : Int32} (ha : (ω.2.2.2 S)[q]? = some (a, .inl (cA, n, .inl f))) (ht : ω.2.2.1[t]? = some (cA, .int)) (hin : xin i n = true) (hd : decode cc pc = .ok (.iaload, 1)) (k : XAt ω Γ (pc + 1) lv (.int (f (xti i)) :: vs) S) : XAt ω Γ pc lv (.int i :: .ref a :: vs) S := by
  obtain ⟨l, R, ⟨p, e, s, m, args, below, meth, c⟩, nL, out⟩ := Γ
  exact fun H locs ls hP hD hS hl => va_iald C.1.1 C.1.2.1 C.2.2.2.1 hP q t ha ht (xin_in hin) hd (k H locs ls hP hD hS hl)
theorem x_zald (pc : Nat) (C : Cx ω Γ cc own ret l0 rm nL0 out0) {q t n a : Nat} {cA : ClassId} {f : Nat → Int32} {i : Int32} (ha : (ω.2.2.2 S)[q]? = some (a, .inl (cA, n, .inl f))) (ht : ω.2.2.1[t]? = some (cA, .boolean)) (hin : xin i n = true) (hd : decode cc pc = .ok (.baload, 1)) (k : XAt ω Γ (pc + 1) lv (.int (f (xti i)) :: vs) S) : XAt ω Γ pc lv (.int i :: .ref a :: vs) S := by
  obtain ⟨l, R, ⟨p, e, s, m, args, below, meth, c⟩, nL, out⟩ := Γ
  exact fun H locs ls hP hD hS hl => va_zald C.1.1 C.1.2.1 C.2.2.2.1 hP q t ha ht (xin_in hin) hd (k H locs ls hP hD hS hl)
theorem x_iast (pc : Nat) (C : Cx ω Γ cc own ret l0 rm nL0 out0) {q t n a : Nat} {cA : ClassId} {f : Nat → Int32} {i x : Int32} {S1 : σ} (ha : (ω.2.2.2 S)[q]? = some (a, .inl (cA, n, .inl f))) (ht : ω.2.2.1[t]? = some (cA, .int)) (hin : xin i n = true) (hs : (ω.2.2.2 S).set q (a, .inl (cA, n, .inl (upd f (xti i) x))) = ω.2.2.2 S1) (hd : decode cc pc = .ok (.iastore, 1)) (k : XAt ω Γ (pc + 1) lv vs S1) : XAt ω Γ pc lv (.int x :: .int i :: .ref a :: vs) S := by
  obtain ⟨l, R, ⟨p, e, s, m, args, below, meth, c⟩, nL, out⟩ := Γ
  exact fun H locs ls hP hD hS hl => va_iast C.1.1 C.1.2.1 C.2.2.2.1 hP hD hS q t ha ht (xin_in hin) hd (fun H1 locs1 hP hD hS => k H1 locs1 ls (by rw [← hs]; exact hP) (by rw [← hs]; exact hD) hS hl)
theorem x_zast (pc : Nat) (C : Cx ω Γ cc own ret l0 rm nL0 out0) {q t n a : Nat} {cA : ClassId} {f : Nat → Int32} {i x : Int32} {S1 : σ} (ha : (ω.2.2.2 S)[q]? = some (a, .inl (cA, n, .inl f))) (ht : ω.2.2.1[t]? = some (cA, .boolean)) (hin : xin i n = true) (hs : (ω.2.2.2 S).set q (a, .inl (cA, n, .inl (upd f (xti i) (vp_nar .boolean x)))) = ω.2.2.2 S1) (hd : decode cc pc = .ok (.bastore, 1)) (k : XAt ω Γ (pc + 1) lv vs S1) : XAt ω Γ pc lv (.int x :: .int i :: .ref a :: vs) S := by
  obtain ⟨l, R, ⟨p, e, s, m, args, below, meth, c⟩, nL, out⟩ := Γ
  exact fun H locs ls hP hD hS hl => va_zast C.1.1 C.1.2.1 C.2.2.2.1 hP hD hS q t ha ht (xin_in hin) hd (fun H1 locs1 hP hD hS => k H1 locs1 ls (by rw [← hs]; exact hP) (by rw [← hs]; exact hD) hS hl)
theorem x_alen (pc : Nat) (C : Cx ω Γ cc own ret l0 rm nL0 out0) {q t a : Nat} {cA : ClassId} {x : vp_A} {ty : FieldType} {v : Int32} (ha : (ω.2.2.2 S)[q]? = some (a, .inl (cA, x))) (ht : ω.2.2.1[t]? = some (cA, ty)) (hv : Int32.ofNat x.1 = v) (hd : decode cc pc = .ok (.arraylength, 1)) (k : XAt ω Γ (pc + 1) lv (.int v :: vs) S) : XAt ω Γ pc lv (.ref a :: vs) S := by
  obtain ⟨l, R, ⟨p, e, s, m, args, below, meth, c⟩, nL, out⟩ := Γ
  exact fun H locs ls hP hD hS hl => va_alen C.1.1 C.1.2.1 C.2.2.2.1 hP q t ha ht hv hd (k H locs ls hP hD hS hl)
theorem x_aald (pc : Nat) (C : Cx ω Γ cc own ret l0 rm nL0 out0) {q t n a : Nat} {cA : ClassId} {E : String} {f : Nat → Option Nat} {i : Int32} {r : Nat} (ha : (ω.2.2.2 S)[q]? = some (a, .inl (cA, n, .inr (.inr (.inr (.inr f)))))) (ht : ω.2.2.1[t]? = some (cA, .object E)) (hin : xin i n = true) (hf : va_rf (f (xti i)) = .ref r) (hd : decode cc pc = .ok (.aaload, 1)) (k : XAt ω Γ (pc + 1) lv (.ref r :: vs) S) : XAt ω Γ pc lv (.int i :: .ref a :: vs) S := by
  obtain ⟨l, R, ⟨p, e, s, m, args, below, meth, c⟩, nL, out⟩ := Γ
  exact fun H locs ls hP hD hS hl => va_aldq C.1.1 C.1.2.1 C.2.2.2.1 hP q t ha ht (xin_in hin) hd (by rw [hf]; exact (k H locs ls hP hD hS hl))
theorem x_get (pc : Nat) (C : Cx ω Γ cc own ret l0 rm nL0 out0) {q a ci index k0 N : Nat} {fs : List Value} {Cl fr fn fd : String} {T : u_T} {v : Value} (he : (ω.2.2.2 S)[q]? = some (a, .inr (ci, fs))) (hc : vwCl[ci]? = some (Cl, T, N)) (hin : ∀ w ∈ u_ws Cl T N, w ∈ xtb) (hk : k0 < N) (hT : T k0 = (fr, fn, fd, (T k0).2.2.2)) (hl0 : Cond.fieldLink own index fr fn fd ∈ xtb) (hv : fs[k0]? = some v) (hd : decode cc pc = .ok (.getfield index, 3)) (k : XAt ω Γ (pc + 3) lv (v :: vs) S) : XAt ω Γ pc lv (.ref a :: vs) S := by
  obtain ⟨l, R, ⟨p, e, s, m, args, below, meth, c⟩, nL, out⟩ := Γ
  refine fun H locs ls hP hD hS hl => va_get (ref := fr) C.1.1 C.1.2.1 C.1.2.2.2.2 hin C.1.2.2.2.1 C.2.2.2.1 hP q he hc k0 hk ?_ (fun x h => ?_) hv hd (k H locs ls hP hD hS hl)
  · rw [hT]; exact C.1.2.2.2.2 _ hl0
  · rw [hT] at h ⊢; exact h
theorem x_put (pc : Nat) (C : Cx ω Γ cc own ret l0 rm nL0 out0) {q a ci index k0 N : Nat} {fs : List Value} {Cl fr fn fd : String} {T : u_T} {v : Value} {ty0 : Nat → FieldType} {ty : FieldType} {S1 : σ} (he : (ω.2.2.2 S)[q]? = some (a, .inr (ci, fs))) (hc : vwCl[ci]? = some (Cl, T, N)) (hin : ∀ w ∈ u_ws Cl T N, w ∈ xtb) (hty : ∀ k, k < N → parseFieldDescriptor (T k).2.2.1 = some (ty0 k)) (hnm : ∀ a, a < N → ∀ b, b < N → a ≠ b → (T a).2.1 ≠ (T b).2.1) (hk : k0 < N) (hT : T k0 = (fr, fn, fd, false)) (hty0 : ty0 k0 = ty) (hn : narrow ty v = v) (hfit : fits ty v = true) (hlen : k0 < fs.length) (hs : (ω.2.2.2 S).set q (a, .inr (ci, fs.set k0 v)) = ω.2.2.2 S1) (hl0 : Cond.fieldLink own index fr fn fd ∈ xtb) (hd : decode cc pc = .ok (.putfield index, 3)) (k : XAt ω Γ (pc + 3) lv vs S1) : XAt ω Γ pc lv (v :: .ref a :: vs) S := by
  obtain ⟨l, R, ⟨p, e, s, m, args, below, meth, c⟩, nL, out⟩ := Γ
  refine fun H locs ls hP hD hS hl => va_put (ref := fr) (ty := ty) C.1.1 C.1.2.1 C.1.2.2.2.2 hin ty0 hty hnm C.1.2.2.2.1 C.2.2.2.1 hP hD hS q he hc k0 hk ?_ (fun x h => ?_) (by rw [hT]) (by rw [← hty0]; exact hty k0 hk) hn hfit hlen hd (fun H1 locs1 hP hD hS => k H1 locs1 ls (by rw [← hs]; exact hP) (by rw [← hs]; exact hD) hS hl)
  · rw [hT]; exact C.1.2.2.2.2 _ hl0
  · rw [hT] at h ⊢; exact h
end XR2
end
section
theorem wiX0 : ∀ w ∈ u_ws RX0 TX0 5, w ∈ xtb := xtb_ws _ [164, 166, 168, 170, 172] (by decide +kernel) (by decide +kernel)
theorem wiX1 : ∀ w ∈ u_ws RX1 TX1 4, w ∈ xtb := xtb_ws _ [245, 247, 249, 251] (by decide +kernel) (by decide +kernel)
theorem wiX2 : ∀ w ∈ u_ws RX2 TX2 2, w ∈ xtb := xtb_ws _ [147, 149] (by decide +kernel) (by decide +kernel)
theorem wiX3 : ∀ w ∈ u_ws RX3 TX3 16, w ∈ xtb := xtb_ws _ [202, 204, 206, 208, 210, 212, 214, 216, 218, 220, 222, 224, 226, 228, 230, 232] (by decide +kernel) (by decide +kernel)
theorem wiX4 : ∀ w ∈ u_ws RX4 TX4 4, w ∈ xtb := xtb_ws _ [269, 271, 273, 275] (by decide +kernel) (by decide +kernel)
theorem wiX5 : ∀ w ∈ u_ws RX5 TX5 9, w ∈ xtb := xtb_ws _ [117, 119, 121, 123, 125, 127, 129, 131, 133] (by decide +kernel) (by decide +kernel)
theorem wiX6 : ∀ w ∈ u_ws RX6 TX6 8, w ∈ xtb := xtb_ws _ [286, 288, 290, 292, 294, 296, 298, 300] (by decide +kernel) (by decide +kernel)
theorem wiX7 : ∀ w ∈ u_ws RX7 TX7 40, w ∈ xtb := xtb_ws _ [826, 828, 830, 832, 834, 836, 838, 840, 842, 844, 846, 848, 850, 852, 854, 856, 858, 860, 862, 864, 866, 868, 870, 872, 874, 876, 878, 880, 882, 884, 886, 888, 890, 892, 894, 896, 898, 900, 902, 904] (by decide +kernel) (by decide +kernel)
def wC (a : Nat → Nat) (b : Nat → ClassId) (S : XSt) : va_W := [(a 0, .inr (6, [.ref (a 1), .ref (a 2), .ref (a 3), .ref (a 4), .ref (a 5), .ref (a 6), .int (S 0 6), .int (S 0 7)])),
  (a 1, .inr (5, [.ref (a 7), .ref (a 8), .ref (a 9), .ref (a 10), .int (S 1 4), .int (S 1 5), .int (S 1 6), .int (S 1 7), .int (S 1 8)])),
  (a 2, .inr (2, [.ref (a 11), .int (S 2 1)])),
  (a 3, .inr (0, [.ref (a 12), .ref (a 13), .ref (a 14), .ref (a 15), .int (S 3 4)])),
  (a 4, .inr (3, [.ref (a 1), .ref (a 16), .ref (a 17), .ref (a 18), .ref (a 19), .ref (a 20), .ref (a 21), .ref (a 22), .ref (a 23), .ref (a 24), .ref (a 25), .ref (a 26), .int (S 4 12), .int (S 4 13), .int (S 4 14), .int (S 4 15)])),
  (a 5, .inr (1, [.ref (a 1), .ref (a 22), .ref (a 27), .ref (a 28)])),
  (a 6, .inl (b 6, 4, .inr (.inr (.inr (.inr (fun i => some (a (29 + i)))))))),
  (a 7, .inl (b 7, 8, .inl (S 7))),
  (a 8, .inl (b 8, 8, .inl (S 8))),
  (a 9, .inl (b 9, 8, .inl (S 9))),
  (a 10, .inl (b 10, 8, .inl (S 10))),
  (a 11, .inl (b 11, 40, .inl (S 11))),
  (a 12, .inl (b 12, 60, .inl (S 12))),
  (a 13, .inl (b 13, 60, .inl (S 13))),
  (a 14, .inl (b 14, 60, .inl (S 14))),
  (a 15, .inl (b 15, 60, .inl (S 15))),
  (a 16, .inl (b 16, 256, .inl (S 16))),
  (a 17, .inl (b 17, 256, .inl (S 17))),
  (a 18, .inl (b 18, 2048, .inl (S 18))),
  (a 19, .inl (b 19, 256, .inl (S 19))),
  (a 20, .inl (b 20, 256, .inl (S 20))),
  (a 21, .inl (b 21, 256, .inl (S 21))),
  (a 22, .inl (b 22, 8, .inl (S 22))),
  (a 23, .inl (b 23, 181, .inl (S 23))),
  (a 24, .inl (b 24, 24, .inl (S 24))),
  (a 25, .inl (b 25, 24, .inl (S 25))),
  (a 26, .inl (b 26, 256, .inl (S 26))),
  (a 27, .inl (b 27, 8, .inl (S 27))),
  (a 28, .inl (b 28, 9, .inl (S 28))),
  (a 29, .inr (4, [.ref (a 33), .int (S 29 1), .int (S 29 2), .int (S 29 3)])),
  (a 30, .inr (4, [.ref (a 34), .int (S 30 1), .int (S 30 2), .int (S 30 3)])),
  (a 31, .inr (4, [.ref (a 35), .int (S 31 1), .int (S 31 2), .int (S 31 3)])),
  (a 32, .inr (4, [.ref (a 36), .int (S 32 1), .int (S 32 2), .int (S 32 3)])),
  (a 33, .inl (b 33, 40, .inl (S 33))),
  (a 34, .inl (b 34, 40, .inl (S 34))),
  (a 35, .inl (b 35, 40, .inl (S 35))),
  (a 36, .inl (b 36, 40, .inl (S 36)))]
def tyC (b : Nat → ClassId) : List (ClassId × FieldType) := [(b 6, .object "GraveOrder$Sheet"), (b 7, .int), (b 8, .int), (b 9, .int), (b 10, .int), (b 11, .int), (b 12, .int), (b 13, .int), (b 14, .int), (b 15, .boolean), (b 16, .int), (b 17, .int), (b 18, .int), (b 19, .int), (b 20, .int), (b 21, .int), (b 22, .int), (b 23, .int), (b 24, .int), (b 25, .int), (b 26, .boolean), (b 27, .int), (b 28, .int), (b 33, .int), (b 34, .int), (b 35, .int), (b 36, .int)]
def aC (a : Nat → Nat) : Nat → Prop := fun q => ∃ k, k < 37 ∧ q = a k
def ωC (D : va_G) (a : Nat → Nat) (b : Nat → ClassId) : XW XSt := (D, aC a, tyC b, wC a b)
def iaC (q n : Nat) : Bool := decide ((q, n) ∈ ([(7, 8), (8, 8), (9, 8), (10, 8), (11, 40), (12, 60), (13, 60), (14, 60), (16, 256), (17, 256), (18, 2048), (19, 256), (20, 256), (21, 256), (22, 8), (23, 181), (24, 24), (25, 24), (27, 8), (28, 9), (33, 40), (34, 40), (35, 40), (36, 40)] : List (Nat × Nat)))
def tpC (q : Nat) : Nat := if q < 29 then q - 6 else q - 10
theorem iaC_all {p : Nat → Nat → Prop} (h : ∀ q n, (q, n) ∈ ([(7, 8), (8, 8), (9, 8), (10, 8), (11, 40), (12, 60), (13, 60), (14, 60), (16, 256), (17, 256), (18, 2048), (19, 256), (20, 256), (21, 256), (22, 8), (23, 181), (24, 24), (25, 24), (27, 8), (28, 9), (33, 40), (34, 40), (35, 40), (36, 40)] : List (Nat × Nat)) → p q n) {q n : Nat} (hq : iaC q n = true) : p q n := h q n (of_decide_eq_true hq)
theorem wC_ia {a : Nat → Nat} {b : Nat → ClassId} {S : XSt} {q n : Nat} (hq : iaC q n = true) : (wC a b S)[q]? = some (a q, .inl (b q, n, .inl (S q))) := by
  have h := of_decide_eq_true hq
  simp only [List.mem_cons, Prod.mk.injEq, List.not_mem_nil, or_false] at h
  rcases h with ⟨rfl, rfl⟩ | ⟨rfl, rfl⟩ | ⟨rfl, rfl⟩ | ⟨rfl, rfl⟩ | ⟨rfl, rfl⟩ | ⟨rfl, rfl⟩ | ⟨rfl, rfl⟩ | ⟨rfl, rfl⟩ | ⟨rfl, rfl⟩ | ⟨rfl, rfl⟩ | ⟨rfl, rfl⟩ | ⟨rfl, rfl⟩ | ⟨rfl, rfl⟩ | ⟨rfl, rfl⟩ | ⟨rfl, rfl⟩ | ⟨rfl, rfl⟩ | ⟨rfl, rfl⟩ | ⟨rfl, rfl⟩ | ⟨rfl, rfl⟩ | ⟨rfl, rfl⟩ | ⟨rfl, rfl⟩ | ⟨rfl, rfl⟩ | ⟨rfl, rfl⟩ | ⟨rfl, rfl⟩ <;> rfl
theorem wC_ty {b : Nat → ClassId} {q n : Nat} (hq : iaC q n = true) : (tyC b)[tpC q]? = some (b q, .int) := by
  have h := of_decide_eq_true hq
  simp only [List.mem_cons, Prod.mk.injEq, List.not_mem_nil, or_false] at h
  rcases h with ⟨rfl, rfl⟩ | ⟨rfl, rfl⟩ | ⟨rfl, rfl⟩ | ⟨rfl, rfl⟩ | ⟨rfl, rfl⟩ | ⟨rfl, rfl⟩ | ⟨rfl, rfl⟩ | ⟨rfl, rfl⟩ | ⟨rfl, rfl⟩ | ⟨rfl, rfl⟩ | ⟨rfl, rfl⟩ | ⟨rfl, rfl⟩ | ⟨rfl, rfl⟩ | ⟨rfl, rfl⟩ | ⟨rfl, rfl⟩ | ⟨rfl, rfl⟩ | ⟨rfl, rfl⟩ | ⟨rfl, rfl⟩ | ⟨rfl, rfl⟩ | ⟨rfl, rfl⟩ | ⟨rfl, rfl⟩ | ⟨rfl, rfl⟩ | ⟨rfl, rfl⟩ | ⟨rfl, rfl⟩ <;> rfl
theorem wC_set {a : Nat → Nat} {b : Nat → ClassId} {S : XSt} {q n i : Nat} {x : Int32} (hq : iaC q n = true) : (wC a b S).set q (a q, .inl (b q, n, .inl (upd (S q) i x))) = wC a b (xst S q i x) := by
  have h := of_decide_eq_true hq
  simp only [List.mem_cons, Prod.mk.injEq, List.not_mem_nil, or_false] at h
  rcases h with ⟨rfl, rfl⟩ | ⟨rfl, rfl⟩ | ⟨rfl, rfl⟩ | ⟨rfl, rfl⟩ | ⟨rfl, rfl⟩ | ⟨rfl, rfl⟩ | ⟨rfl, rfl⟩ | ⟨rfl, rfl⟩ | ⟨rfl, rfl⟩ | ⟨rfl, rfl⟩ | ⟨rfl, rfl⟩ | ⟨rfl, rfl⟩ | ⟨rfl, rfl⟩ | ⟨rfl, rfl⟩ | ⟨rfl, rfl⟩ | ⟨rfl, rfl⟩ | ⟨rfl, rfl⟩ | ⟨rfl, rfl⟩ | ⟨rfl, rfl⟩ | ⟨rfl, rfl⟩ | ⟨rfl, rfl⟩ | ⟨rfl, rfl⟩ | ⟨rfl, rfl⟩ | ⟨rfl, rfl⟩ <;> rfl
def shC (q : Nat) : Bool := decide (q ∈ ([29, 30, 31, 32] : List Nat))
theorem shC_items {q : Nat} (h : shC q = true) : iaC (q + 4) 40 = true := by
  have h := of_decide_eq_true h
  simp only [List.mem_cons, List.not_mem_nil, or_false] at h
  rcases h with rfl | rfl | rfl | rfl <;> rfl
theorem shC_of {i : Int32} (h : xin i 4 = true) : shC (29 + xti i) = true := by
  have h := xin_in h
  have h4 : i.toNatClampNeg < 4 := Nat.not_le.mp fun q => h (Or.inr q)
  unfold xti
  generalize i.toNatClampNeg = n at h4 ⊢
  have h5 : n = 0 ∨ n = 1 ∨ n = 2 ∨ n = 3 := by omega
  rcases h5 with rfl | rfl | rfl | rfl <;> rfl
theorem wC_sh {a : Nat → Nat} {b : Nat → ClassId} {S : XSt} {q : Nat} (h : shC q = true) : (wC a b S)[q]? = some (a q, .inr (4, [.ref (a (q + 4)), .int (S q 1), .int (S q 2), .int (S q 3)])) := by
  have h := of_decide_eq_true h
  simp only [List.mem_cons, List.not_mem_nil, or_false] at h
  rcases h with rfl | rfl | rfl | rfl <;> rfl
theorem wC_shset1 {a : Nat → Nat} {b : Nat → ClassId} {S : XSt} {q : Nat} {v : Int32} (h : shC q = true) : (wC a b S).set q (a q, .inr (4, ([.ref (a (q + 4)), .int (S q 1), .int (S q 2), .int (S q 3)] : List Value).set 1 (.int v))) = wC a b (xst S q 1 v) := by
  have h := of_decide_eq_true h
  simp only [List.mem_cons, List.not_mem_nil, or_false] at h
  rcases h with rfl | rfl | rfl | rfl <;> rfl
theorem wC_shset2 {a : Nat → Nat} {b : Nat → ClassId} {S : XSt} {q : Nat} {v : Int32} (h : shC q = true) : (wC a b S).set q (a q, .inr (4, ([.ref (a (q + 4)), .int (S q 1), .int (S q 2), .int (S q 3)] : List Value).set 2 (.int v))) = wC a b (xst S q 2 v) := by
  have h := of_decide_eq_true h
  simp only [List.mem_cons, List.not_mem_nil, or_false] at h
  rcases h with rfl | rfl | rfl | rfl <;> rfl
theorem wC_shset3 {a : Nat → Nat} {b : Nat → ClassId} {S : XSt} {q : Nat} {v : Int32} (h : shC q = true) : (wC a b S).set q (a q, .inr (4, ([.ref (a (q + 4)), .int (S q 1), .int (S q 2), .int (S q 3)] : List Value).set 3 (.int v))) = wC a b (xst S q 3 v) := by
  have h := of_decide_eq_true h
  simp only [List.mem_cons, List.not_mem_nil, or_false] at h
  rcases h with rfl | rfl | rfl | rfl <;> rfl
section XWC
variable {D : va_G} {a : Nat → Nat} {b : Nat → ClassId} {Γ : XG XSt} {cc : ByteArray} {own : String} {ret : Option FieldType} {l0 : Launch} {rm : Room} {nL0 : Nat} {out0 : Option Value × XSt} {lv : List (Nat × Value)} {vs : List Value} {S : XSt}
theorem c_iald (pc : Nat) (C : Cx (ωC D a b) Γ cc own ret l0 rm nL0 out0) {q n : Nat} {i : Int32} (hq : iaC q n = true) (hin : xin i n = true) (hd : decode cc pc = .ok (.iaload, 1)) (k : XAt (ωC D a b) Γ (pc + 1) lv (.int (S q (xti i)) :: vs) S) : XAt (ωC D a b) Γ pc lv (.int i :: .ref (a q) :: vs) S := x_iald pc C (wC_ia hq) (wC_ty hq) hin hd k
theorem c_iast (pc : Nat) (C : Cx (ωC D a b) Γ cc own ret l0 rm nL0 out0) {q n : Nat} {i x : Int32} (hq : iaC q n = true) (hin : xin i n = true) (hd : decode cc pc = .ok (.iastore, 1)) (k : XAt (ωC D a b) Γ (pc + 1) lv vs (xst S q (xti i) x)) : XAt (ωC D a b) Γ pc lv (.int x :: .int i :: .ref (a q) :: vs) S := x_iast pc C (wC_ia hq) (wC_ty hq) hin (wC_set hq) hd k
theorem c_alen (pc : Nat) (C : Cx (ωC D a b) Γ cc own ret l0 rm nL0 out0) {q n : Nat} (hq : iaC q n = true) (hd : decode cc pc = .ok (.arraylength, 1)) (k : XAt (ωC D a b) Γ (pc + 1) lv (.int (Int32.ofNat n) :: vs) S) : XAt (ωC D a b) Γ pc lv (.ref (a q) :: vs) S := x_alen pc C (wC_ia hq) (wC_ty hq) rfl hd k
theorem c_zald15 (pc : Nat) (C : Cx (ωC D a b) Γ cc own ret l0 rm nL0 out0) {i : Int32} (hin : xin i 60 = true) (hd : decode cc pc = .ok (.baload, 1)) (k : XAt (ωC D a b) Γ (pc + 1) lv (.int (S 15 (xti i)) :: vs) S) : XAt (ωC D a b) Γ pc lv (.int i :: .ref (a 15) :: vs) S := x_zald (q := 15) (t := 9) pc C rfl rfl hin hd k
theorem c_zast15 (pc : Nat) (C : Cx (ωC D a b) Γ cc own ret l0 rm nL0 out0) {i x : Int32} (hin : xin i 60 = true) (hd : decode cc pc = .ok (.bastore, 1)) (k : XAt (ωC D a b) Γ (pc + 1) lv vs (xst S 15 (xti i) (vp_nar .boolean x))) : XAt (ωC D a b) Γ pc lv (.int x :: .int i :: .ref (a 15) :: vs) S := x_zast (q := 15) (t := 9) pc C rfl rfl hin rfl hd k
theorem c_zald26 (pc : Nat) (C : Cx (ωC D a b) Γ cc own ret l0 rm nL0 out0) {i : Int32} (hin : xin i 256 = true) (hd : decode cc pc = .ok (.baload, 1)) (k : XAt (ωC D a b) Γ (pc + 1) lv (.int (S 26 (xti i)) :: vs) S) : XAt (ωC D a b) Γ pc lv (.int i :: .ref (a 26) :: vs) S := x_zald (q := 26) (t := 20) pc C rfl rfl hin hd k
theorem c_zast26 (pc : Nat) (C : Cx (ωC D a b) Γ cc own ret l0 rm nL0 out0) {i x : Int32} (hin : xin i 256 = true) (hd : decode cc pc = .ok (.bastore, 1)) (k : XAt (ωC D a b) Γ (pc + 1) lv vs (xst S 26 (xti i) (vp_nar .boolean x))) : XAt (ωC D a b) Γ pc lv (.int x :: .int i :: .ref (a 26) :: vs) S := x_zast (q := 26) (t := 20) pc C rfl rfl hin rfl hd k
theorem c_aald (pc : Nat) (C : Cx (ωC D a b) Γ cc own ret l0 rm nL0 out0) {i : Int32} (hin : xin i 4 = true) (hd : decode cc pc = .ok (.aaload, 1)) (k : XAt (ωC D a b) Γ (pc + 1) lv (.ref (a (29 + xti i)) :: vs) S) : XAt (ωC D a b) Γ pc lv (.int i :: .ref (a 6) :: vs) S := x_aald (q := 6) (t := 0) pc C rfl rfl hin rfl hd k
theorem gX6_yard (pc : Nat) (C : Cx (ωC D a b) Γ cc own ret l0 rm nL0 out0) {index : Nat} (hl0 : Cond.fieldLink own index "GraveOrder" "yard" "LGraveOrder$Yard;" ∈ xtb) (hd : decode cc pc = .ok (.getfield index, 3)) (k : XAt (ωC D a b) Γ (pc + 3) lv (.ref (a 1) :: vs) S) : XAt (ωC D a b) Γ pc lv (.ref (a 0) :: vs) S := x_get (q := 0) (ci := 6) (k0 := 0) (T := TX6) (N := 8) pc C rfl rfl wiX6 (by decide) rfl hl0 rfl hd k
theorem gX6_line (pc : Nat) (C : Cx (ωC D a b) Γ cc own ret l0 rm nL0 out0) {index : Nat} (hl0 : Cond.fieldLink own index "GraveOrder" "line" "LGraveOrder$Line;" ∈ xtb) (hd : decode cc pc = .ok (.getfield index, 3)) (k : XAt (ωC D a b) Γ (pc + 3) lv (.ref (a 2) :: vs) S) : XAt (ωC D a b) Γ pc lv (.ref (a 0) :: vs) S := x_get (q := 0) (ci := 6) (k0 := 1) (T := TX6) (N := 8) pc C rfl rfl wiX6 (by decide) rfl hl0 rfl hd k
theorem gX6_finds (pc : Nat) (C : Cx (ωC D a b) Γ cc own ret l0 rm nL0 out0) {index : Nat} (hl0 : Cond.fieldLink own index "GraveOrder" "finds" "LGraveOrder$Finds;" ∈ xtb) (hd : decode cc pc = .ok (.getfield index, 3)) (k : XAt (ωC D a b) Γ (pc + 3) lv (.ref (a 3) :: vs) S) : XAt (ωC D a b) Γ pc lv (.ref (a 0) :: vs) S := x_get (q := 0) (ci := 6) (k0 := 2) (T := TX6) (N := 8) pc C rfl rfl wiX6 (by decide) rfl hl0 rfl hd k
theorem gX6_orders (pc : Nat) (C : Cx (ωC D a b) Γ cc own ret l0 rm nL0 out0) {index : Nat} (hl0 : Cond.fieldLink own index "GraveOrder" "orders" "LGraveOrder$Orders;" ∈ xtb) (hd : decode cc pc = .ok (.getfield index, 3)) (k : XAt (ωC D a b) Γ (pc + 3) lv (.ref (a 4) :: vs) S) : XAt (ωC D a b) Γ pc lv (.ref (a 0) :: vs) S := x_get (q := 0) (ci := 6) (k0 := 3) (T := TX6) (N := 8) pc C rfl rfl wiX6 (by decide) rfl hl0 rfl hd k
theorem gX6_firstRow (pc : Nat) (C : Cx (ωC D a b) Γ cc own ret l0 rm nL0 out0) {index : Nat} (hl0 : Cond.fieldLink own index "GraveOrder" "firstRow" "LGraveOrder$FirstRow;" ∈ xtb) (hd : decode cc pc = .ok (.getfield index, 3)) (k : XAt (ωC D a b) Γ (pc + 3) lv (.ref (a 5) :: vs) S) : XAt (ωC D a b) Γ pc lv (.ref (a 0) :: vs) S := x_get (q := 0) (ci := 6) (k0 := 4) (T := TX6) (N := 8) pc C rfl rfl wiX6 (by decide) rfl hl0 rfl hd k
theorem gX6_sheets (pc : Nat) (C : Cx (ωC D a b) Γ cc own ret l0 rm nL0 out0) {index : Nat} (hl0 : Cond.fieldLink own index "GraveOrder" "sheets" "[LGraveOrder$Sheet;" ∈ xtb) (hd : decode cc pc = .ok (.getfield index, 3)) (k : XAt (ωC D a b) Γ (pc + 3) lv (.ref (a 6) :: vs) S) : XAt (ωC D a b) Γ pc lv (.ref (a 0) :: vs) S := x_get (q := 0) (ci := 6) (k0 := 5) (T := TX6) (N := 8) pc C rfl rfl wiX6 (by decide) rfl hl0 rfl hd k
theorem gX6_asOfTime (pc : Nat) (C : Cx (ωC D a b) Γ cc own ret l0 rm nL0 out0) {index : Nat} (hl0 : Cond.fieldLink own index "GraveOrder" "asOfTime" "I" ∈ xtb) (hd : decode cc pc = .ok (.getfield index, 3)) (k : XAt (ωC D a b) Γ (pc + 3) lv (.int (S 0 6) :: vs) S) : XAt (ωC D a b) Γ pc lv (.ref (a 0) :: vs) S := x_get (q := 0) (ci := 6) (k0 := 6) (T := TX6) (N := 8) pc C rfl rfl wiX6 (by decide) rfl hl0 rfl hd k
theorem pX6_asOfTime (pc : Nat) (C : Cx (ωC D a b) Γ cc own ret l0 rm nL0 out0) {index : Nat} {v : Int32} (hl0 : Cond.fieldLink own index "GraveOrder" "asOfTime" "I" ∈ xtb) (hd : decode cc pc = .ok (.putfield index, 3)) (k : XAt (ωC D a b) Γ (pc + 3) lv vs (xst S 0 6 v)) : XAt (ωC D a b) Γ pc lv (.int v :: .ref (a 0) :: vs) S := x_put (q := 0) (ci := 6) (k0 := 6) (T := TX6) (N := 8) (ty0 := tyX6) (ty := .int) pc C rfl rfl wiX6 tyX6_ok nmX6 (by decide) rfl rfl rfl rfl (by simp) rfl hl0 hd k
theorem gX6_latestFinding (pc : Nat) (C : Cx (ωC D a b) Γ cc own ret l0 rm nL0 out0) {index : Nat} (hl0 : Cond.fieldLink own index "GraveOrder" "latestFinding" "I" ∈ xtb) (hd : decode cc pc = .ok (.getfield index, 3)) (k : XAt (ωC D a b) Γ (pc + 3) lv (.int (S 0 7) :: vs) S) : XAt (ωC D a b) Γ pc lv (.ref (a 0) :: vs) S := x_get (q := 0) (ci := 6) (k0 := 7) (T := TX6) (N := 8) pc C rfl rfl wiX6 (by decide) rfl hl0 rfl hd k
theorem pX6_latestFinding (pc : Nat) (C : Cx (ωC D a b) Γ cc own ret l0 rm nL0 out0) {index : Nat} {v : Int32} (hl0 : Cond.fieldLink own index "GraveOrder" "latestFinding" "I" ∈ xtb) (hd : decode cc pc = .ok (.putfield index, 3)) (k : XAt (ωC D a b) Γ (pc + 3) lv vs (xst S 0 7 v)) : XAt (ωC D a b) Γ pc lv (.int v :: .ref (a 0) :: vs) S := x_put (q := 0) (ci := 6) (k0 := 7) (T := TX6) (N := 8) (ty0 := tyX6) (ty := .int) pc C rfl rfl wiX6 tyX6_ok nmX6 (by decide) rfl rfl rfl rfl (by simp) rfl hl0 hd k
theorem gX5_from (pc : Nat) (C : Cx (ωC D a b) Γ cc own ret l0 rm nL0 out0) {index : Nat} (hl0 : Cond.fieldLink own index "GraveOrder$Yard" "from" "[I" ∈ xtb) (hd : decode cc pc = .ok (.getfield index, 3)) (k : XAt (ωC D a b) Γ (pc + 3) lv (.ref (a 7) :: vs) S) : XAt (ωC D a b) Γ pc lv (.ref (a 1) :: vs) S := x_get (q := 1) (ci := 5) (k0 := 0) (T := TX5) (N := 9) pc C rfl rfl wiX5 (by decide) rfl hl0 rfl hd k
theorem gX5_to (pc : Nat) (C : Cx (ωC D a b) Γ cc own ret l0 rm nL0 out0) {index : Nat} (hl0 : Cond.fieldLink own index "GraveOrder$Yard" "to" "[I" ∈ xtb) (hd : decode cc pc = .ok (.getfield index, 3)) (k : XAt (ωC D a b) Γ (pc + 3) lv (.ref (a 8) :: vs) S) : XAt (ωC D a b) Γ pc lv (.ref (a 1) :: vs) S := x_get (q := 1) (ci := 5) (k0 := 1) (T := TX5) (N := 9) pc C rfl rfl wiX5 (by decide) rfl hl0 rfl hd k
theorem gX5_below (pc : Nat) (C : Cx (ωC D a b) Γ cc own ret l0 rm nL0 out0) {index : Nat} (hl0 : Cond.fieldLink own index "GraveOrder$Yard" "below" "[I" ∈ xtb) (hd : decode cc pc = .ok (.getfield index, 3)) (k : XAt (ωC D a b) Γ (pc + 3) lv (.ref (a 9) :: vs) S) : XAt (ωC D a b) Γ pc lv (.ref (a 1) :: vs) S := x_get (q := 1) (ci := 5) (k0 := 2) (T := TX5) (N := 9) pc C rfl rfl wiX5 (by decide) rfl hl0 rfl hd k
theorem gX5_kinds (pc : Nat) (C : Cx (ωC D a b) Γ cc own ret l0 rm nL0 out0) {index : Nat} (hl0 : Cond.fieldLink own index "GraveOrder$Yard" "kinds" "[I" ∈ xtb) (hd : decode cc pc = .ok (.getfield index, 3)) (k : XAt (ωC D a b) Γ (pc + 3) lv (.ref (a 10) :: vs) S) : XAt (ωC D a b) Γ pc lv (.ref (a 1) :: vs) S := x_get (q := 1) (ci := 5) (k0 := 3) (T := TX5) (N := 9) pc C rfl rfl wiX5 (by decide) rfl hl0 rfl hd k
theorem gX5_graves (pc : Nat) (C : Cx (ωC D a b) Γ cc own ret l0 rm nL0 out0) {index : Nat} (hl0 : Cond.fieldLink own index "GraveOrder$Yard" "graves" "I" ∈ xtb) (hd : decode cc pc = .ok (.getfield index, 3)) (k : XAt (ωC D a b) Γ (pc + 3) lv (.int (S 1 4) :: vs) S) : XAt (ωC D a b) Γ pc lv (.ref (a 1) :: vs) S := x_get (q := 1) (ci := 5) (k0 := 4) (T := TX5) (N := 9) pc C rfl rfl wiX5 (by decide) rfl hl0 rfl hd k
theorem pX5_graves (pc : Nat) (C : Cx (ωC D a b) Γ cc own ret l0 rm nL0 out0) {index : Nat} {v : Int32} (hl0 : Cond.fieldLink own index "GraveOrder$Yard" "graves" "I" ∈ xtb) (hd : decode cc pc = .ok (.putfield index, 3)) (k : XAt (ωC D a b) Γ (pc + 3) lv vs (xst S 1 4 v)) : XAt (ωC D a b) Γ pc lv (.int v :: .ref (a 1) :: vs) S := x_put (q := 1) (ci := 5) (k0 := 4) (T := TX5) (N := 9) (ty0 := tyX5) (ty := .int) pc C rfl rfl wiX5 tyX5_ok nmX5 (by decide) rfl rfl rfl rfl (by simp) rfl hl0 hd k
theorem gX5_robbedBits (pc : Nat) (C : Cx (ωC D a b) Γ cc own ret l0 rm nL0 out0) {index : Nat} (hl0 : Cond.fieldLink own index "GraveOrder$Yard" "robbedBits" "I" ∈ xtb) (hd : decode cc pc = .ok (.getfield index, 3)) (k : XAt (ωC D a b) Γ (pc + 3) lv (.int (S 1 5) :: vs) S) : XAt (ωC D a b) Γ pc lv (.ref (a 1) :: vs) S := x_get (q := 1) (ci := 5) (k0 := 5) (T := TX5) (N := 9) pc C rfl rfl wiX5 (by decide) rfl hl0 rfl hd k
theorem pX5_robbedBits (pc : Nat) (C : Cx (ωC D a b) Γ cc own ret l0 rm nL0 out0) {index : Nat} {v : Int32} (hl0 : Cond.fieldLink own index "GraveOrder$Yard" "robbedBits" "I" ∈ xtb) (hd : decode cc pc = .ok (.putfield index, 3)) (k : XAt (ωC D a b) Γ (pc + 3) lv vs (xst S 1 5 v)) : XAt (ωC D a b) Γ pc lv (.int v :: .ref (a 1) :: vs) S := x_put (q := 1) (ci := 5) (k0 := 5) (T := TX5) (N := 9) (ty0 := tyX5) (ty := .int) pc C rfl rfl wiX5 tyX5_ok nmX5 (by decide) rfl rfl rfl rfl (by simp) rfl hl0 hd k
theorem gX5_overs (pc : Nat) (C : Cx (ωC D a b) Γ cc own ret l0 rm nL0 out0) {index : Nat} (hl0 : Cond.fieldLink own index "GraveOrder$Yard" "overs" "I" ∈ xtb) (hd : decode cc pc = .ok (.getfield index, 3)) (k : XAt (ωC D a b) Γ (pc + 3) lv (.int (S 1 6) :: vs) S) : XAt (ωC D a b) Γ pc lv (.ref (a 1) :: vs) S := x_get (q := 1) (ci := 5) (k0 := 6) (T := TX5) (N := 9) pc C rfl rfl wiX5 (by decide) rfl hl0 rfl hd k
theorem pX5_overs (pc : Nat) (C : Cx (ωC D a b) Γ cc own ret l0 rm nL0 out0) {index : Nat} {v : Int32} (hl0 : Cond.fieldLink own index "GraveOrder$Yard" "overs" "I" ∈ xtb) (hd : decode cc pc = .ok (.putfield index, 3)) (k : XAt (ωC D a b) Γ (pc + 3) lv vs (xst S 1 6 v)) : XAt (ωC D a b) Γ pc lv (.int v :: .ref (a 1) :: vs) S := x_put (q := 1) (ci := 5) (k0 := 6) (T := TX5) (N := 9) (ty0 := tyX5) (ty := .int) pc C rfl rfl wiX5 tyX5_ok nmX5 (by decide) rfl rfl rfl rfl (by simp) rfl hl0 hd k
theorem gX5_weightOnes (pc : Nat) (C : Cx (ωC D a b) Γ cc own ret l0 rm nL0 out0) {index : Nat} (hl0 : Cond.fieldLink own index "GraveOrder$Yard" "weightOnes" "I" ∈ xtb) (hd : decode cc pc = .ok (.getfield index, 3)) (k : XAt (ωC D a b) Γ (pc + 3) lv (.int (S 1 7) :: vs) S) : XAt (ωC D a b) Γ pc lv (.ref (a 1) :: vs) S := x_get (q := 1) (ci := 5) (k0 := 7) (T := TX5) (N := 9) pc C rfl rfl wiX5 (by decide) rfl hl0 rfl hd k
theorem pX5_weightOnes (pc : Nat) (C : Cx (ωC D a b) Γ cc own ret l0 rm nL0 out0) {index : Nat} {v : Int32} (hl0 : Cond.fieldLink own index "GraveOrder$Yard" "weightOnes" "I" ∈ xtb) (hd : decode cc pc = .ok (.putfield index, 3)) (k : XAt (ωC D a b) Γ (pc + 3) lv vs (xst S 1 7 v)) : XAt (ωC D a b) Γ pc lv (.int v :: .ref (a 1) :: vs) S := x_put (q := 1) (ci := 5) (k0 := 7) (T := TX5) (N := 9) (ty0 := tyX5) (ty := .int) pc C rfl rfl wiX5 tyX5_ok nmX5 (by decide) rfl rfl rfl rfl (by simp) rfl hl0 hd k
theorem gX5_weightTwos (pc : Nat) (C : Cx (ωC D a b) Γ cc own ret l0 rm nL0 out0) {index : Nat} (hl0 : Cond.fieldLink own index "GraveOrder$Yard" "weightTwos" "I" ∈ xtb) (hd : decode cc pc = .ok (.getfield index, 3)) (k : XAt (ωC D a b) Γ (pc + 3) lv (.int (S 1 8) :: vs) S) : XAt (ωC D a b) Γ pc lv (.ref (a 1) :: vs) S := x_get (q := 1) (ci := 5) (k0 := 8) (T := TX5) (N := 9) pc C rfl rfl wiX5 (by decide) rfl hl0 rfl hd k
theorem pX5_weightTwos (pc : Nat) (C : Cx (ωC D a b) Γ cc own ret l0 rm nL0 out0) {index : Nat} {v : Int32} (hl0 : Cond.fieldLink own index "GraveOrder$Yard" "weightTwos" "I" ∈ xtb) (hd : decode cc pc = .ok (.putfield index, 3)) (k : XAt (ωC D a b) Γ (pc + 3) lv vs (xst S 1 8 v)) : XAt (ωC D a b) Γ pc lv (.int v :: .ref (a 1) :: vs) S := x_put (q := 1) (ci := 5) (k0 := 8) (T := TX5) (N := 9) (ty0 := tyX5) (ty := .int) pc C rfl rfl wiX5 tyX5_ok nmX5 (by decide) rfl rfl rfl rfl (by simp) rfl hl0 hd k
theorem gX2_bytes (pc : Nat) (C : Cx (ωC D a b) Γ cc own ret l0 rm nL0 out0) {index : Nat} (hl0 : Cond.fieldLink own index "GraveOrder$Line" "bytes" "[I" ∈ xtb) (hd : decode cc pc = .ok (.getfield index, 3)) (k : XAt (ωC D a b) Γ (pc + 3) lv (.ref (a 11) :: vs) S) : XAt (ωC D a b) Γ pc lv (.ref (a 2) :: vs) S := x_get (q := 2) (ci := 2) (k0 := 0) (T := TX2) (N := 2) pc C rfl rfl wiX2 (by decide) rfl hl0 rfl hd k
theorem gX2_length (pc : Nat) (C : Cx (ωC D a b) Γ cc own ret l0 rm nL0 out0) {index : Nat} (hl0 : Cond.fieldLink own index "GraveOrder$Line" "length" "I" ∈ xtb) (hd : decode cc pc = .ok (.getfield index, 3)) (k : XAt (ωC D a b) Γ (pc + 3) lv (.int (S 2 1) :: vs) S) : XAt (ωC D a b) Γ pc lv (.ref (a 2) :: vs) S := x_get (q := 2) (ci := 2) (k0 := 1) (T := TX2) (N := 2) pc C rfl rfl wiX2 (by decide) rfl hl0 rfl hd k
theorem pX2_length (pc : Nat) (C : Cx (ωC D a b) Γ cc own ret l0 rm nL0 out0) {index : Nat} {v : Int32} (hl0 : Cond.fieldLink own index "GraveOrder$Line" "length" "I" ∈ xtb) (hd : decode cc pc = .ok (.putfield index, 3)) (k : XAt (ωC D a b) Γ (pc + 3) lv vs (xst S 2 1 v)) : XAt (ωC D a b) Γ pc lv (.int v :: .ref (a 2) :: vs) S := x_put (q := 2) (ci := 2) (k0 := 1) (T := TX2) (N := 2) (ty0 := tyX2) (ty := .int) pc C rfl rfl wiX2 tyX2_ok nmX2 (by decide) rfl rfl rfl rfl (by simp) rfl hl0 hd k
theorem gX0_times (pc : Nat) (C : Cx (ωC D a b) Γ cc own ret l0 rm nL0 out0) {index : Nat} (hl0 : Cond.fieldLink own index "GraveOrder$Finds" "times" "[I" ∈ xtb) (hd : decode cc pc = .ok (.getfield index, 3)) (k : XAt (ωC D a b) Γ (pc + 3) lv (.ref (a 12) :: vs) S) : XAt (ωC D a b) Γ pc lv (.ref (a 3) :: vs) S := x_get (q := 3) (ci := 0) (k0 := 0) (T := TX0) (N := 5) pc C rfl rfl wiX0 (by decide) rfl hl0 rfl hd k
theorem gX0_graves (pc : Nat) (C : Cx (ωC D a b) Γ cc own ret l0 rm nL0 out0) {index : Nat} (hl0 : Cond.fieldLink own index "GraveOrder$Finds" "graves" "[I" ∈ xtb) (hd : decode cc pc = .ok (.getfield index, 3)) (k : XAt (ωC D a b) Γ (pc + 3) lv (.ref (a 13) :: vs) S) : XAt (ωC D a b) Γ pc lv (.ref (a 3) :: vs) S := x_get (q := 3) (ci := 0) (k0 := 1) (T := TX0) (N := 5) pc C rfl rfl wiX0 (by decide) rfl hl0 rfl hd k
theorem gX0_kinds (pc : Nat) (C : Cx (ωC D a b) Γ cc own ret l0 rm nL0 out0) {index : Nat} (hl0 : Cond.fieldLink own index "GraveOrder$Finds" "kinds" "[I" ∈ xtb) (hd : decode cc pc = .ok (.getfield index, 3)) (k : XAt (ωC D a b) Γ (pc + 3) lv (.ref (a 14) :: vs) S) : XAt (ωC D a b) Γ pc lv (.ref (a 3) :: vs) S := x_get (q := 3) (ci := 0) (k0 := 2) (T := TX0) (N := 5) pc C rfl rfl wiX0 (by decide) rfl hl0 rfl hd k
theorem gX0_there (pc : Nat) (C : Cx (ωC D a b) Γ cc own ret l0 rm nL0 out0) {index : Nat} (hl0 : Cond.fieldLink own index "GraveOrder$Finds" "there" "[Z" ∈ xtb) (hd : decode cc pc = .ok (.getfield index, 3)) (k : XAt (ωC D a b) Γ (pc + 3) lv (.ref (a 15) :: vs) S) : XAt (ωC D a b) Γ pc lv (.ref (a 3) :: vs) S := x_get (q := 3) (ci := 0) (k0 := 3) (T := TX0) (N := 5) pc C rfl rfl wiX0 (by decide) rfl hl0 rfl hd k
theorem gX0_size (pc : Nat) (C : Cx (ωC D a b) Γ cc own ret l0 rm nL0 out0) {index : Nat} (hl0 : Cond.fieldLink own index "GraveOrder$Finds" "size" "I" ∈ xtb) (hd : decode cc pc = .ok (.getfield index, 3)) (k : XAt (ωC D a b) Γ (pc + 3) lv (.int (S 3 4) :: vs) S) : XAt (ωC D a b) Γ pc lv (.ref (a 3) :: vs) S := x_get (q := 3) (ci := 0) (k0 := 4) (T := TX0) (N := 5) pc C rfl rfl wiX0 (by decide) rfl hl0 rfl hd k
theorem pX0_size (pc : Nat) (C : Cx (ωC D a b) Γ cc own ret l0 rm nL0 out0) {index : Nat} {v : Int32} (hl0 : Cond.fieldLink own index "GraveOrder$Finds" "size" "I" ∈ xtb) (hd : decode cc pc = .ok (.putfield index, 3)) (k : XAt (ωC D a b) Γ (pc + 3) lv vs (xst S 3 4 v)) : XAt (ωC D a b) Γ pc lv (.int v :: .ref (a 3) :: vs) S := x_put (q := 3) (ci := 0) (k0 := 4) (T := TX0) (N := 5) (ty0 := tyX0) (ty := .int) pc C rfl rfl wiX0 tyX0_ok nmX0 (by decide) rfl rfl rfl rfl (by simp) rfl hl0 hd k
theorem gX3_yard (pc : Nat) (C : Cx (ωC D a b) Γ cc own ret l0 rm nL0 out0) {index : Nat} (hl0 : Cond.fieldLink own index "GraveOrder$Orders" "yard" "LGraveOrder$Yard;" ∈ xtb) (hd : decode cc pc = .ok (.getfield index, 3)) (k : XAt (ωC D a b) Γ (pc + 3) lv (.ref (a 1) :: vs) S) : XAt (ωC D a b) Γ pc lv (.ref (a 4) :: vs) S := x_get (q := 4) (ci := 3) (k0 := 0) (T := TX3) (N := 16) pc C rfl rfl wiX3 (by decide) rfl hl0 rfl hd k
theorem gX3_seen (pc : Nat) (C : Cx (ωC D a b) Γ cc own ret l0 rm nL0 out0) {index : Nat} (hl0 : Cond.fieldLink own index "GraveOrder$Orders" "seen" "[I" ∈ xtb) (hd : decode cc pc = .ok (.getfield index, 3)) (k : XAt (ωC D a b) Γ (pc + 3) lv (.ref (a 16) :: vs) S) : XAt (ωC D a b) Γ pc lv (.ref (a 4) :: vs) S := x_get (q := 4) (ci := 3) (k0 := 1) (T := TX3) (N := 16) pc C rfl rfl wiX3 (by decide) rfl hl0 rfl hd k
theorem gX3_year (pc : Nat) (C : Cx (ωC D a b) Γ cc own ret l0 rm nL0 out0) {index : Nat} (hl0 : Cond.fieldLink own index "GraveOrder$Orders" "year" "[I" ∈ xtb) (hd : decode cc pc = .ok (.getfield index, 3)) (k : XAt (ωC D a b) Γ (pc + 3) lv (.ref (a 17) :: vs) S) : XAt (ωC D a b) Γ pc lv (.ref (a 4) :: vs) S := x_get (q := 4) (ci := 3) (k0 := 2) (T := TX3) (N := 16) pc C rfl rfl wiX3 (by decide) rfl hl0 rfl hd k
theorem gX3_steps (pc : Nat) (C : Cx (ωC D a b) Γ cc own ret l0 rm nL0 out0) {index : Nat} (hl0 : Cond.fieldLink own index "GraveOrder$Orders" "steps" "[I" ∈ xtb) (hd : decode cc pc = .ok (.getfield index, 3)) (k : XAt (ωC D a b) Γ (pc + 3) lv (.ref (a 18) :: vs) S) : XAt (ωC D a b) Γ pc lv (.ref (a 4) :: vs) S := x_get (q := 4) (ci := 3) (k0 := 3) (T := TX3) (N := 16) pc C rfl rfl wiX3 (by decide) rfl hl0 rfl hd k
theorem gX3_ahead (pc : Nat) (C : Cx (ωC D a b) Γ cc own ret l0 rm nL0 out0) {index : Nat} (hl0 : Cond.fieldLink own index "GraveOrder$Orders" "ahead" "[I" ∈ xtb) (hd : decode cc pc = .ok (.getfield index, 3)) (k : XAt (ωC D a b) Γ (pc + 3) lv (.ref (a 19) :: vs) S) : XAt (ωC D a b) Γ pc lv (.ref (a 4) :: vs) S := x_get (q := 4) (ci := 3) (k0 := 4) (T := TX3) (N := 16) pc C rfl rfl wiX3 (by decide) rfl hl0 rfl hd k
theorem gX3_behind (pc : Nat) (C : Cx (ωC D a b) Γ cc own ret l0 rm nL0 out0) {index : Nat} (hl0 : Cond.fieldLink own index "GraveOrder$Orders" "behind" "[I" ∈ xtb) (hd : decode cc pc = .ok (.getfield index, 3)) (k : XAt (ωC D a b) Γ (pc + 3) lv (.ref (a 20) :: vs) S) : XAt (ωC D a b) Γ pc lv (.ref (a 4) :: vs) S := x_get (q := 4) (ci := 3) (k0 := 5) (T := TX3) (N := 16) pc C rfl rfl wiX3 (by decide) rfl hl0 rfl hd k
theorem gX3_ways (pc : Nat) (C : Cx (ωC D a b) Γ cc own ret l0 rm nL0 out0) {index : Nat} (hl0 : Cond.fieldLink own index "GraveOrder$Orders" "ways" "[I" ∈ xtb) (hd : decode cc pc = .ok (.getfield index, 3)) (k : XAt (ωC D a b) Γ (pc + 3) lv (.ref (a 21) :: vs) S) : XAt (ωC D a b) Γ pc lv (.ref (a 4) :: vs) S := x_get (q := 4) (ci := 3) (k0 := 6) (T := TX3) (N := 16) pc C rfl rfl wiX3 (by decide) rfl hl0 rfl hd k
theorem gX3_row (pc : Nat) (C : Cx (ωC D a b) Γ cc own ret l0 rm nL0 out0) {index : Nat} (hl0 : Cond.fieldLink own index "GraveOrder$Orders" "row" "[I" ∈ xtb) (hd : decode cc pc = .ok (.getfield index, 3)) (k : XAt (ωC D a b) Γ (pc + 3) lv (.ref (a 22) :: vs) S) : XAt (ωC D a b) Γ pc lv (.ref (a 4) :: vs) S := x_get (q := 4) (ci := 3) (k0 := 7) (T := TX3) (N := 16) pc C rfl rfl wiX3 (by decide) rfl hl0 rfl hd k
theorem gX3_withGapsRow (pc : Nat) (C : Cx (ωC D a b) Γ cc own ret l0 rm nL0 out0) {index : Nat} (hl0 : Cond.fieldLink own index "GraveOrder$Orders" "withGapsRow" "[I" ∈ xtb) (hd : decode cc pc = .ok (.getfield index, 3)) (k : XAt (ωC D a b) Γ (pc + 3) lv (.ref (a 23) :: vs) S) : XAt (ωC D a b) Γ pc lv (.ref (a 4) :: vs) S := x_get (q := 4) (ci := 3) (k0 := 8) (T := TX3) (N := 16) pc C rfl rfl wiX3 (by decide) rfl hl0 rfl hd k
theorem gX3_firstHalf (pc : Nat) (C : Cx (ωC D a b) Γ cc own ret l0 rm nL0 out0) {index : Nat} (hl0 : Cond.fieldLink own index "GraveOrder$Orders" "firstHalf" "[I" ∈ xtb) (hd : decode cc pc = .ok (.getfield index, 3)) (k : XAt (ωC D a b) Γ (pc + 3) lv (.ref (a 24) :: vs) S) : XAt (ωC D a b) Γ pc lv (.ref (a 4) :: vs) S := x_get (q := 4) (ci := 3) (k0 := 9) (T := TX3) (N := 16) pc C rfl rfl wiX3 (by decide) rfl hl0 rfl hd k
theorem gX3_secondHalf (pc : Nat) (C : Cx (ωC D a b) Γ cc own ret l0 rm nL0 out0) {index : Nat} (hl0 : Cond.fieldLink own index "GraveOrder$Orders" "secondHalf" "[I" ∈ xtb) (hd : decode cc pc = .ok (.getfield index, 3)) (k : XAt (ωC D a b) Γ (pc + 3) lv (.ref (a 25) :: vs) S) : XAt (ωC D a b) Γ pc lv (.ref (a 4) :: vs) S := x_get (q := 4) (ci := 3) (k0 := 10) (T := TX3) (N := 16) pc C rfl rfl wiX3 (by decide) rfl hl0 rfl hd k
theorem gX3_reached (pc : Nat) (C : Cx (ωC D a b) Γ cc own ret l0 rm nL0 out0) {index : Nat} (hl0 : Cond.fieldLink own index "GraveOrder$Orders" "reached" "[Z" ∈ xtb) (hd : decode cc pc = .ok (.getfield index, 3)) (k : XAt (ωC D a b) Γ (pc + 3) lv (.ref (a 26) :: vs) S) : XAt (ωC D a b) Γ pc lv (.ref (a 4) :: vs) S := x_get (q := 4) (ci := 3) (k0 := 11) (T := TX3) (N := 16) pc C rfl rfl wiX3 (by decide) rfl hl0 rfl hd k
theorem gX3_stale (pc : Nat) (C : Cx (ωC D a b) Γ cc own ret l0 rm nL0 out0) {index : Nat} (hl0 : Cond.fieldLink own index "GraveOrder$Orders" "stale" "Z" ∈ xtb) (hd : decode cc pc = .ok (.getfield index, 3)) (k : XAt (ωC D a b) Γ (pc + 3) lv (.int (S 4 12) :: vs) S) : XAt (ωC D a b) Γ pc lv (.ref (a 4) :: vs) S := x_get (q := 4) (ci := 3) (k0 := 12) (T := TX3) (N := 16) pc C rfl rfl wiX3 (by decide) rfl hl0 rfl hd k
theorem pX3_stale (pc : Nat) (C : Cx (ωC D a b) Γ cc own ret l0 rm nL0 out0) {index : Nat} {v : Int32} (hz : xbool v = true) (hl0 : Cond.fieldLink own index "GraveOrder$Orders" "stale" "Z" ∈ xtb) (hd : decode cc pc = .ok (.putfield index, 3)) (k : XAt (ωC D a b) Γ (pc + 3) lv vs (xst S 4 12 v)) : XAt (ωC D a b) Γ pc lv (.int v :: .ref (a 4) :: vs) S := x_put (q := 4) (ci := 3) (k0 := 12) (T := TX3) (N := 16) (ty0 := tyX3) (ty := .boolean) pc C rfl rfl wiX3 tyX3_ok nmX3 (by decide) rfl rfl (xnar hz) (xfit hz) (by simp) rfl hl0 hd k
theorem gX3_spreadStale (pc : Nat) (C : Cx (ωC D a b) Γ cc own ret l0 rm nL0 out0) {index : Nat} (hl0 : Cond.fieldLink own index "GraveOrder$Orders" "spreadStale" "Z" ∈ xtb) (hd : decode cc pc = .ok (.getfield index, 3)) (k : XAt (ωC D a b) Γ (pc + 3) lv (.int (S 4 13) :: vs) S) : XAt (ωC D a b) Γ pc lv (.ref (a 4) :: vs) S := x_get (q := 4) (ci := 3) (k0 := 13) (T := TX3) (N := 16) pc C rfl rfl wiX3 (by decide) rfl hl0 rfl hd k
theorem pX3_spreadStale (pc : Nat) (C : Cx (ωC D a b) Γ cc own ret l0 rm nL0 out0) {index : Nat} {v : Int32} (hz : xbool v = true) (hl0 : Cond.fieldLink own index "GraveOrder$Orders" "spreadStale" "Z" ∈ xtb) (hd : decode cc pc = .ok (.putfield index, 3)) (k : XAt (ωC D a b) Γ (pc + 3) lv vs (xst S 4 13 v)) : XAt (ωC D a b) Γ pc lv (.int v :: .ref (a 4) :: vs) S := x_put (q := 4) (ci := 3) (k0 := 13) (T := TX3) (N := 16) (ty0 := tyX3) (ty := .boolean) pc C rfl rfl wiX3 tyX3_ok nmX3 (by decide) rfl rfl (xnar hz) (xfit hz) (by simp) rfl hl0 hd k
theorem gX3_leftOutStale (pc : Nat) (C : Cx (ωC D a b) Γ cc own ret l0 rm nL0 out0) {index : Nat} (hl0 : Cond.fieldLink own index "GraveOrder$Orders" "leftOutStale" "Z" ∈ xtb) (hd : decode cc pc = .ok (.getfield index, 3)) (k : XAt (ωC D a b) Γ (pc + 3) lv (.int (S 4 14) :: vs) S) : XAt (ωC D a b) Γ pc lv (.ref (a 4) :: vs) S := x_get (q := 4) (ci := 3) (k0 := 14) (T := TX3) (N := 16) pc C rfl rfl wiX3 (by decide) rfl hl0 rfl hd k
theorem pX3_leftOutStale (pc : Nat) (C : Cx (ωC D a b) Γ cc own ret l0 rm nL0 out0) {index : Nat} {v : Int32} (hz : xbool v = true) (hl0 : Cond.fieldLink own index "GraveOrder$Orders" "leftOutStale" "Z" ∈ xtb) (hd : decode cc pc = .ok (.putfield index, 3)) (k : XAt (ωC D a b) Γ (pc + 3) lv vs (xst S 4 14 v)) : XAt (ωC D a b) Γ pc lv (.int v :: .ref (a 4) :: vs) S := x_put (q := 4) (ci := 3) (k0 := 14) (T := TX3) (N := 16) (ty0 := tyX3) (ty := .boolean) pc C rfl rfl wiX3 tyX3_ok nmX3 (by decide) rfl rfl (xnar hz) (xfit hz) (by simp) rfl hl0 hd k
theorem gX3_leftOutBits (pc : Nat) (C : Cx (ωC D a b) Γ cc own ret l0 rm nL0 out0) {index : Nat} (hl0 : Cond.fieldLink own index "GraveOrder$Orders" "leftOutBits" "I" ∈ xtb) (hd : decode cc pc = .ok (.getfield index, 3)) (k : XAt (ωC D a b) Γ (pc + 3) lv (.int (S 4 15) :: vs) S) : XAt (ωC D a b) Γ pc lv (.ref (a 4) :: vs) S := x_get (q := 4) (ci := 3) (k0 := 15) (T := TX3) (N := 16) pc C rfl rfl wiX3 (by decide) rfl hl0 rfl hd k
theorem pX3_leftOutBits (pc : Nat) (C : Cx (ωC D a b) Γ cc own ret l0 rm nL0 out0) {index : Nat} {v : Int32} (hl0 : Cond.fieldLink own index "GraveOrder$Orders" "leftOutBits" "I" ∈ xtb) (hd : decode cc pc = .ok (.putfield index, 3)) (k : XAt (ωC D a b) Γ (pc + 3) lv vs (xst S 4 15 v)) : XAt (ωC D a b) Γ pc lv (.int v :: .ref (a 4) :: vs) S := x_put (q := 4) (ci := 3) (k0 := 15) (T := TX3) (N := 16) (ty0 := tyX3) (ty := .int) pc C rfl rfl wiX3 tyX3_ok nmX3 (by decide) rfl rfl rfl rfl (by simp) rfl hl0 hd k
theorem gX1_yard (pc : Nat) (C : Cx (ωC D a b) Γ cc own ret l0 rm nL0 out0) {index : Nat} (hl0 : Cond.fieldLink own index "GraveOrder$FirstRow" "yard" "LGraveOrder$Yard;" ∈ xtb) (hd : decode cc pc = .ok (.getfield index, 3)) (k : XAt (ωC D a b) Γ (pc + 3) lv (.ref (a 1) :: vs) S) : XAt (ωC D a b) Γ pc lv (.ref (a 5) :: vs) S := x_get (q := 5) (ci := 1) (k0 := 0) (T := TX1) (N := 4) pc C rfl rfl wiX1 (by decide) rfl hl0 rfl hd k
theorem gX1_row (pc : Nat) (C : Cx (ωC D a b) Γ cc own ret l0 rm nL0 out0) {index : Nat} (hl0 : Cond.fieldLink own index "GraveOrder$FirstRow" "row" "[I" ∈ xtb) (hd : decode cc pc = .ok (.getfield index, 3)) (k : XAt (ωC D a b) Γ (pc + 3) lv (.ref (a 22) :: vs) S) : XAt (ωC D a b) Γ pc lv (.ref (a 5) :: vs) S := x_get (q := 5) (ci := 1) (k0 := 1) (T := TX1) (N := 4) pc C rfl rfl wiX1 (by decide) rfl hl0 rfl hd k
theorem gX1_turned (pc : Nat) (C : Cx (ωC D a b) Γ cc own ret l0 rm nL0 out0) {index : Nat} (hl0 : Cond.fieldLink own index "GraveOrder$FirstRow" "turned" "[I" ∈ xtb) (hd : decode cc pc = .ok (.getfield index, 3)) (k : XAt (ωC D a b) Γ (pc + 3) lv (.ref (a 27) :: vs) S) : XAt (ωC D a b) Γ pc lv (.ref (a 5) :: vs) S := x_get (q := 5) (ci := 1) (k0 := 2) (T := TX1) (N := 4) pc C rfl rfl wiX1 (by decide) rfl hl0 rfl hd k
theorem gX1_laid (pc : Nat) (C : Cx (ωC D a b) Γ cc own ret l0 rm nL0 out0) {index : Nat} (hl0 : Cond.fieldLink own index "GraveOrder$FirstRow" "laid" "[I" ∈ xtb) (hd : decode cc pc = .ok (.getfield index, 3)) (k : XAt (ωC D a b) Γ (pc + 3) lv (.ref (a 28) :: vs) S) : XAt (ωC D a b) Γ pc lv (.ref (a 5) :: vs) S := x_get (q := 5) (ci := 1) (k0 := 3) (T := TX1) (N := 4) pc C rfl rfl wiX1 (by decide) rfl hl0 rfl hd k
theorem gX4_items (pc : Nat) (C : Cx (ωC D a b) Γ cc own ret l0 rm nL0 out0) {q index : Nat} (hq : shC q = true) (hl0 : Cond.fieldLink own index "GraveOrder$Sheet" "items" "[I" ∈ xtb) (hd : decode cc pc = .ok (.getfield index, 3)) (k : XAt (ωC D a b) Γ (pc + 3) lv (.ref (a (q + 4)) :: vs) S) : XAt (ωC D a b) Γ pc lv (.ref (a q) :: vs) S := x_get (q := q) (ci := 4) (k0 := 0) (T := TX4) (N := 4) pc C (wC_sh hq) rfl wiX4 (by decide) rfl hl0 rfl hd k
theorem gX4_lost (pc : Nat) (C : Cx (ωC D a b) Γ cc own ret l0 rm nL0 out0) {q index : Nat} (hq : shC q = true) (hl0 : Cond.fieldLink own index "GraveOrder$Sheet" "lost" "Z" ∈ xtb) (hd : decode cc pc = .ok (.getfield index, 3)) (k : XAt (ωC D a b) Γ (pc + 3) lv (.int (S q 1) :: vs) S) : XAt (ωC D a b) Γ pc lv (.ref (a q) :: vs) S := x_get (q := q) (ci := 4) (k0 := 1) (T := TX4) (N := 4) pc C (wC_sh hq) rfl wiX4 (by decide) rfl hl0 rfl hd k
theorem pX4_lost (pc : Nat) (C : Cx (ωC D a b) Γ cc own ret l0 rm nL0 out0) {q index : Nat} {v : Int32} (hq : shC q = true) (hz : xbool v = true) (hl0 : Cond.fieldLink own index "GraveOrder$Sheet" "lost" "Z" ∈ xtb) (hd : decode cc pc = .ok (.putfield index, 3)) (k : XAt (ωC D a b) Γ (pc + 3) lv vs (xst S q 1 v)) : XAt (ωC D a b) Γ pc lv (.int v :: .ref (a q) :: vs) S := x_put (q := q) (ci := 4) (k0 := 1) (T := TX4) (N := 4) (ty0 := tyX4) (ty := .boolean) pc C (wC_sh hq) rfl wiX4 tyX4_ok nmX4 (by decide) rfl rfl (xnar hz) (xfit hz) (by simp) (wC_shset1 hq) hl0 hd k
theorem gX4_form (pc : Nat) (C : Cx (ωC D a b) Γ cc own ret l0 rm nL0 out0) {q index : Nat} (hq : shC q = true) (hl0 : Cond.fieldLink own index "GraveOrder$Sheet" "form" "I" ∈ xtb) (hd : decode cc pc = .ok (.getfield index, 3)) (k : XAt (ωC D a b) Γ (pc + 3) lv (.int (S q 2) :: vs) S) : XAt (ωC D a b) Γ pc lv (.ref (a q) :: vs) S := x_get (q := q) (ci := 4) (k0 := 2) (T := TX4) (N := 4) pc C (wC_sh hq) rfl wiX4 (by decide) rfl hl0 rfl hd k
theorem pX4_form (pc : Nat) (C : Cx (ωC D a b) Γ cc own ret l0 rm nL0 out0) {q index : Nat} {v : Int32} (hq : shC q = true) (hl0 : Cond.fieldLink own index "GraveOrder$Sheet" "form" "I" ∈ xtb) (hd : decode cc pc = .ok (.putfield index, 3)) (k : XAt (ωC D a b) Γ (pc + 3) lv vs (xst S q 2 v)) : XAt (ωC D a b) Γ pc lv (.int v :: .ref (a q) :: vs) S := x_put (q := q) (ci := 4) (k0 := 2) (T := TX4) (N := 4) (ty0 := tyX4) (ty := .int) pc C (wC_sh hq) rfl wiX4 tyX4_ok nmX4 (by decide) rfl rfl rfl rfl (by simp) (wC_shset2 hq) hl0 hd k
theorem gX4_size (pc : Nat) (C : Cx (ωC D a b) Γ cc own ret l0 rm nL0 out0) {q index : Nat} (hq : shC q = true) (hl0 : Cond.fieldLink own index "GraveOrder$Sheet" "size" "I" ∈ xtb) (hd : decode cc pc = .ok (.getfield index, 3)) (k : XAt (ωC D a b) Γ (pc + 3) lv (.int (S q 3) :: vs) S) : XAt (ωC D a b) Γ pc lv (.ref (a q) :: vs) S := x_get (q := q) (ci := 4) (k0 := 3) (T := TX4) (N := 4) pc C (wC_sh hq) rfl wiX4 (by decide) rfl hl0 rfl hd k
theorem pX4_size (pc : Nat) (C : Cx (ωC D a b) Γ cc own ret l0 rm nL0 out0) {q index : Nat} {v : Int32} (hq : shC q = true) (hl0 : Cond.fieldLink own index "GraveOrder$Sheet" "size" "I" ∈ xtb) (hd : decode cc pc = .ok (.putfield index, 3)) (k : XAt (ωC D a b) Γ (pc + 3) lv vs (xst S q 3 v)) : XAt (ωC D a b) Γ pc lv (.int v :: .ref (a q) :: vs) S := x_put (q := q) (ci := 4) (k0 := 3) (T := TX4) (N := 4) (ty0 := tyX4) (ty := .int) pc C (wC_sh hq) rfl wiX4 tyX4_ok nmX4 (by decide) rfl rfl rfl rfl (by simp) (wC_shset3 hq) hl0 hd k
end XWC
end
section
def wR (a : Nat → Nat) (b : Nat → ClassId) (S : XSr) : va_W := [(a 0, .inr (7, [.int (S.1 0 0), .ref (a 1), .ref (a 2), .int (S.1 0 3), .ref (a 3), .int (S.1 0 5), .ref (a 4), .ref (a 5), .int (S.1 0 8), .ref (a 6), .ref (a 7), .ref (a 8), .ref (a 9), .int (S.1 0 13), .int (S.1 0 14), .int (S.1 0 15), .ref (a 10), .int (S.1 0 17), .ref (a 11), .ref (a 12), .ref (a 13), .ref (a 14), .ref (a 15), .int (S.1 0 23), .int (S.1 0 24), .int (S.1 0 25), .long S.2, .ref (a 16), .ref (a 17), .ref (a 18), .ref (a 19), .int (S.1 0 31), .ref (a 20), .ref (a 21), .ref (a 22), .ref (a 23), .ref (a 24), .ref (a 25), .ref (a 26), .int (S.1 0 39)])),
  (a 1, .inl (b 1, 8, .inl (S.1 1))),
  (a 2, .inl (b 2, 8, .inl (S.1 2))),
  (a 3, .inl (b 3, 10, .inl (S.1 3))),
  (a 4, .inl (b 4, 16, .inl (S.1 4))),
  (a 5, .inl (b 5, 16, .inl (S.1 5))),
  (a 6, .inl (b 6, 60, .inl (S.1 6))),
  (a 7, .inl (b 7, 60, .inl (S.1 7))),
  (a 8, .inl (b 8, 60, .inl (S.1 8))),
  (a 9, .inl (b 9, 60, .inl (S.1 9))),
  (a 10, .inl (b 10, 40, .inl (S.1 10))),
  (a 11, .inl (b 11, 40, .inl (S.1 11))),
  (a 12, .inl (b 12, 40, .inl (S.1 12))),
  (a 13, .inl (b 13, 40, .inl (S.1 13))),
  (a 14, .inl (b 14, 8, .inl (S.1 14))),
  (a 15, .inl (b 15, 8, .inl (S.1 15))),
  (a 16, .inl (b 16, 1000, .inl (S.1 16))),
  (a 17, .inl (b 17, 8, .inl (S.1 17))),
  (a 18, .inl (b 18, 8, .inl (S.1 18))),
  (a 19, .inl (b 19, 8, .inl (S.1 19))),
  (a 20, .inl (b 20, 8, .inl (S.1 20))),
  (a 21, .inl (b 21, 8, .inl (S.1 21))),
  (a 22, .inl (b 22, 4, .inl (S.1 22))),
  (a 23, .inl (b 23, 4, .inl (S.1 23))),
  (a 24, .inl (b 24, 4, .inl (S.1 24))),
  (a 25, .inl (b 25, 160, .inl (S.1 25))),
  (a 26, .inl (b 26, 40, .inl (S.1 26)))]
def tyR (b : Nat → ClassId) : List (ClassId × FieldType) := [(b 1, .int), (b 2, .int), (b 3, .int), (b 4, .int), (b 5, .int), (b 6, .int), (b 7, .int), (b 8, .int), (b 9, .int), (b 10, .int), (b 11, .int), (b 12, .int), (b 13, .int), (b 14, .int), (b 15, .int), (b 16, .int), (b 17, .int), (b 18, .int), (b 19, .int), (b 20, .int), (b 21, .int), (b 22, .boolean), (b 23, .int), (b 24, .int), (b 25, .int), (b 26, .int)]
def aR (a : Nat → Nat) : Nat → Prop := fun q => ∃ k, k < 27 ∧ q = a k
def ωR (D : va_G) (a : Nat → Nat) (b : Nat → ClassId) : XW XSr := (D, aR a, tyR b, wR a b)
section XWR
variable {D : va_G} {a : Nat → Nat} {b : Nat → ClassId} {Γ : XG XSr} {cc : ByteArray} {own : String} {ret : Option FieldType} {l0 : Launch} {rm : Room} {nL0 : Nat} {out0 : Option Value × XSr} {lv : List (Nat × Value)} {vs : List Value} {S : XSr}
theorem r_iald1 (pc : Nat) (C : Cx (ωR D a b) Γ cc own ret l0 rm nL0 out0) {i : Int32} (hin : xin i 8 = true) (hd : decode cc pc = .ok (.iaload, 1)) (k : XAt (ωR D a b) Γ (pc + 1) lv (.int (S.1 1 (xti i)) :: vs) S) : XAt (ωR D a b) Γ pc lv (.int i :: .ref (a 1) :: vs) S := x_iald (q := 1) (t := 0) pc C rfl rfl hin hd k
theorem r_iast1 (pc : Nat) (C : Cx (ωR D a b) Γ cc own ret l0 rm nL0 out0) {i x : Int32} (hin : xin i 8 = true) (hd : decode cc pc = .ok (.iastore, 1)) (k : XAt (ωR D a b) Γ (pc + 1) lv vs (xsr S 1 (xti i) x)) : XAt (ωR D a b) Γ pc lv (.int x :: .int i :: .ref (a 1) :: vs) S := x_iast (q := 1) (t := 0) pc C rfl rfl hin rfl hd k
theorem r_iald2 (pc : Nat) (C : Cx (ωR D a b) Γ cc own ret l0 rm nL0 out0) {i : Int32} (hin : xin i 8 = true) (hd : decode cc pc = .ok (.iaload, 1)) (k : XAt (ωR D a b) Γ (pc + 1) lv (.int (S.1 2 (xti i)) :: vs) S) : XAt (ωR D a b) Γ pc lv (.int i :: .ref (a 2) :: vs) S := x_iald (q := 2) (t := 1) pc C rfl rfl hin hd k
theorem r_iast2 (pc : Nat) (C : Cx (ωR D a b) Γ cc own ret l0 rm nL0 out0) {i x : Int32} (hin : xin i 8 = true) (hd : decode cc pc = .ok (.iastore, 1)) (k : XAt (ωR D a b) Γ (pc + 1) lv vs (xsr S 2 (xti i) x)) : XAt (ωR D a b) Γ pc lv (.int x :: .int i :: .ref (a 2) :: vs) S := x_iast (q := 2) (t := 1) pc C rfl rfl hin rfl hd k
theorem r_iald3 (pc : Nat) (C : Cx (ωR D a b) Γ cc own ret l0 rm nL0 out0) {i : Int32} (hin : xin i 10 = true) (hd : decode cc pc = .ok (.iaload, 1)) (k : XAt (ωR D a b) Γ (pc + 1) lv (.int (S.1 3 (xti i)) :: vs) S) : XAt (ωR D a b) Γ pc lv (.int i :: .ref (a 3) :: vs) S := x_iald (q := 3) (t := 2) pc C rfl rfl hin hd k
theorem r_iast3 (pc : Nat) (C : Cx (ωR D a b) Γ cc own ret l0 rm nL0 out0) {i x : Int32} (hin : xin i 10 = true) (hd : decode cc pc = .ok (.iastore, 1)) (k : XAt (ωR D a b) Γ (pc + 1) lv vs (xsr S 3 (xti i) x)) : XAt (ωR D a b) Γ pc lv (.int x :: .int i :: .ref (a 3) :: vs) S := x_iast (q := 3) (t := 2) pc C rfl rfl hin rfl hd k
theorem r_iald4 (pc : Nat) (C : Cx (ωR D a b) Γ cc own ret l0 rm nL0 out0) {i : Int32} (hin : xin i 16 = true) (hd : decode cc pc = .ok (.iaload, 1)) (k : XAt (ωR D a b) Γ (pc + 1) lv (.int (S.1 4 (xti i)) :: vs) S) : XAt (ωR D a b) Γ pc lv (.int i :: .ref (a 4) :: vs) S := x_iald (q := 4) (t := 3) pc C rfl rfl hin hd k
theorem r_iast4 (pc : Nat) (C : Cx (ωR D a b) Γ cc own ret l0 rm nL0 out0) {i x : Int32} (hin : xin i 16 = true) (hd : decode cc pc = .ok (.iastore, 1)) (k : XAt (ωR D a b) Γ (pc + 1) lv vs (xsr S 4 (xti i) x)) : XAt (ωR D a b) Γ pc lv (.int x :: .int i :: .ref (a 4) :: vs) S := x_iast (q := 4) (t := 3) pc C rfl rfl hin rfl hd k
theorem r_iald5 (pc : Nat) (C : Cx (ωR D a b) Γ cc own ret l0 rm nL0 out0) {i : Int32} (hin : xin i 16 = true) (hd : decode cc pc = .ok (.iaload, 1)) (k : XAt (ωR D a b) Γ (pc + 1) lv (.int (S.1 5 (xti i)) :: vs) S) : XAt (ωR D a b) Γ pc lv (.int i :: .ref (a 5) :: vs) S := x_iald (q := 5) (t := 4) pc C rfl rfl hin hd k
theorem r_iast5 (pc : Nat) (C : Cx (ωR D a b) Γ cc own ret l0 rm nL0 out0) {i x : Int32} (hin : xin i 16 = true) (hd : decode cc pc = .ok (.iastore, 1)) (k : XAt (ωR D a b) Γ (pc + 1) lv vs (xsr S 5 (xti i) x)) : XAt (ωR D a b) Γ pc lv (.int x :: .int i :: .ref (a 5) :: vs) S := x_iast (q := 5) (t := 4) pc C rfl rfl hin rfl hd k
theorem r_iald6 (pc : Nat) (C : Cx (ωR D a b) Γ cc own ret l0 rm nL0 out0) {i : Int32} (hin : xin i 60 = true) (hd : decode cc pc = .ok (.iaload, 1)) (k : XAt (ωR D a b) Γ (pc + 1) lv (.int (S.1 6 (xti i)) :: vs) S) : XAt (ωR D a b) Γ pc lv (.int i :: .ref (a 6) :: vs) S := x_iald (q := 6) (t := 5) pc C rfl rfl hin hd k
theorem r_iast6 (pc : Nat) (C : Cx (ωR D a b) Γ cc own ret l0 rm nL0 out0) {i x : Int32} (hin : xin i 60 = true) (hd : decode cc pc = .ok (.iastore, 1)) (k : XAt (ωR D a b) Γ (pc + 1) lv vs (xsr S 6 (xti i) x)) : XAt (ωR D a b) Γ pc lv (.int x :: .int i :: .ref (a 6) :: vs) S := x_iast (q := 6) (t := 5) pc C rfl rfl hin rfl hd k
theorem r_iald7 (pc : Nat) (C : Cx (ωR D a b) Γ cc own ret l0 rm nL0 out0) {i : Int32} (hin : xin i 60 = true) (hd : decode cc pc = .ok (.iaload, 1)) (k : XAt (ωR D a b) Γ (pc + 1) lv (.int (S.1 7 (xti i)) :: vs) S) : XAt (ωR D a b) Γ pc lv (.int i :: .ref (a 7) :: vs) S := x_iald (q := 7) (t := 6) pc C rfl rfl hin hd k
theorem r_iast7 (pc : Nat) (C : Cx (ωR D a b) Γ cc own ret l0 rm nL0 out0) {i x : Int32} (hin : xin i 60 = true) (hd : decode cc pc = .ok (.iastore, 1)) (k : XAt (ωR D a b) Γ (pc + 1) lv vs (xsr S 7 (xti i) x)) : XAt (ωR D a b) Γ pc lv (.int x :: .int i :: .ref (a 7) :: vs) S := x_iast (q := 7) (t := 6) pc C rfl rfl hin rfl hd k
theorem r_iald8 (pc : Nat) (C : Cx (ωR D a b) Γ cc own ret l0 rm nL0 out0) {i : Int32} (hin : xin i 60 = true) (hd : decode cc pc = .ok (.iaload, 1)) (k : XAt (ωR D a b) Γ (pc + 1) lv (.int (S.1 8 (xti i)) :: vs) S) : XAt (ωR D a b) Γ pc lv (.int i :: .ref (a 8) :: vs) S := x_iald (q := 8) (t := 7) pc C rfl rfl hin hd k
theorem r_iast8 (pc : Nat) (C : Cx (ωR D a b) Γ cc own ret l0 rm nL0 out0) {i x : Int32} (hin : xin i 60 = true) (hd : decode cc pc = .ok (.iastore, 1)) (k : XAt (ωR D a b) Γ (pc + 1) lv vs (xsr S 8 (xti i) x)) : XAt (ωR D a b) Γ pc lv (.int x :: .int i :: .ref (a 8) :: vs) S := x_iast (q := 8) (t := 7) pc C rfl rfl hin rfl hd k
theorem r_iald9 (pc : Nat) (C : Cx (ωR D a b) Γ cc own ret l0 rm nL0 out0) {i : Int32} (hin : xin i 60 = true) (hd : decode cc pc = .ok (.iaload, 1)) (k : XAt (ωR D a b) Γ (pc + 1) lv (.int (S.1 9 (xti i)) :: vs) S) : XAt (ωR D a b) Γ pc lv (.int i :: .ref (a 9) :: vs) S := x_iald (q := 9) (t := 8) pc C rfl rfl hin hd k
theorem r_iast9 (pc : Nat) (C : Cx (ωR D a b) Γ cc own ret l0 rm nL0 out0) {i x : Int32} (hin : xin i 60 = true) (hd : decode cc pc = .ok (.iastore, 1)) (k : XAt (ωR D a b) Γ (pc + 1) lv vs (xsr S 9 (xti i) x)) : XAt (ωR D a b) Γ pc lv (.int x :: .int i :: .ref (a 9) :: vs) S := x_iast (q := 9) (t := 8) pc C rfl rfl hin rfl hd k
theorem r_iald10 (pc : Nat) (C : Cx (ωR D a b) Γ cc own ret l0 rm nL0 out0) {i : Int32} (hin : xin i 40 = true) (hd : decode cc pc = .ok (.iaload, 1)) (k : XAt (ωR D a b) Γ (pc + 1) lv (.int (S.1 10 (xti i)) :: vs) S) : XAt (ωR D a b) Γ pc lv (.int i :: .ref (a 10) :: vs) S := x_iald (q := 10) (t := 9) pc C rfl rfl hin hd k
theorem r_iast10 (pc : Nat) (C : Cx (ωR D a b) Γ cc own ret l0 rm nL0 out0) {i x : Int32} (hin : xin i 40 = true) (hd : decode cc pc = .ok (.iastore, 1)) (k : XAt (ωR D a b) Γ (pc + 1) lv vs (xsr S 10 (xti i) x)) : XAt (ωR D a b) Γ pc lv (.int x :: .int i :: .ref (a 10) :: vs) S := x_iast (q := 10) (t := 9) pc C rfl rfl hin rfl hd k
theorem r_iald11 (pc : Nat) (C : Cx (ωR D a b) Γ cc own ret l0 rm nL0 out0) {i : Int32} (hin : xin i 40 = true) (hd : decode cc pc = .ok (.iaload, 1)) (k : XAt (ωR D a b) Γ (pc + 1) lv (.int (S.1 11 (xti i)) :: vs) S) : XAt (ωR D a b) Γ pc lv (.int i :: .ref (a 11) :: vs) S := x_iald (q := 11) (t := 10) pc C rfl rfl hin hd k
theorem r_iast11 (pc : Nat) (C : Cx (ωR D a b) Γ cc own ret l0 rm nL0 out0) {i x : Int32} (hin : xin i 40 = true) (hd : decode cc pc = .ok (.iastore, 1)) (k : XAt (ωR D a b) Γ (pc + 1) lv vs (xsr S 11 (xti i) x)) : XAt (ωR D a b) Γ pc lv (.int x :: .int i :: .ref (a 11) :: vs) S := x_iast (q := 11) (t := 10) pc C rfl rfl hin rfl hd k
theorem r_iald12 (pc : Nat) (C : Cx (ωR D a b) Γ cc own ret l0 rm nL0 out0) {i : Int32} (hin : xin i 40 = true) (hd : decode cc pc = .ok (.iaload, 1)) (k : XAt (ωR D a b) Γ (pc + 1) lv (.int (S.1 12 (xti i)) :: vs) S) : XAt (ωR D a b) Γ pc lv (.int i :: .ref (a 12) :: vs) S := x_iald (q := 12) (t := 11) pc C rfl rfl hin hd k
theorem r_iast12 (pc : Nat) (C : Cx (ωR D a b) Γ cc own ret l0 rm nL0 out0) {i x : Int32} (hin : xin i 40 = true) (hd : decode cc pc = .ok (.iastore, 1)) (k : XAt (ωR D a b) Γ (pc + 1) lv vs (xsr S 12 (xti i) x)) : XAt (ωR D a b) Γ pc lv (.int x :: .int i :: .ref (a 12) :: vs) S := x_iast (q := 12) (t := 11) pc C rfl rfl hin rfl hd k
theorem r_iald13 (pc : Nat) (C : Cx (ωR D a b) Γ cc own ret l0 rm nL0 out0) {i : Int32} (hin : xin i 40 = true) (hd : decode cc pc = .ok (.iaload, 1)) (k : XAt (ωR D a b) Γ (pc + 1) lv (.int (S.1 13 (xti i)) :: vs) S) : XAt (ωR D a b) Γ pc lv (.int i :: .ref (a 13) :: vs) S := x_iald (q := 13) (t := 12) pc C rfl rfl hin hd k
theorem r_iast13 (pc : Nat) (C : Cx (ωR D a b) Γ cc own ret l0 rm nL0 out0) {i x : Int32} (hin : xin i 40 = true) (hd : decode cc pc = .ok (.iastore, 1)) (k : XAt (ωR D a b) Γ (pc + 1) lv vs (xsr S 13 (xti i) x)) : XAt (ωR D a b) Γ pc lv (.int x :: .int i :: .ref (a 13) :: vs) S := x_iast (q := 13) (t := 12) pc C rfl rfl hin rfl hd k
theorem r_iald14 (pc : Nat) (C : Cx (ωR D a b) Γ cc own ret l0 rm nL0 out0) {i : Int32} (hin : xin i 8 = true) (hd : decode cc pc = .ok (.iaload, 1)) (k : XAt (ωR D a b) Γ (pc + 1) lv (.int (S.1 14 (xti i)) :: vs) S) : XAt (ωR D a b) Γ pc lv (.int i :: .ref (a 14) :: vs) S := x_iald (q := 14) (t := 13) pc C rfl rfl hin hd k
theorem r_iast14 (pc : Nat) (C : Cx (ωR D a b) Γ cc own ret l0 rm nL0 out0) {i x : Int32} (hin : xin i 8 = true) (hd : decode cc pc = .ok (.iastore, 1)) (k : XAt (ωR D a b) Γ (pc + 1) lv vs (xsr S 14 (xti i) x)) : XAt (ωR D a b) Γ pc lv (.int x :: .int i :: .ref (a 14) :: vs) S := x_iast (q := 14) (t := 13) pc C rfl rfl hin rfl hd k
theorem r_iald15 (pc : Nat) (C : Cx (ωR D a b) Γ cc own ret l0 rm nL0 out0) {i : Int32} (hin : xin i 8 = true) (hd : decode cc pc = .ok (.iaload, 1)) (k : XAt (ωR D a b) Γ (pc + 1) lv (.int (S.1 15 (xti i)) :: vs) S) : XAt (ωR D a b) Γ pc lv (.int i :: .ref (a 15) :: vs) S := x_iald (q := 15) (t := 14) pc C rfl rfl hin hd k
theorem r_iast15 (pc : Nat) (C : Cx (ωR D a b) Γ cc own ret l0 rm nL0 out0) {i x : Int32} (hin : xin i 8 = true) (hd : decode cc pc = .ok (.iastore, 1)) (k : XAt (ωR D a b) Γ (pc + 1) lv vs (xsr S 15 (xti i) x)) : XAt (ωR D a b) Γ pc lv (.int x :: .int i :: .ref (a 15) :: vs) S := x_iast (q := 15) (t := 14) pc C rfl rfl hin rfl hd k
theorem r_iald16 (pc : Nat) (C : Cx (ωR D a b) Γ cc own ret l0 rm nL0 out0) {i : Int32} (hin : xin i 1000 = true) (hd : decode cc pc = .ok (.iaload, 1)) (k : XAt (ωR D a b) Γ (pc + 1) lv (.int (S.1 16 (xti i)) :: vs) S) : XAt (ωR D a b) Γ pc lv (.int i :: .ref (a 16) :: vs) S := x_iald (q := 16) (t := 15) pc C rfl rfl hin hd k
theorem r_iast16 (pc : Nat) (C : Cx (ωR D a b) Γ cc own ret l0 rm nL0 out0) {i x : Int32} (hin : xin i 1000 = true) (hd : decode cc pc = .ok (.iastore, 1)) (k : XAt (ωR D a b) Γ (pc + 1) lv vs (xsr S 16 (xti i) x)) : XAt (ωR D a b) Γ pc lv (.int x :: .int i :: .ref (a 16) :: vs) S := x_iast (q := 16) (t := 15) pc C rfl rfl hin rfl hd k
theorem r_iald17 (pc : Nat) (C : Cx (ωR D a b) Γ cc own ret l0 rm nL0 out0) {i : Int32} (hin : xin i 8 = true) (hd : decode cc pc = .ok (.iaload, 1)) (k : XAt (ωR D a b) Γ (pc + 1) lv (.int (S.1 17 (xti i)) :: vs) S) : XAt (ωR D a b) Γ pc lv (.int i :: .ref (a 17) :: vs) S := x_iald (q := 17) (t := 16) pc C rfl rfl hin hd k
theorem r_iast17 (pc : Nat) (C : Cx (ωR D a b) Γ cc own ret l0 rm nL0 out0) {i x : Int32} (hin : xin i 8 = true) (hd : decode cc pc = .ok (.iastore, 1)) (k : XAt (ωR D a b) Γ (pc + 1) lv vs (xsr S 17 (xti i) x)) : XAt (ωR D a b) Γ pc lv (.int x :: .int i :: .ref (a 17) :: vs) S := x_iast (q := 17) (t := 16) pc C rfl rfl hin rfl hd k
theorem r_iald18 (pc : Nat) (C : Cx (ωR D a b) Γ cc own ret l0 rm nL0 out0) {i : Int32} (hin : xin i 8 = true) (hd : decode cc pc = .ok (.iaload, 1)) (k : XAt (ωR D a b) Γ (pc + 1) lv (.int (S.1 18 (xti i)) :: vs) S) : XAt (ωR D a b) Γ pc lv (.int i :: .ref (a 18) :: vs) S := x_iald (q := 18) (t := 17) pc C rfl rfl hin hd k
theorem r_iast18 (pc : Nat) (C : Cx (ωR D a b) Γ cc own ret l0 rm nL0 out0) {i x : Int32} (hin : xin i 8 = true) (hd : decode cc pc = .ok (.iastore, 1)) (k : XAt (ωR D a b) Γ (pc + 1) lv vs (xsr S 18 (xti i) x)) : XAt (ωR D a b) Γ pc lv (.int x :: .int i :: .ref (a 18) :: vs) S := x_iast (q := 18) (t := 17) pc C rfl rfl hin rfl hd k
theorem r_iald19 (pc : Nat) (C : Cx (ωR D a b) Γ cc own ret l0 rm nL0 out0) {i : Int32} (hin : xin i 8 = true) (hd : decode cc pc = .ok (.iaload, 1)) (k : XAt (ωR D a b) Γ (pc + 1) lv (.int (S.1 19 (xti i)) :: vs) S) : XAt (ωR D a b) Γ pc lv (.int i :: .ref (a 19) :: vs) S := x_iald (q := 19) (t := 18) pc C rfl rfl hin hd k
theorem r_iast19 (pc : Nat) (C : Cx (ωR D a b) Γ cc own ret l0 rm nL0 out0) {i x : Int32} (hin : xin i 8 = true) (hd : decode cc pc = .ok (.iastore, 1)) (k : XAt (ωR D a b) Γ (pc + 1) lv vs (xsr S 19 (xti i) x)) : XAt (ωR D a b) Γ pc lv (.int x :: .int i :: .ref (a 19) :: vs) S := x_iast (q := 19) (t := 18) pc C rfl rfl hin rfl hd k
theorem r_iald20 (pc : Nat) (C : Cx (ωR D a b) Γ cc own ret l0 rm nL0 out0) {i : Int32} (hin : xin i 8 = true) (hd : decode cc pc = .ok (.iaload, 1)) (k : XAt (ωR D a b) Γ (pc + 1) lv (.int (S.1 20 (xti i)) :: vs) S) : XAt (ωR D a b) Γ pc lv (.int i :: .ref (a 20) :: vs) S := x_iald (q := 20) (t := 19) pc C rfl rfl hin hd k
theorem r_iast20 (pc : Nat) (C : Cx (ωR D a b) Γ cc own ret l0 rm nL0 out0) {i x : Int32} (hin : xin i 8 = true) (hd : decode cc pc = .ok (.iastore, 1)) (k : XAt (ωR D a b) Γ (pc + 1) lv vs (xsr S 20 (xti i) x)) : XAt (ωR D a b) Γ pc lv (.int x :: .int i :: .ref (a 20) :: vs) S := x_iast (q := 20) (t := 19) pc C rfl rfl hin rfl hd k
theorem r_iald21 (pc : Nat) (C : Cx (ωR D a b) Γ cc own ret l0 rm nL0 out0) {i : Int32} (hin : xin i 8 = true) (hd : decode cc pc = .ok (.iaload, 1)) (k : XAt (ωR D a b) Γ (pc + 1) lv (.int (S.1 21 (xti i)) :: vs) S) : XAt (ωR D a b) Γ pc lv (.int i :: .ref (a 21) :: vs) S := x_iald (q := 21) (t := 20) pc C rfl rfl hin hd k
theorem r_iast21 (pc : Nat) (C : Cx (ωR D a b) Γ cc own ret l0 rm nL0 out0) {i x : Int32} (hin : xin i 8 = true) (hd : decode cc pc = .ok (.iastore, 1)) (k : XAt (ωR D a b) Γ (pc + 1) lv vs (xsr S 21 (xti i) x)) : XAt (ωR D a b) Γ pc lv (.int x :: .int i :: .ref (a 21) :: vs) S := x_iast (q := 21) (t := 20) pc C rfl rfl hin rfl hd k
theorem r_zald22 (pc : Nat) (C : Cx (ωR D a b) Γ cc own ret l0 rm nL0 out0) {i : Int32} (hin : xin i 4 = true) (hd : decode cc pc = .ok (.baload, 1)) (k : XAt (ωR D a b) Γ (pc + 1) lv (.int (S.1 22 (xti i)) :: vs) S) : XAt (ωR D a b) Γ pc lv (.int i :: .ref (a 22) :: vs) S := x_zald (q := 22) (t := 21) pc C rfl rfl hin hd k
theorem r_zast22 (pc : Nat) (C : Cx (ωR D a b) Γ cc own ret l0 rm nL0 out0) {i x : Int32} (hin : xin i 4 = true) (hd : decode cc pc = .ok (.bastore, 1)) (k : XAt (ωR D a b) Γ (pc + 1) lv vs (xsr S 22 (xti i) (vp_nar .boolean x))) : XAt (ωR D a b) Γ pc lv (.int x :: .int i :: .ref (a 22) :: vs) S := x_zast (q := 22) (t := 21) pc C rfl rfl hin rfl hd k
theorem r_iald23 (pc : Nat) (C : Cx (ωR D a b) Γ cc own ret l0 rm nL0 out0) {i : Int32} (hin : xin i 4 = true) (hd : decode cc pc = .ok (.iaload, 1)) (k : XAt (ωR D a b) Γ (pc + 1) lv (.int (S.1 23 (xti i)) :: vs) S) : XAt (ωR D a b) Γ pc lv (.int i :: .ref (a 23) :: vs) S := x_iald (q := 23) (t := 22) pc C rfl rfl hin hd k
theorem r_iast23 (pc : Nat) (C : Cx (ωR D a b) Γ cc own ret l0 rm nL0 out0) {i x : Int32} (hin : xin i 4 = true) (hd : decode cc pc = .ok (.iastore, 1)) (k : XAt (ωR D a b) Γ (pc + 1) lv vs (xsr S 23 (xti i) x)) : XAt (ωR D a b) Γ pc lv (.int x :: .int i :: .ref (a 23) :: vs) S := x_iast (q := 23) (t := 22) pc C rfl rfl hin rfl hd k
theorem r_iald24 (pc : Nat) (C : Cx (ωR D a b) Γ cc own ret l0 rm nL0 out0) {i : Int32} (hin : xin i 4 = true) (hd : decode cc pc = .ok (.iaload, 1)) (k : XAt (ωR D a b) Γ (pc + 1) lv (.int (S.1 24 (xti i)) :: vs) S) : XAt (ωR D a b) Γ pc lv (.int i :: .ref (a 24) :: vs) S := x_iald (q := 24) (t := 23) pc C rfl rfl hin hd k
theorem r_iast24 (pc : Nat) (C : Cx (ωR D a b) Γ cc own ret l0 rm nL0 out0) {i x : Int32} (hin : xin i 4 = true) (hd : decode cc pc = .ok (.iastore, 1)) (k : XAt (ωR D a b) Γ (pc + 1) lv vs (xsr S 24 (xti i) x)) : XAt (ωR D a b) Γ pc lv (.int x :: .int i :: .ref (a 24) :: vs) S := x_iast (q := 24) (t := 23) pc C rfl rfl hin rfl hd k
theorem r_iald25 (pc : Nat) (C : Cx (ωR D a b) Γ cc own ret l0 rm nL0 out0) {i : Int32} (hin : xin i 160 = true) (hd : decode cc pc = .ok (.iaload, 1)) (k : XAt (ωR D a b) Γ (pc + 1) lv (.int (S.1 25 (xti i)) :: vs) S) : XAt (ωR D a b) Γ pc lv (.int i :: .ref (a 25) :: vs) S := x_iald (q := 25) (t := 24) pc C rfl rfl hin hd k
theorem r_iast25 (pc : Nat) (C : Cx (ωR D a b) Γ cc own ret l0 rm nL0 out0) {i x : Int32} (hin : xin i 160 = true) (hd : decode cc pc = .ok (.iastore, 1)) (k : XAt (ωR D a b) Γ (pc + 1) lv vs (xsr S 25 (xti i) x)) : XAt (ωR D a b) Γ pc lv (.int x :: .int i :: .ref (a 25) :: vs) S := x_iast (q := 25) (t := 24) pc C rfl rfl hin rfl hd k
theorem r_iald26 (pc : Nat) (C : Cx (ωR D a b) Γ cc own ret l0 rm nL0 out0) {i : Int32} (hin : xin i 40 = true) (hd : decode cc pc = .ok (.iaload, 1)) (k : XAt (ωR D a b) Γ (pc + 1) lv (.int (S.1 26 (xti i)) :: vs) S) : XAt (ωR D a b) Γ pc lv (.int i :: .ref (a 26) :: vs) S := x_iald (q := 26) (t := 25) pc C rfl rfl hin hd k
theorem r_iast26 (pc : Nat) (C : Cx (ωR D a b) Γ cc own ret l0 rm nL0 out0) {i x : Int32} (hin : xin i 40 = true) (hd : decode cc pc = .ok (.iastore, 1)) (k : XAt (ωR D a b) Γ (pc + 1) lv vs (xsr S 26 (xti i) x)) : XAt (ωR D a b) Γ pc lv (.int x :: .int i :: .ref (a 26) :: vs) S := x_iast (q := 26) (t := 25) pc C rfl rfl hin rfl hd k
theorem gX7_graves (pc : Nat) (C : Cx (ωR D a b) Γ cc own ret l0 rm nL0 out0) {index : Nat} (hl0 : Cond.fieldLink own index "GraveOrderModel" "graves" "I" ∈ xtb) (hd : decode cc pc = .ok (.getfield index, 3)) (k : XAt (ωR D a b) Γ (pc + 3) lv (.int (S.1 0 0) :: vs) S) : XAt (ωR D a b) Γ pc lv (.ref (a 0) :: vs) S := x_get (q := 0) (ci := 7) (k0 := 0) (T := TX7) (N := 40) pc C rfl rfl wiX7 (by decide) rfl hl0 rfl hd k
theorem pX7_graves (pc : Nat) (C : Cx (ωR D a b) Γ cc own ret l0 rm nL0 out0) {index : Nat} {v : Int32} (hl0 : Cond.fieldLink own index "GraveOrderModel" "graves" "I" ∈ xtb) (hd : decode cc pc = .ok (.putfield index, 3)) (k : XAt (ωR D a b) Γ (pc + 3) lv vs (xsr S 0 0 v)) : XAt (ωR D a b) Γ pc lv (.int v :: .ref (a 0) :: vs) S := x_put (q := 0) (ci := 7) (k0 := 0) (T := TX7) (N := 40) (ty0 := tyX7) (ty := .int) pc C rfl rfl wiX7 tyX7_ok nmX7 (by decide) rfl rfl rfl rfl (by simp) rfl hl0 hd k
theorem gX7_from (pc : Nat) (C : Cx (ωR D a b) Γ cc own ret l0 rm nL0 out0) {index : Nat} (hl0 : Cond.fieldLink own index "GraveOrderModel" "from" "[I" ∈ xtb) (hd : decode cc pc = .ok (.getfield index, 3)) (k : XAt (ωR D a b) Γ (pc + 3) lv (.ref (a 1) :: vs) S) : XAt (ωR D a b) Γ pc lv (.ref (a 0) :: vs) S := x_get (q := 0) (ci := 7) (k0 := 1) (T := TX7) (N := 40) pc C rfl rfl wiX7 (by decide) rfl hl0 rfl hd k
theorem gX7_to (pc : Nat) (C : Cx (ωR D a b) Γ cc own ret l0 rm nL0 out0) {index : Nat} (hl0 : Cond.fieldLink own index "GraveOrderModel" "to" "[I" ∈ xtb) (hd : decode cc pc = .ok (.getfield index, 3)) (k : XAt (ωR D a b) Γ (pc + 3) lv (.ref (a 2) :: vs) S) : XAt (ωR D a b) Γ pc lv (.ref (a 0) :: vs) S := x_get (q := 0) (ci := 7) (k0 := 2) (T := TX7) (N := 40) pc C rfl rfl wiX7 (by decide) rfl hl0 rfl hd k
theorem gX7_robbers (pc : Nat) (C : Cx (ωR D a b) Γ cc own ret l0 rm nL0 out0) {index : Nat} (hl0 : Cond.fieldLink own index "GraveOrderModel" "robbers" "I" ∈ xtb) (hd : decode cc pc = .ok (.getfield index, 3)) (k : XAt (ωR D a b) Γ (pc + 3) lv (.int (S.1 0 3) :: vs) S) : XAt (ωR D a b) Γ pc lv (.ref (a 0) :: vs) S := x_get (q := 0) (ci := 7) (k0 := 3) (T := TX7) (N := 40) pc C rfl rfl wiX7 (by decide) rfl hl0 rfl hd k
theorem pX7_robbers (pc : Nat) (C : Cx (ωR D a b) Γ cc own ret l0 rm nL0 out0) {index : Nat} {v : Int32} (hl0 : Cond.fieldLink own index "GraveOrderModel" "robbers" "I" ∈ xtb) (hd : decode cc pc = .ok (.putfield index, 3)) (k : XAt (ωR D a b) Γ (pc + 3) lv vs (xsr S 0 3 v)) : XAt (ωR D a b) Γ pc lv (.int v :: .ref (a 0) :: vs) S := x_put (q := 0) (ci := 7) (k0 := 3) (T := TX7) (N := 40) (ty0 := tyX7) (ty := .int) pc C rfl rfl wiX7 tyX7_ok nmX7 (by decide) rfl rfl rfl rfl (by simp) rfl hl0 hd k
theorem gX7_weights (pc : Nat) (C : Cx (ωR D a b) Γ cc own ret l0 rm nL0 out0) {index : Nat} (hl0 : Cond.fieldLink own index "GraveOrderModel" "weights" "[I" ∈ xtb) (hd : decode cc pc = .ok (.getfield index, 3)) (k : XAt (ωR D a b) Γ (pc + 3) lv (.ref (a 3) :: vs) S) : XAt (ωR D a b) Γ pc lv (.ref (a 0) :: vs) S := x_get (q := 0) (ci := 7) (k0 := 4) (T := TX7) (N := 40) pc C rfl rfl wiX7 (by decide) rfl hl0 rfl hd k
theorem gX7_overs (pc : Nat) (C : Cx (ωR D a b) Γ cc own ret l0 rm nL0 out0) {index : Nat} (hl0 : Cond.fieldLink own index "GraveOrderModel" "overs" "I" ∈ xtb) (hd : decode cc pc = .ok (.getfield index, 3)) (k : XAt (ωR D a b) Γ (pc + 3) lv (.int (S.1 0 5) :: vs) S) : XAt (ωR D a b) Γ pc lv (.ref (a 0) :: vs) S := x_get (q := 0) (ci := 7) (k0 := 5) (T := TX7) (N := 40) pc C rfl rfl wiX7 (by decide) rfl hl0 rfl hd k
theorem pX7_overs (pc : Nat) (C : Cx (ωR D a b) Γ cc own ret l0 rm nL0 out0) {index : Nat} {v : Int32} (hl0 : Cond.fieldLink own index "GraveOrderModel" "overs" "I" ∈ xtb) (hd : decode cc pc = .ok (.putfield index, 3)) (k : XAt (ωR D a b) Γ (pc + 3) lv vs (xsr S 0 5 v)) : XAt (ωR D a b) Γ pc lv (.int v :: .ref (a 0) :: vs) S := x_put (q := 0) (ci := 7) (k0 := 5) (T := TX7) (N := 40) (ty0 := tyX7) (ty := .int) pc C rfl rfl wiX7 tyX7_ok nmX7 (by decide) rfl rfl rfl rfl (by simp) rfl hl0 hd k
theorem gX7_upper (pc : Nat) (C : Cx (ωR D a b) Γ cc own ret l0 rm nL0 out0) {index : Nat} (hl0 : Cond.fieldLink own index "GraveOrderModel" "upper" "[I" ∈ xtb) (hd : decode cc pc = .ok (.getfield index, 3)) (k : XAt (ωR D a b) Γ (pc + 3) lv (.ref (a 4) :: vs) S) : XAt (ωR D a b) Γ pc lv (.ref (a 0) :: vs) S := x_get (q := 0) (ci := 7) (k0 := 6) (T := TX7) (N := 40) pc C rfl rfl wiX7 (by decide) rfl hl0 rfl hd k
theorem gX7_lower (pc : Nat) (C : Cx (ωR D a b) Γ cc own ret l0 rm nL0 out0) {index : Nat} (hl0 : Cond.fieldLink own index "GraveOrderModel" "lower" "[I" ∈ xtb) (hd : decode cc pc = .ok (.getfield index, 3)) (k : XAt (ωR D a b) Γ (pc + 3) lv (.ref (a 5) :: vs) S) : XAt (ωR D a b) Γ pc lv (.ref (a 0) :: vs) S := x_get (q := 0) (ci := 7) (k0 := 7) (T := TX7) (N := 40) pc C rfl rfl wiX7 (by decide) rfl hl0 rfl hd k
theorem gX7_tellings (pc : Nat) (C : Cx (ωR D a b) Γ cc own ret l0 rm nL0 out0) {index : Nat} (hl0 : Cond.fieldLink own index "GraveOrderModel" "tellings" "I" ∈ xtb) (hd : decode cc pc = .ok (.getfield index, 3)) (k : XAt (ωR D a b) Γ (pc + 3) lv (.int (S.1 0 8) :: vs) S) : XAt (ωR D a b) Γ pc lv (.ref (a 0) :: vs) S := x_get (q := 0) (ci := 7) (k0 := 8) (T := TX7) (N := 40) pc C rfl rfl wiX7 (by decide) rfl hl0 rfl hd k
theorem pX7_tellings (pc : Nat) (C : Cx (ωR D a b) Γ cc own ret l0 rm nL0 out0) {index : Nat} {v : Int32} (hl0 : Cond.fieldLink own index "GraveOrderModel" "tellings" "I" ∈ xtb) (hd : decode cc pc = .ok (.putfield index, 3)) (k : XAt (ωR D a b) Γ (pc + 3) lv vs (xsr S 0 8 v)) : XAt (ωR D a b) Γ pc lv (.int v :: .ref (a 0) :: vs) S := x_put (q := 0) (ci := 7) (k0 := 8) (T := TX7) (N := 40) (ty0 := tyX7) (ty := .int) pc C rfl rfl wiX7 tyX7_ok nmX7 (by decide) rfl rfl rfl rfl (by simp) rfl hl0 hd k
theorem gX7_toldGrave (pc : Nat) (C : Cx (ωR D a b) Γ cc own ret l0 rm nL0 out0) {index : Nat} (hl0 : Cond.fieldLink own index "GraveOrderModel" "toldGrave" "[I" ∈ xtb) (hd : decode cc pc = .ok (.getfield index, 3)) (k : XAt (ωR D a b) Γ (pc + 3) lv (.ref (a 6) :: vs) S) : XAt (ωR D a b) Γ pc lv (.ref (a 0) :: vs) S := x_get (q := 0) (ci := 7) (k0 := 9) (T := TX7) (N := 40) pc C rfl rfl wiX7 (by decide) rfl hl0 rfl hd k
theorem gX7_toldKind (pc : Nat) (C : Cx (ωR D a b) Γ cc own ret l0 rm nL0 out0) {index : Nat} (hl0 : Cond.fieldLink own index "GraveOrderModel" "toldKind" "[I" ∈ xtb) (hd : decode cc pc = .ok (.getfield index, 3)) (k : XAt (ωR D a b) Γ (pc + 3) lv (.ref (a 7) :: vs) S) : XAt (ωR D a b) Γ pc lv (.ref (a 0) :: vs) S := x_get (q := 0) (ci := 7) (k0 := 10) (T := TX7) (N := 40) pc C rfl rfl wiX7 (by decide) rfl hl0 rfl hd k
theorem gX7_toldHas (pc : Nat) (C : Cx (ωR D a b) Γ cc own ret l0 rm nL0 out0) {index : Nat} (hl0 : Cond.fieldLink own index "GraveOrderModel" "toldHas" "[I" ∈ xtb) (hd : decode cc pc = .ok (.getfield index, 3)) (k : XAt (ωR D a b) Γ (pc + 3) lv (.ref (a 8) :: vs) S) : XAt (ωR D a b) Γ pc lv (.ref (a 0) :: vs) S := x_get (q := 0) (ci := 7) (k0 := 11) (T := TX7) (N := 40) pc C rfl rfl wiX7 (by decide) rfl hl0 rfl hd k
theorem gX7_toldTime (pc : Nat) (C : Cx (ωR D a b) Γ cc own ret l0 rm nL0 out0) {index : Nat} (hl0 : Cond.fieldLink own index "GraveOrderModel" "toldTime" "[I" ∈ xtb) (hd : decode cc pc = .ok (.getfield index, 3)) (k : XAt (ωR D a b) Γ (pc + 3) lv (.ref (a 9) :: vs) S) : XAt (ωR D a b) Γ pc lv (.ref (a 0) :: vs) S := x_get (q := 0) (ci := 7) (k0 := 12) (T := TX7) (N := 40) pc C rfl rfl wiX7 (by decide) rfl hl0 rfl hd k
theorem gX7_knownTo (pc : Nat) (C : Cx (ωR D a b) Γ cc own ret l0 rm nL0 out0) {index : Nat} (hl0 : Cond.fieldLink own index "GraveOrderModel" "knownTo" "I" ∈ xtb) (hd : decode cc pc = .ok (.getfield index, 3)) (k : XAt (ωR D a b) Γ (pc + 3) lv (.int (S.1 0 13) :: vs) S) : XAt (ωR D a b) Γ pc lv (.ref (a 0) :: vs) S := x_get (q := 0) (ci := 7) (k0 := 13) (T := TX7) (N := 40) pc C rfl rfl wiX7 (by decide) rfl hl0 rfl hd k
theorem pX7_knownTo (pc : Nat) (C : Cx (ωR D a b) Γ cc own ret l0 rm nL0 out0) {index : Nat} {v : Int32} (hl0 : Cond.fieldLink own index "GraveOrderModel" "knownTo" "I" ∈ xtb) (hd : decode cc pc = .ok (.putfield index, 3)) (k : XAt (ωR D a b) Γ (pc + 3) lv vs (xsr S 0 13 v)) : XAt (ωR D a b) Γ pc lv (.int v :: .ref (a 0) :: vs) S := x_put (q := 0) (ci := 7) (k0 := 13) (T := TX7) (N := 40) (ty0 := tyX7) (ty := .int) pc C rfl rfl wiX7 tyX7_ok nmX7 (by decide) rfl rfl rfl rfl (by simp) rfl hl0 hd k
theorem gX7_isWorked (pc : Nat) (C : Cx (ωR D a b) Γ cc own ret l0 rm nL0 out0) {index : Nat} (hl0 : Cond.fieldLink own index "GraveOrderModel" "isWorked" "Z" ∈ xtb) (hd : decode cc pc = .ok (.getfield index, 3)) (k : XAt (ωR D a b) Γ (pc + 3) lv (.int (S.1 0 14) :: vs) S) : XAt (ωR D a b) Γ pc lv (.ref (a 0) :: vs) S := x_get (q := 0) (ci := 7) (k0 := 14) (T := TX7) (N := 40) pc C rfl rfl wiX7 (by decide) rfl hl0 rfl hd k
theorem pX7_isWorked (pc : Nat) (C : Cx (ωR D a b) Γ cc own ret l0 rm nL0 out0) {index : Nat} {v : Int32} (hz : xbool v = true) (hl0 : Cond.fieldLink own index "GraveOrderModel" "isWorked" "Z" ∈ xtb) (hd : decode cc pc = .ok (.putfield index, 3)) (k : XAt (ωR D a b) Γ (pc + 3) lv vs (xsr S 0 14 v)) : XAt (ωR D a b) Γ pc lv (.int v :: .ref (a 0) :: vs) S := x_put (q := 0) (ci := 7) (k0 := 14) (T := TX7) (N := 40) (ty0 := tyX7) (ty := .boolean) pc C rfl rfl wiX7 tyX7_ok nmX7 (by decide) rfl rfl (xnar hz) (xfit hz) (by simp) rfl hl0 hd k
theorem gX7_typed (pc : Nat) (C : Cx (ωR D a b) Γ cc own ret l0 rm nL0 out0) {index : Nat} (hl0 : Cond.fieldLink own index "GraveOrderModel" "typed" "I" ∈ xtb) (hd : decode cc pc = .ok (.getfield index, 3)) (k : XAt (ωR D a b) Γ (pc + 3) lv (.int (S.1 0 15) :: vs) S) : XAt (ωR D a b) Γ pc lv (.ref (a 0) :: vs) S := x_get (q := 0) (ci := 7) (k0 := 15) (T := TX7) (N := 40) pc C rfl rfl wiX7 (by decide) rfl hl0 rfl hd k
theorem pX7_typed (pc : Nat) (C : Cx (ωR D a b) Γ cc own ret l0 rm nL0 out0) {index : Nat} {v : Int32} (hl0 : Cond.fieldLink own index "GraveOrderModel" "typed" "I" ∈ xtb) (hd : decode cc pc = .ok (.putfield index, 3)) (k : XAt (ωR D a b) Γ (pc + 3) lv vs (xsr S 0 15 v)) : XAt (ωR D a b) Γ pc lv (.int v :: .ref (a 0) :: vs) S := x_put (q := 0) (ci := 7) (k0 := 15) (T := TX7) (N := 40) (ty0 := tyX7) (ty := .int) pc C rfl rfl wiX7 tyX7_ok nmX7 (by decide) rfl rfl rfl rfl (by simp) rfl hl0 hd k
theorem gX7_text (pc : Nat) (C : Cx (ωR D a b) Γ cc own ret l0 rm nL0 out0) {index : Nat} (hl0 : Cond.fieldLink own index "GraveOrderModel" "text" "[I" ∈ xtb) (hd : decode cc pc = .ok (.getfield index, 3)) (k : XAt (ωR D a b) Γ (pc + 3) lv (.ref (a 10) :: vs) S) : XAt (ωR D a b) Γ pc lv (.ref (a 0) :: vs) S := x_get (q := 0) (ci := 7) (k0 := 16) (T := TX7) (N := 40) pc C rfl rfl wiX7 (by decide) rfl hl0 rfl hd k
theorem gX7_said (pc : Nat) (C : Cx (ωR D a b) Γ cc own ret l0 rm nL0 out0) {index : Nat} (hl0 : Cond.fieldLink own index "GraveOrderModel" "said" "I" ∈ xtb) (hd : decode cc pc = .ok (.getfield index, 3)) (k : XAt (ωR D a b) Γ (pc + 3) lv (.int (S.1 0 17) :: vs) S) : XAt (ωR D a b) Γ pc lv (.ref (a 0) :: vs) S := x_get (q := 0) (ci := 7) (k0 := 17) (T := TX7) (N := 40) pc C rfl rfl wiX7 (by decide) rfl hl0 rfl hd k
theorem pX7_said (pc : Nat) (C : Cx (ωR D a b) Γ cc own ret l0 rm nL0 out0) {index : Nat} {v : Int32} (hl0 : Cond.fieldLink own index "GraveOrderModel" "said" "I" ∈ xtb) (hd : decode cc pc = .ok (.putfield index, 3)) (k : XAt (ωR D a b) Γ (pc + 3) lv vs (xsr S 0 17 v)) : XAt (ωR D a b) Γ pc lv (.int v :: .ref (a 0) :: vs) S := x_put (q := 0) (ci := 7) (k0 := 17) (T := TX7) (N := 40) (ty0 := tyX7) (ty := .int) pc C rfl rfl wiX7 tyX7_ok nmX7 (by decide) rfl rfl rfl rfl (by simp) rfl hl0 hd k
theorem gX7_saidGrave (pc : Nat) (C : Cx (ωR D a b) Γ cc own ret l0 rm nL0 out0) {index : Nat} (hl0 : Cond.fieldLink own index "GraveOrderModel" "saidGrave" "[I" ∈ xtb) (hd : decode cc pc = .ok (.getfield index, 3)) (k : XAt (ωR D a b) Γ (pc + 3) lv (.ref (a 11) :: vs) S) : XAt (ωR D a b) Γ pc lv (.ref (a 0) :: vs) S := x_get (q := 0) (ci := 7) (k0 := 18) (T := TX7) (N := 40) pc C rfl rfl wiX7 (by decide) rfl hl0 rfl hd k
theorem gX7_saidKind (pc : Nat) (C : Cx (ωR D a b) Γ cc own ret l0 rm nL0 out0) {index : Nat} (hl0 : Cond.fieldLink own index "GraveOrderModel" "saidKind" "[I" ∈ xtb) (hd : decode cc pc = .ok (.getfield index, 3)) (k : XAt (ωR D a b) Γ (pc + 3) lv (.ref (a 12) :: vs) S) : XAt (ωR D a b) Γ pc lv (.ref (a 0) :: vs) S := x_get (q := 0) (ci := 7) (k0 := 19) (T := TX7) (N := 40) pc C rfl rfl wiX7 (by decide) rfl hl0 rfl hd k
theorem gX7_saidHas (pc : Nat) (C : Cx (ωR D a b) Γ cc own ret l0 rm nL0 out0) {index : Nat} (hl0 : Cond.fieldLink own index "GraveOrderModel" "saidHas" "[I" ∈ xtb) (hd : decode cc pc = .ok (.getfield index, 3)) (k : XAt (ωR D a b) Γ (pc + 3) lv (.ref (a 13) :: vs) S) : XAt (ωR D a b) Γ pc lv (.ref (a 0) :: vs) S := x_get (q := 0) (ci := 7) (k0 := 20) (T := TX7) (N := 40) pc C rfl rfl wiX7 (by decide) rfl hl0 rfl hd k
theorem gX7_have (pc : Nat) (C : Cx (ωR D a b) Γ cc own ret l0 rm nL0 out0) {index : Nat} (hl0 : Cond.fieldLink own index "GraveOrderModel" "have" "[I" ∈ xtb) (hd : decode cc pc = .ok (.getfield index, 3)) (k : XAt (ωR D a b) Γ (pc + 3) lv (.ref (a 14) :: vs) S) : XAt (ωR D a b) Γ pc lv (.ref (a 0) :: vs) S := x_get (q := 0) (ci := 7) (k0 := 21) (T := TX7) (N := 40) pc C rfl rfl wiX7 (by decide) rfl hl0 rfl hd k
theorem gX7_order (pc : Nat) (C : Cx (ωR D a b) Γ cc own ret l0 rm nL0 out0) {index : Nat} (hl0 : Cond.fieldLink own index "GraveOrderModel" "order" "[I" ∈ xtb) (hd : decode cc pc = .ok (.getfield index, 3)) (k : XAt (ωR D a b) Γ (pc + 3) lv (.ref (a 15) :: vs) S) : XAt (ωR D a b) Γ pc lv (.ref (a 0) :: vs) S := x_get (q := 0) (ci := 7) (k0 := 22) (T := TX7) (N := 40) pc C rfl rfl wiX7 (by decide) rfl hl0 rfl hd k
theorem gX7_fewest (pc : Nat) (C : Cx (ωR D a b) Γ cc own ret l0 rm nL0 out0) {index : Nat} (hl0 : Cond.fieldLink own index "GraveOrderModel" "fewest" "I" ∈ xtb) (hd : decode cc pc = .ok (.getfield index, 3)) (k : XAt (ωR D a b) Γ (pc + 3) lv (.int (S.1 0 23) :: vs) S) : XAt (ωR D a b) Γ pc lv (.ref (a 0) :: vs) S := x_get (q := 0) (ci := 7) (k0 := 23) (T := TX7) (N := 40) pc C rfl rfl wiX7 (by decide) rfl hl0 rfl hd k
theorem pX7_fewest (pc : Nat) (C : Cx (ωR D a b) Γ cc own ret l0 rm nL0 out0) {index : Nat} {v : Int32} (hl0 : Cond.fieldLink own index "GraveOrderModel" "fewest" "I" ∈ xtb) (hd : decode cc pc = .ok (.putfield index, 3)) (k : XAt (ωR D a b) Γ (pc + 3) lv vs (xsr S 0 23 v)) : XAt (ωR D a b) Γ pc lv (.int v :: .ref (a 0) :: vs) S := x_put (q := 0) (ci := 7) (k0 := 23) (T := TX7) (N := 40) (ty0 := tyX7) (ty := .int) pc C rfl rfl wiX7 tyX7_ok nmX7 (by decide) rfl rfl rfl rfl (by simp) rfl hl0 hd k
theorem gX7_bestMany (pc : Nat) (C : Cx (ωR D a b) Γ cc own ret l0 rm nL0 out0) {index : Nat} (hl0 : Cond.fieldLink own index "GraveOrderModel" "bestMany" "I" ∈ xtb) (hd : decode cc pc = .ok (.getfield index, 3)) (k : XAt (ωR D a b) Γ (pc + 3) lv (.int (S.1 0 24) :: vs) S) : XAt (ωR D a b) Γ pc lv (.ref (a 0) :: vs) S := x_get (q := 0) (ci := 7) (k0 := 24) (T := TX7) (N := 40) pc C rfl rfl wiX7 (by decide) rfl hl0 rfl hd k
theorem pX7_bestMany (pc : Nat) (C : Cx (ωR D a b) Γ cc own ret l0 rm nL0 out0) {index : Nat} {v : Int32} (hl0 : Cond.fieldLink own index "GraveOrderModel" "bestMany" "I" ∈ xtb) (hd : decode cc pc = .ok (.putfield index, 3)) (k : XAt (ωR D a b) Γ (pc + 3) lv vs (xsr S 0 24 v)) : XAt (ωR D a b) Γ pc lv (.int v :: .ref (a 0) :: vs) S := x_put (q := 0) (ci := 7) (k0 := 24) (T := TX7) (N := 40) (ty0 := tyX7) (ty := .int) pc C rfl rfl wiX7 tyX7_ok nmX7 (by decide) rfl rfl rfl rfl (by simp) rfl hl0 hd k
theorem gX7_canMany (pc : Nat) (C : Cx (ωR D a b) Γ cc own ret l0 rm nL0 out0) {index : Nat} (hl0 : Cond.fieldLink own index "GraveOrderModel" "canMany" "I" ∈ xtb) (hd : decode cc pc = .ok (.getfield index, 3)) (k : XAt (ωR D a b) Γ (pc + 3) lv (.int (S.1 0 25) :: vs) S) : XAt (ωR D a b) Γ pc lv (.ref (a 0) :: vs) S := x_get (q := 0) (ci := 7) (k0 := 25) (T := TX7) (N := 40) pc C rfl rfl wiX7 (by decide) rfl hl0 rfl hd k
theorem pX7_canMany (pc : Nat) (C : Cx (ωR D a b) Γ cc own ret l0 rm nL0 out0) {index : Nat} {v : Int32} (hl0 : Cond.fieldLink own index "GraveOrderModel" "canMany" "I" ∈ xtb) (hd : decode cc pc = .ok (.putfield index, 3)) (k : XAt (ωR D a b) Γ (pc + 3) lv vs (xsr S 0 25 v)) : XAt (ωR D a b) Γ pc lv (.int v :: .ref (a 0) :: vs) S := x_put (q := 0) (ci := 7) (k0 := 25) (T := TX7) (N := 40) (ty0 := tyX7) (ty := .int) pc C rfl rfl wiX7 tyX7_ok nmX7 (by decide) rfl rfl rfl rfl (by simp) rfl hl0 hd k
theorem gX7_gapSum (pc : Nat) (C : Cx (ωR D a b) Γ cc own ret l0 rm nL0 out0) {index : Nat} (hl0 : Cond.fieldLink own index "GraveOrderModel" "gapSum" "J" ∈ xtb) (hd : decode cc pc = .ok (.getfield index, 3)) (k : XAt (ωR D a b) Γ (pc + 3) lv (.long S.2 :: vs) S) : XAt (ωR D a b) Γ pc lv (.ref (a 0) :: vs) S := x_get (q := 0) (ci := 7) (k0 := 26) (T := TX7) (N := 40) pc C rfl rfl wiX7 (by decide) rfl hl0 rfl hd k
theorem pX7_gapSum (pc : Nat) (C : Cx (ωR D a b) Γ cc own ret l0 rm nL0 out0) {index : Nat} {v : Int64} (hl0 : Cond.fieldLink own index "GraveOrderModel" "gapSum" "J" ∈ xtb) (hd : decode cc pc = .ok (.putfield index, 3)) (k : XAt (ωR D a b) Γ (pc + 3) lv vs (xsl S v)) : XAt (ωR D a b) Γ pc lv (.long v :: .ref (a 0) :: vs) S := x_put (q := 0) (ci := 7) (k0 := 26) (T := TX7) (N := 40) (ty0 := tyX7) (ty := .long) pc C rfl rfl wiX7 tyX7_ok nmX7 (by decide) rfl rfl rfl rfl (by simp) rfl hl0 hd k
theorem gX7_spreads (pc : Nat) (C : Cx (ωR D a b) Γ cc own ret l0 rm nL0 out0) {index : Nat} (hl0 : Cond.fieldLink own index "GraveOrderModel" "spreads" "[I" ∈ xtb) (hd : decode cc pc = .ok (.getfield index, 3)) (k : XAt (ωR D a b) Γ (pc + 3) lv (.ref (a 16) :: vs) S) : XAt (ωR D a b) Γ pc lv (.ref (a 0) :: vs) S := x_get (q := 0) (ci := 7) (k0 := 27) (T := TX7) (N := 40) pc C rfl rfl wiX7 (by decide) rfl hl0 rfl hd k
theorem gX7_firstOrder (pc : Nat) (C : Cx (ωR D a b) Γ cc own ret l0 rm nL0 out0) {index : Nat} (hl0 : Cond.fieldLink own index "GraveOrderModel" "firstOrder" "[I" ∈ xtb) (hd : decode cc pc = .ok (.getfield index, 3)) (k : XAt (ωR D a b) Γ (pc + 3) lv (.ref (a 17) :: vs) S) : XAt (ωR D a b) Γ pc lv (.ref (a 0) :: vs) S := x_get (q := 0) (ci := 7) (k0 := 28) (T := TX7) (N := 40) pc C rfl rfl wiX7 (by decide) rfl hl0 rfl hd k
theorem gX7_ahead (pc : Nat) (C : Cx (ωR D a b) Γ cc own ret l0 rm nL0 out0) {index : Nat} (hl0 : Cond.fieldLink own index "GraveOrderModel" "ahead" "[I" ∈ xtb) (hd : decode cc pc = .ok (.getfield index, 3)) (k : XAt (ωR D a b) Γ (pc + 3) lv (.ref (a 18) :: vs) S) : XAt (ωR D a b) Γ pc lv (.ref (a 0) :: vs) S := x_get (q := 0) (ci := 7) (k0 := 29) (T := TX7) (N := 40) pc C rfl rfl wiX7 (by decide) rfl hl0 rfl hd k
theorem gX7_placesOf (pc : Nat) (C : Cx (ωR D a b) Γ cc own ret l0 rm nL0 out0) {index : Nat} (hl0 : Cond.fieldLink own index "GraveOrderModel" "placesOf" "[I" ∈ xtb) (hd : decode cc pc = .ok (.getfield index, 3)) (k : XAt (ωR D a b) Γ (pc + 3) lv (.ref (a 19) :: vs) S) : XAt (ωR D a b) Γ pc lv (.ref (a 0) :: vs) S := x_get (q := 0) (ci := 7) (k0 := 30) (T := TX7) (N := 40) pc C rfl rfl wiX7 (by decide) rfl hl0 rfl hd k
theorem gX7_out (pc : Nat) (C : Cx (ωR D a b) Γ cc own ret l0 rm nL0 out0) {index : Nat} (hl0 : Cond.fieldLink own index "GraveOrderModel" "out" "I" ∈ xtb) (hd : decode cc pc = .ok (.getfield index, 3)) (k : XAt (ωR D a b) Γ (pc + 3) lv (.int (S.1 0 31) :: vs) S) : XAt (ωR D a b) Γ pc lv (.ref (a 0) :: vs) S := x_get (q := 0) (ci := 7) (k0 := 31) (T := TX7) (N := 40) pc C rfl rfl wiX7 (by decide) rfl hl0 rfl hd k
theorem pX7_out (pc : Nat) (C : Cx (ωR D a b) Γ cc own ret l0 rm nL0 out0) {index : Nat} {v : Int32} (hl0 : Cond.fieldLink own index "GraveOrderModel" "out" "I" ∈ xtb) (hd : decode cc pc = .ok (.putfield index, 3)) (k : XAt (ωR D a b) Γ (pc + 3) lv vs (xsr S 0 31 v)) : XAt (ωR D a b) Γ pc lv (.int v :: .ref (a 0) :: vs) S := x_put (q := 0) (ci := 7) (k0 := 31) (T := TX7) (N := 40) (ty0 := tyX7) (ty := .int) pc C rfl rfl wiX7 tyX7_ok nmX7 (by decide) rfl rfl rfl rfl (by simp) rfl hl0 hd k
theorem gX7_partAt (pc : Nat) (C : Cx (ωR D a b) Γ cc own ret l0 rm nL0 out0) {index : Nat} (hl0 : Cond.fieldLink own index "GraveOrderModel" "partAt" "[I" ∈ xtb) (hd : decode cc pc = .ok (.getfield index, 3)) (k : XAt (ωR D a b) Γ (pc + 3) lv (.ref (a 20) :: vs) S) : XAt (ωR D a b) Γ pc lv (.ref (a 0) :: vs) S := x_get (q := 0) (ci := 7) (k0 := 32) (T := TX7) (N := 40) pc C rfl rfl wiX7 (by decide) rfl hl0 rfl hd k
theorem gX7_bestPart (pc : Nat) (C : Cx (ωR D a b) Γ cc own ret l0 rm nL0 out0) {index : Nat} (hl0 : Cond.fieldLink own index "GraveOrderModel" "bestPart" "[I" ∈ xtb) (hd : decode cc pc = .ok (.getfield index, 3)) (k : XAt (ωR D a b) Γ (pc + 3) lv (.ref (a 21) :: vs) S) : XAt (ωR D a b) Γ pc lv (.ref (a 0) :: vs) S := x_get (q := 0) (ci := 7) (k0 := 33) (T := TX7) (N := 40) pc C rfl rfl wiX7 (by decide) rfl hl0 rfl hd k
theorem gX7_isThere (pc : Nat) (C : Cx (ωR D a b) Γ cc own ret l0 rm nL0 out0) {index : Nat} (hl0 : Cond.fieldLink own index "GraveOrderModel" "isThere" "[Z" ∈ xtb) (hd : decode cc pc = .ok (.getfield index, 3)) (k : XAt (ωR D a b) Γ (pc + 3) lv (.ref (a 22) :: vs) S) : XAt (ωR D a b) Γ pc lv (.ref (a 0) :: vs) S := x_get (q := 0) (ci := 7) (k0 := 34) (T := TX7) (N := 40) pc C rfl rfl wiX7 (by decide) rfl hl0 rfl hd k
theorem gX7_forms (pc : Nat) (C : Cx (ωR D a b) Γ cc own ret l0 rm nL0 out0) {index : Nat} (hl0 : Cond.fieldLink own index "GraveOrderModel" "forms" "[I" ∈ xtb) (hd : decode cc pc = .ok (.getfield index, 3)) (k : XAt (ωR D a b) Γ (pc + 3) lv (.ref (a 23) :: vs) S) : XAt (ωR D a b) Γ pc lv (.ref (a 0) :: vs) S := x_get (q := 0) (ci := 7) (k0 := 35) (T := TX7) (N := 40) pc C rfl rfl wiX7 (by decide) rfl hl0 rfl hd k
theorem gX7_sizes (pc : Nat) (C : Cx (ωR D a b) Γ cc own ret l0 rm nL0 out0) {index : Nat} (hl0 : Cond.fieldLink own index "GraveOrderModel" "sizes" "[I" ∈ xtb) (hd : decode cc pc = .ok (.getfield index, 3)) (k : XAt (ωR D a b) Γ (pc + 3) lv (.ref (a 24) :: vs) S) : XAt (ωR D a b) Γ pc lv (.ref (a 0) :: vs) S := x_get (q := 0) (ci := 7) (k0 := 36) (T := TX7) (N := 40) pc C rfl rfl wiX7 (by decide) rfl hl0 rfl hd k
theorem gX7_items (pc : Nat) (C : Cx (ωR D a b) Γ cc own ret l0 rm nL0 out0) {index : Nat} (hl0 : Cond.fieldLink own index "GraveOrderModel" "items" "[I" ∈ xtb) (hd : decode cc pc = .ok (.getfield index, 3)) (k : XAt (ωR D a b) Γ (pc + 3) lv (.ref (a 25) :: vs) S) : XAt (ωR D a b) Γ pc lv (.ref (a 0) :: vs) S := x_get (q := 0) (ci := 7) (k0 := 37) (T := TX7) (N := 40) pc C rfl rfl wiX7 (by decide) rfl hl0 rfl hd k
theorem gX7_moved (pc : Nat) (C : Cx (ωR D a b) Γ cc own ret l0 rm nL0 out0) {index : Nat} (hl0 : Cond.fieldLink own index "GraveOrderModel" "moved" "[I" ∈ xtb) (hd : decode cc pc = .ok (.getfield index, 3)) (k : XAt (ωR D a b) Γ (pc + 3) lv (.ref (a 26) :: vs) S) : XAt (ωR D a b) Γ pc lv (.ref (a 0) :: vs) S := x_get (q := 0) (ci := 7) (k0 := 38) (T := TX7) (N := 40) pc C rfl rfl wiX7 (by decide) rfl hl0 rfl hd k
theorem gX7_finding (pc : Nat) (C : Cx (ωR D a b) Γ cc own ret l0 rm nL0 out0) {index : Nat} (hl0 : Cond.fieldLink own index "GraveOrderModel" "finding" "I" ∈ xtb) (hd : decode cc pc = .ok (.getfield index, 3)) (k : XAt (ωR D a b) Γ (pc + 3) lv (.int (S.1 0 39) :: vs) S) : XAt (ωR D a b) Γ pc lv (.ref (a 0) :: vs) S := x_get (q := 0) (ci := 7) (k0 := 39) (T := TX7) (N := 40) pc C rfl rfl wiX7 (by decide) rfl hl0 rfl hd k
theorem pX7_finding (pc : Nat) (C : Cx (ωR D a b) Γ cc own ret l0 rm nL0 out0) {index : Nat} {v : Int32} (hl0 : Cond.fieldLink own index "GraveOrderModel" "finding" "I" ∈ xtb) (hd : decode cc pc = .ok (.putfield index, 3)) (k : XAt (ωR D a b) Γ (pc + 3) lv vs (xsr S 0 39 v)) : XAt (ωR D a b) Γ pc lv (.int v :: .ref (a 0) :: vs) S := x_put (q := 0) (ci := 7) (k0 := 39) (T := TX7) (N := 40) (ty0 := tyX7) (ty := .int) pc C rfl rfl wiX7 tyX7_ok nmX7 (by decide) rfl rfl rfl rfl (by simp) rfl hl0 hd k
end XWR
end
section
theorem kw_78 : Cond.methodLink "GraveOrderLaw" 9 yX6_init ∈ xtb := xtb_in 78 (by decide +kernel) (by decide +kernel)
theorem kw_90 : Cond.fieldLink "GraveOrder$Yard" 9 "GraveOrder$Yard" "from" "[I" ∈ xtb := xtb_in 90 (by decide +kernel) (by decide +kernel)
theorem kw_91 : Cond.fieldLink "GraveOrder$Orders" 97 "GraveOrder$Yard" "from" "[I" ∈ xtb := xtb_in 91 (by decide +kernel) (by decide +kernel)
theorem kw_92 : Cond.fieldLink "GraveOrder$FirstRow" 93 "GraveOrder$Yard" "from" "[I" ∈ xtb := xtb_in 92 (by decide +kernel) (by decide +kernel)
theorem kw_93 : Cond.fieldLink "GraveOrder$Yard" 15 "GraveOrder$Yard" "to" "[I" ∈ xtb := xtb_in 93 (by decide +kernel) (by decide +kernel)
theorem kw_94 : Cond.fieldLink "GraveOrder$Orders" 116 "GraveOrder$Yard" "to" "[I" ∈ xtb := xtb_in 94 (by decide +kernel) (by decide +kernel)
theorem kw_95 : Cond.fieldLink "GraveOrder$FirstRow" 96 "GraveOrder$Yard" "to" "[I" ∈ xtb := xtb_in 95 (by decide +kernel) (by decide +kernel)
theorem kw_96 : Cond.fieldLink "GraveOrder$Yard" 18 "GraveOrder$Yard" "below" "[I" ∈ xtb := xtb_in 96 (by decide +kernel) (by decide +kernel)
theorem kw_97 : Cond.fieldLink "GraveOrder" 101 "GraveOrder$Yard" "below" "[I" ∈ xtb := xtb_in 97 (by decide +kernel) (by decide +kernel)
theorem kw_98 : Cond.fieldLink "GraveOrder$Orders" 113 "GraveOrder$Yard" "below" "[I" ∈ xtb := xtb_in 98 (by decide +kernel) (by decide +kernel)
theorem kw_99 : Cond.fieldLink "GraveOrder$Yard" 21 "GraveOrder$Yard" "kinds" "[I" ∈ xtb := xtb_in 99 (by decide +kernel) (by decide +kernel)
theorem kw_100 : Cond.fieldLink "GraveOrder$FirstRow" 25 "GraveOrder$Yard" "kinds" "[I" ∈ xtb := xtb_in 100 (by decide +kernel) (by decide +kernel)
theorem kw_101 : Cond.fieldLink "GraveOrder$Orders" 94 "GraveOrder$Yard" "kinds" "[I" ∈ xtb := xtb_in 101 (by decide +kernel) (by decide +kernel)
theorem kw_102 : Cond.fieldLink "GraveOrder" 136 "GraveOrder$Yard" "kinds" "[I" ∈ xtb := xtb_in 102 (by decide +kernel) (by decide +kernel)
theorem kw_103 : Cond.fieldLink "GraveOrder$Yard" 24 "GraveOrder$Yard" "graves" "I" ∈ xtb := xtb_in 103 (by decide +kernel) (by decide +kernel)
theorem kw_104 : Cond.fieldLink "GraveOrder" 70 "GraveOrder$Yard" "graves" "I" ∈ xtb := xtb_in 104 (by decide +kernel) (by decide +kernel)
theorem kw_105 : Cond.fieldLink "GraveOrder$Orders" 79 "GraveOrder$Yard" "graves" "I" ∈ xtb := xtb_in 105 (by decide +kernel) (by decide +kernel)
theorem kw_106 : Cond.fieldLink "GraveOrder$FirstRow" 34 "GraveOrder$Yard" "graves" "I" ∈ xtb := xtb_in 106 (by decide +kernel) (by decide +kernel)
theorem kw_107 : Cond.fieldLink "GraveOrder$Yard" 28 "GraveOrder$Yard" "robbedBits" "I" ∈ xtb := xtb_in 107 (by decide +kernel) (by decide +kernel)
theorem kw_108 : Cond.fieldLink "GraveOrder$FirstRow" 30 "GraveOrder$Yard" "robbedBits" "I" ∈ xtb := xtb_in 108 (by decide +kernel) (by decide +kernel)
theorem kw_109 : Cond.fieldLink "GraveOrder" 85 "GraveOrder$Yard" "robbedBits" "I" ∈ xtb := xtb_in 109 (by decide +kernel) (by decide +kernel)
theorem kw_110 : Cond.fieldLink "GraveOrder$Orders" 119 "GraveOrder$Yard" "robbedBits" "I" ∈ xtb := xtb_in 110 (by decide +kernel) (by decide +kernel)
theorem kw_111 : Cond.fieldLink "GraveOrder$Yard" 31 "GraveOrder$Yard" "overs" "I" ∈ xtb := xtb_in 111 (by decide +kernel) (by decide +kernel)
theorem kw_112 : Cond.fieldLink "GraveOrder" 98 "GraveOrder$Yard" "overs" "I" ∈ xtb := xtb_in 112 (by decide +kernel) (by decide +kernel)
theorem kw_113 : Cond.fieldLink "GraveOrder$Yard" 34 "GraveOrder$Yard" "weightOnes" "I" ∈ xtb := xtb_in 113 (by decide +kernel) (by decide +kernel)
theorem kw_114 : Cond.fieldLink "GraveOrder$Orders" 122 "GraveOrder$Yard" "weightOnes" "I" ∈ xtb := xtb_in 114 (by decide +kernel) (by decide +kernel)
theorem kw_115 : Cond.fieldLink "GraveOrder$Yard" 37 "GraveOrder$Yard" "weightTwos" "I" ∈ xtb := xtb_in 115 (by decide +kernel) (by decide +kernel)
theorem kw_116 : Cond.fieldLink "GraveOrder$Orders" 125 "GraveOrder$Yard" "weightTwos" "I" ∈ xtb := xtb_in 116 (by decide +kernel) (by decide +kernel)
theorem kw_143 : Cond.fieldLink "GraveOrder$Line" 9 "GraveOrder$Line" "bytes" "[I" ∈ xtb := xtb_in 143 (by decide +kernel) (by decide +kernel)
theorem kw_144 : Cond.fieldLink "GraveOrder" 107 "GraveOrder$Line" "bytes" "[I" ∈ xtb := xtb_in 144 (by decide +kernel) (by decide +kernel)
theorem kw_145 : Cond.fieldLink "GraveOrder$Line" 15 "GraveOrder$Line" "length" "I" ∈ xtb := xtb_in 145 (by decide +kernel) (by decide +kernel)
theorem kw_146 : Cond.fieldLink "GraveOrder" 104 "GraveOrder$Line" "length" "I" ∈ xtb := xtb_in 146 (by decide +kernel) (by decide +kernel)
theorem kw_158 : Cond.fieldLink "GraveOrder$Finds" 9 "GraveOrder$Finds" "times" "[I" ∈ xtb := xtb_in 158 (by decide +kernel) (by decide +kernel)
theorem kw_159 : Cond.fieldLink "GraveOrder$Finds" 15 "GraveOrder$Finds" "graves" "[I" ∈ xtb := xtb_in 159 (by decide +kernel) (by decide +kernel)
theorem kw_160 : Cond.fieldLink "GraveOrder$Finds" 18 "GraveOrder$Finds" "kinds" "[I" ∈ xtb := xtb_in 160 (by decide +kernel) (by decide +kernel)
theorem kw_161 : Cond.fieldLink "GraveOrder$Finds" 21 "GraveOrder$Finds" "there" "[Z" ∈ xtb := xtb_in 161 (by decide +kernel) (by decide +kernel)
theorem kw_162 : Cond.fieldLink "GraveOrder$Finds" 25 "GraveOrder$Finds" "size" "I" ∈ xtb := xtb_in 162 (by decide +kernel) (by decide +kernel)
theorem kw_163 : Cond.fieldLink "GraveOrder" 268 "GraveOrder$Finds" "size" "I" ∈ xtb := xtb_in 163 (by decide +kernel) (by decide +kernel)
theorem kw_178 : Cond.methodLink "GraveOrder" 32 yX3_init ∈ xtb := xtb_in 178 (by decide +kernel) (by decide +kernel)
theorem kw_182 : Cond.fieldLink "GraveOrder$Orders" 60 "GraveOrder$Orders" "yard" "LGraveOrder$Yard;" ∈ xtb := xtb_in 182 (by decide +kernel) (by decide +kernel)
theorem kw_183 : Cond.fieldLink "GraveOrder$Orders" 9 "GraveOrder$Orders" "seen" "[I" ∈ xtb := xtb_in 183 (by decide +kernel) (by decide +kernel)
theorem kw_184 : Cond.fieldLink "GraveOrder$Orders" 15 "GraveOrder$Orders" "year" "[I" ∈ xtb := xtb_in 184 (by decide +kernel) (by decide +kernel)
theorem kw_185 : Cond.fieldLink "GraveOrder$Orders" 18 "GraveOrder$Orders" "steps" "[I" ∈ xtb := xtb_in 185 (by decide +kernel) (by decide +kernel)
theorem kw_186 : Cond.fieldLink "GraveOrder$Orders" 21 "GraveOrder$Orders" "ahead" "[I" ∈ xtb := xtb_in 186 (by decide +kernel) (by decide +kernel)
theorem kw_187 : Cond.fieldLink "GraveOrder$Orders" 24 "GraveOrder$Orders" "behind" "[I" ∈ xtb := xtb_in 187 (by decide +kernel) (by decide +kernel)
theorem kw_188 : Cond.fieldLink "GraveOrder" 165 "GraveOrder$Orders" "behind" "[I" ∈ xtb := xtb_in 188 (by decide +kernel) (by decide +kernel)
theorem kw_189 : Cond.fieldLink "GraveOrder$Orders" 27 "GraveOrder$Orders" "ways" "[I" ∈ xtb := xtb_in 189 (by decide +kernel) (by decide +kernel)
theorem kw_190 : Cond.fieldLink "GraveOrder" 168 "GraveOrder$Orders" "ways" "[I" ∈ xtb := xtb_in 190 (by decide +kernel) (by decide +kernel)
theorem kw_191 : Cond.fieldLink "GraveOrder$Orders" 30 "GraveOrder$Orders" "row" "[I" ∈ xtb := xtb_in 191 (by decide +kernel) (by decide +kernel)
theorem kw_192 : Cond.fieldLink "GraveOrder" 41 "GraveOrder$Orders" "row" "[I" ∈ xtb := xtb_in 192 (by decide +kernel) (by decide +kernel)
theorem kw_193 : Cond.fieldLink "GraveOrder$Orders" 33 "GraveOrder$Orders" "withGapsRow" "[I" ∈ xtb := xtb_in 193 (by decide +kernel) (by decide +kernel)
theorem kw_194 : Cond.fieldLink "GraveOrder$Orders" 36 "GraveOrder$Orders" "firstHalf" "[I" ∈ xtb := xtb_in 194 (by decide +kernel) (by decide +kernel)
theorem kw_195 : Cond.fieldLink "GraveOrder$Orders" 39 "GraveOrder$Orders" "secondHalf" "[I" ∈ xtb := xtb_in 195 (by decide +kernel) (by decide +kernel)
theorem kw_196 : Cond.fieldLink "GraveOrder$Orders" 42 "GraveOrder$Orders" "reached" "[Z" ∈ xtb := xtb_in 196 (by decide +kernel) (by decide +kernel)
theorem kw_197 : Cond.fieldLink "GraveOrder$Orders" 46 "GraveOrder$Orders" "stale" "Z" ∈ xtb := xtb_in 197 (by decide +kernel) (by decide +kernel)
theorem kw_198 : Cond.fieldLink "GraveOrder" 73 "GraveOrder$Orders" "stale" "Z" ∈ xtb := xtb_in 198 (by decide +kernel) (by decide +kernel)
theorem kw_199 : Cond.fieldLink "GraveOrder$Orders" 50 "GraveOrder$Orders" "spreadStale" "Z" ∈ xtb := xtb_in 199 (by decide +kernel) (by decide +kernel)
theorem kw_200 : Cond.fieldLink "GraveOrder$Orders" 53 "GraveOrder$Orders" "leftOutStale" "Z" ∈ xtb := xtb_in 200 (by decide +kernel) (by decide +kernel)
theorem kw_201 : Cond.fieldLink "GraveOrder$Orders" 56 "GraveOrder$Orders" "leftOutBits" "I" ∈ xtb := xtb_in 201 (by decide +kernel) (by decide +kernel)
theorem kw_237 : Cond.methodLink "GraveOrder" 45 yX1_init ∈ xtb := xtb_in 237 (by decide +kernel) (by decide +kernel)
theorem kw_241 : Cond.fieldLink "GraveOrder$FirstRow" 18 "GraveOrder$FirstRow" "yard" "LGraveOrder$Yard;" ∈ xtb := xtb_in 241 (by decide +kernel) (by decide +kernel)
theorem kw_242 : Cond.fieldLink "GraveOrder$FirstRow" 22 "GraveOrder$FirstRow" "row" "[I" ∈ xtb := xtb_in 242 (by decide +kernel) (by decide +kernel)
theorem kw_243 : Cond.fieldLink "GraveOrder$FirstRow" 9 "GraveOrder$FirstRow" "turned" "[I" ∈ xtb := xtb_in 243 (by decide +kernel) (by decide +kernel)
theorem kw_244 : Cond.fieldLink "GraveOrder$FirstRow" 15 "GraveOrder$FirstRow" "laid" "[I" ∈ xtb := xtb_in 244 (by decide +kernel) (by decide +kernel)
theorem kw_261 : Cond.fieldLink "GraveOrder$Sheet" 9 "GraveOrder$Sheet" "items" "[I" ∈ xtb := xtb_in 261 (by decide +kernel) (by decide +kernel)
theorem kw_262 : Cond.fieldLink "GraveOrder" 139 "GraveOrder$Sheet" "items" "[I" ∈ xtb := xtb_in 262 (by decide +kernel) (by decide +kernel)
theorem kw_263 : Cond.fieldLink "GraveOrder$Sheet" 15 "GraveOrder$Sheet" "lost" "Z" ∈ xtb := xtb_in 263 (by decide +kernel) (by decide +kernel)
theorem kw_264 : Cond.fieldLink "GraveOrder" 126 "GraveOrder$Sheet" "lost" "Z" ∈ xtb := xtb_in 264 (by decide +kernel) (by decide +kernel)
theorem kw_265 : Cond.fieldLink "GraveOrder$Sheet" 19 "GraveOrder$Sheet" "form" "I" ∈ xtb := xtb_in 265 (by decide +kernel) (by decide +kernel)
theorem kw_266 : Cond.fieldLink "GraveOrder" 251 "GraveOrder$Sheet" "form" "I" ∈ xtb := xtb_in 266 (by decide +kernel) (by decide +kernel)
theorem kw_267 : Cond.fieldLink "GraveOrder$Sheet" 23 "GraveOrder$Sheet" "size" "I" ∈ xtb := xtb_in 267 (by decide +kernel) (by decide +kernel)
theorem kw_268 : Cond.fieldLink "GraveOrder" 142 "GraveOrder$Sheet" "size" "I" ∈ xtb := xtb_in 268 (by decide +kernel) (by decide +kernel)
theorem kw_278 : Cond.fieldLink "GraveOrder" 12 "GraveOrder" "yard" "LGraveOrder$Yard;" ∈ xtb := xtb_in 278 (by decide +kernel) (by decide +kernel)
theorem kw_279 : Cond.fieldLink "GraveOrder" 19 "GraveOrder" "line" "LGraveOrder$Line;" ∈ xtb := xtb_in 279 (by decide +kernel) (by decide +kernel)
theorem kw_280 : Cond.fieldLink "GraveOrder" 26 "GraveOrder" "finds" "LGraveOrder$Finds;" ∈ xtb := xtb_in 280 (by decide +kernel) (by decide +kernel)
theorem kw_281 : Cond.fieldLink "GraveOrder" 35 "GraveOrder" "orders" "LGraveOrder$Orders;" ∈ xtb := xtb_in 281 (by decide +kernel) (by decide +kernel)
theorem kw_282 : Cond.fieldLink "GraveOrder" 48 "GraveOrder" "firstRow" "LGraveOrder$FirstRow;" ∈ xtb := xtb_in 282 (by decide +kernel) (by decide +kernel)
theorem kw_283 : Cond.fieldLink "GraveOrder" 54 "GraveOrder" "sheets" "[LGraveOrder$Sheet;" ∈ xtb := xtb_in 283 (by decide +kernel) (by decide +kernel)
theorem kw_284 : Cond.fieldLink "GraveOrder" 58 "GraveOrder" "asOfTime" "I" ∈ xtb := xtb_in 284 (by decide +kernel) (by decide +kernel)
theorem kw_285 : Cond.fieldLink "GraveOrder" 62 "GraveOrder" "latestFinding" "I" ∈ xtb := xtb_in 285 (by decide +kernel) (by decide +kernel)
theorem kw_303 : Cond.methodLink "GraveOrderLaw" 13 yX6_grave ∈ xtb := xtb_in 303 (by decide +kernel) (by decide +kernel)
theorem kw_307 : Cond.methodLink "GraveOrder" 66 yX6_within ∈ xtb := xtb_in 307 (by decide +kernel) (by decide +kernel)
theorem kw_310 : Cond.methodLink "GraveOrder" 77 yX5_dig ∈ xtb := xtb_in 310 (by decide +kernel) (by decide +kernel)
theorem kw_314 : Cond.methodLink "GraveOrderLaw" 18 yX6_robbed ∈ xtb := xtb_in 314 (by decide +kernel) (by decide +kernel)
theorem kw_318 : Cond.methodLink "GraveOrder" 81 yX6_isGrave ∈ xtb := xtb_in 318 (by decide +kernel) (by decide +kernel)
theorem kw_322 : Cond.methodLink "GraveOrderLaw" 22 yX6_weight ∈ xtb := xtb_in 322 (by decide +kernel) (by decide +kernel)
theorem kw_326 : Cond.methodLink "GraveOrder" 88 yX6_isKind ∈ xtb := xtb_in 326 (by decide +kernel) (by decide +kernel)
theorem kw_329 : Cond.methodLink "GraveOrder" 91 yX5_reweigh ∈ xtb := xtb_in 329 (by decide +kernel) (by decide +kernel)
theorem kw_333 : Cond.methodLink "GraveOrder$Yard" 40 yX5_weigh ∈ xtb := xtb_in 333 (by decide +kernel) (by decide +kernel)
theorem kw_337 : Cond.methodLink "GraveOrder$Yard" 44 yJ6_bitCount_0f7a4 ∈ xtb := xtb_in 337 (by decide +kernel) (by decide +kernel)
theorem kw_340 : Cond.constant "java/lang/Integer" 265 (1431655765) ∈ xtb := xtb_in 340 (by decide +kernel) (by decide +kernel)
theorem kw_341 : Cond.constant "java/lang/Integer" 266 (858993459) ∈ xtb := xtb_in 341 (by decide +kernel) (by decide +kernel)
theorem kw_342 : Cond.constant "java/lang/Integer" 267 (252645135) ∈ xtb := xtb_in 342 (by decide +kernel) (by decide +kernel)
theorem kw_343 : Cond.methodLink "GraveOrderLaw" 26 yX6_over ∈ xtb := xtb_in 343 (by decide +kernel) (by decide +kernel)
theorem kw_347 : Cond.methodLink "GraveOrder" 94 yX6_isPair ∈ xtb := xtb_in 347 (by decide +kernel) (by decide +kernel)
theorem kw_351 : Cond.methodLink "GraveOrderLaw" 30 yX6_type ∈ xtb := xtb_in 351 (by decide +kernel) (by decide +kernel)
theorem kw_355 : Cond.methodLink "GraveOrderLaw" 35 yX6_wipe ∈ xtb := xtb_in 355 (by decide +kernel) (by decide +kernel)
theorem kw_359 : Cond.methodLink "GraveOrderLaw" 40 yX6_fault ∈ xtb := xtb_in 359 (by decide +kernel) (by decide +kernel)
theorem kw_363 : Cond.methodLink "GraveOrder" 110 yX2_firstFault ∈ xtb := xtb_in 363 (by decide +kernel) (by decide +kernel)
theorem kw_367 : Cond.methodLink "GraveOrder$Line" 19 yX2_follow ∈ xtb := xtb_in 367 (by decide +kernel) (by decide +kernel)
theorem kw_370 : Cond.methodLink "GraveOrderLaw" 44 yX6_tell ∈ xtb := xtb_in 370 (by decide +kernel) (by decide +kernel)
theorem kw_374 : Cond.methodLink "GraveOrder" 114 yX6_canTellAt ∈ xtb := xtb_in 374 (by decide +kernel) (by decide +kernel)
theorem kw_378 : Cond.methodLink "GraveOrder" 331 yX0_timeBefore ∈ xtb := xtb_in 378 (by decide +kernel) (by decide +kernel)
theorem kw_382 : Cond.methodLink "GraveOrder" 117 yX6_tellLine ∈ xtb := xtb_in 382 (by decide +kernel) (by decide +kernel)
theorem kw_386 : Cond.methodLink "GraveOrder" 338 yX2_follow ∈ xtb := xtb_in 386 (by decide +kernel) (by decide +kernel)
theorem kw_387 : Cond.methodLink "GraveOrder" 341 yX0_keep ∈ xtb := xtb_in 387 (by decide +kernel) (by decide +kernel)
theorem kw_391 : Cond.methodLink "GraveOrder" 120 yX6_findsChanged ∈ xtb := xtb_in 391 (by decide +kernel) (by decide +kernel)
theorem kw_395 : Cond.methodLink "GraveOrder" 334 yX0_layInto ∈ xtb := xtb_in 395 (by decide +kernel) (by decide +kernel)
theorem kw_399 : Cond.methodLink "GraveOrderLaw" 48 yX6_read ∈ xtb := xtb_in 399 (by decide +kernel) (by decide +kernel)
theorem kw_403 : Cond.methodLink "GraveOrder" 123 yX6_isSheet ∈ xtb := xtb_in 403 (by decide +kernel) (by decide +kernel)
theorem kw_406 : Cond.methodLink "GraveOrder" 129 yX6_finding ∈ xtb := xtb_in 406 (by decide +kernel) (by decide +kernel)
theorem kw_410 : Cond.methodLink "GraveOrder" 132 yX6_tellSheet ∈ xtb := xtb_in 410 (by decide +kernel) (by decide +kernel)
theorem kw_414 : Cond.methodLink "GraveOrderLaw" 53 yX6_asOf ∈ xtb := xtb_in 414 (by decide +kernel) (by decide +kernel)
theorem kw_418 : Cond.methodLink "GraveOrderLaw" 57 yX6_has ∈ xtb := xtb_in 418 (by decide +kernel) (by decide +kernel)
theorem kw_422 : Cond.methodLink "GraveOrderLaw" 61 yX6_gaps ∈ xtb := xtb_in 422 (by decide +kernel) (by decide +kernel)
theorem kw_426 : Cond.methodLink "GraveOrder" 145 yX5_isOrder ∈ xtb := xtb_in 426 (by decide +kernel) (by decide +kernel)
theorem kw_430 : Cond.methodLink "GraveOrder" 149 yX1_gapsOfOrder ∈ xtb := xtb_in 430 (by decide +kernel) (by decide +kernel)
theorem kw_434 : Cond.methodLink "GraveOrder$FirstRow" 41 yX1_gapsAsLaid ∈ xtb := xtb_in 434 (by decide +kernel) (by decide +kernel)
theorem kw_438 : Cond.methodLink "GraveOrder$FirstRow" 45 yX5_weigh ∈ xtb := xtb_in 438 (by decide +kernel) (by decide +kernel)
theorem kw_439 : Cond.methodLink "GraveOrder" 153 yX5_canBe ∈ xtb := xtb_in 439 (by decide +kernel) (by decide +kernel)
theorem kw_443 : Cond.methodLink "GraveOrder$Yard" 49 yJ9_max_7cf53 ∈ xtb := xtb_in 443 (by decide +kernel) (by decide +kernel)
theorem kw_446 : Cond.methodLink "GraveOrder" 157 yX6_bit ∈ xtb := xtb_in 446 (by decide +kernel) (by decide +kernel)
theorem kw_449 : Cond.methodLink "GraveOrderLaw" 65 yX6_best ∈ xtb := xtb_in 449 (by decide +kernel) (by decide +kernel)
theorem kw_453 : Cond.methodLink "GraveOrder" 161 yX3_settle ∈ xtb := xtb_in 453 (by decide +kernel) (by decide +kernel)
theorem kw_457 : Cond.methodLink "GraveOrder$Orders" 64 yX3_fillSets ∈ xtb := xtb_in 457 (by decide +kernel) (by decide +kernel)
theorem kw_461 : Cond.methodLink "GraveOrder$Orders" 84 yX3_allGraves ∈ xtb := xtb_in 461 (by decide +kernel) (by decide +kernel)
theorem kw_465 : Cond.methodLink "GraveOrder$Orders" 88 yJ6_numberOfTrailingZeros_0f7a4 ∈ xtb := xtb_in 465 (by decide +kernel) (by decide +kernel)
theorem kw_468 : Cond.constant "java/lang/Integer" 264 (65536) ∈ xtb := xtb_in 468 (by decide +kernel) (by decide +kernel)
theorem kw_469 : Cond.methodLink "GraveOrder$Orders" 100 yJ9_max_7cf53 ∈ xtb := xtb_in 469 (by decide +kernel) (by decide +kernel)
theorem kw_470 : Cond.methodLink "GraveOrder$Orders" 67 yX3_fillSteps ∈ xtb := xtb_in 470 (by decide +kernel) (by decide +kernel)
theorem kw_474 : Cond.methodLink "GraveOrder$Orders" 106 yX3_canFollow ∈ xtb := xtb_in 474 (by decide +kernel) (by decide +kernel)
theorem kw_478 : Cond.methodLink "GraveOrder$Orders" 110 yX3_gapsAt ∈ xtb := xtb_in 478 (by decide +kernel) (by decide +kernel)
theorem kw_482 : Cond.methodLink "GraveOrder$Orders" 70 yX3_fillAhead ∈ xtb := xtb_in 482 (by decide +kernel) (by decide +kernel)
theorem kw_486 : Cond.constant "GraveOrder$Orders" 128 (1000000) ∈ xtb := xtb_in 486 (by decide +kernel) (by decide +kernel)
theorem kw_487 : Cond.methodLink "GraveOrder$Orders" 129 yX5_weigh ∈ xtb := xtb_in 487 (by decide +kernel) (by decide +kernel)
theorem kw_488 : Cond.methodLink "GraveOrder$Orders" 132 yJ9_min_7cf53 ∈ xtb := xtb_in 488 (by decide +kernel) (by decide +kernel)
theorem kw_491 : Cond.methodLink "GraveOrder$Orders" 73 yX3_fillBehind ∈ xtb := xtb_in 491 (by decide +kernel) (by decide +kernel)
theorem kw_495 : Cond.methodLink "GraveOrder$Orders" 135 yX3_tryNext ∈ xtb := xtb_in 495 (by decide +kernel) (by decide +kernel)
theorem kw_499 : Cond.methodLink "GraveOrder$Orders" 76 yX3_fillRow ∈ xtb := xtb_in 499 (by decide +kernel) (by decide +kernel)
theorem kw_503 : Cond.methodLink "GraveOrder$Orders" 139 yX3_leastNext ∈ xtb := xtb_in 503 (by decide +kernel) (by decide +kernel)
theorem kw_507 : Cond.methodLink "GraveOrder" 171 yX1_turnedCanBe ∈ xtb := xtb_in 507 (by decide +kernel) (by decide +kernel)
theorem kw_511 : Cond.methodLink "GraveOrder$FirstRow" 37 yX5_canBe ∈ xtb := xtb_in 511 (by decide +kernel) (by decide +kernel)
theorem kw_512 : Cond.methodLink "GraveOrderLaw" 69 yX6_first ∈ xtb := xtb_in 512 (by decide +kernel) (by decide +kernel)
theorem kw_516 : Cond.methodLink "GraveOrderLaw" 73 yX6_sure ∈ xtb := xtb_in 516 (by decide +kernel) (by decide +kernel)
theorem kw_520 : Cond.methodLink "GraveOrder" 174 yX3_alwaysAhead ∈ xtb := xtb_in 520 (by decide +kernel) (by decide +kernel)
theorem kw_524 : Cond.methodLink "GraveOrderLaw" 77 yX6_places ∈ xtb := xtb_in 524 (by decide +kernel) (by decide +kernel)
theorem kw_528 : Cond.methodLink "GraveOrder" 177 yX3_placesInBest ∈ xtb := xtb_in 528 (by decide +kernel) (by decide +kernel)
theorem kw_532 : Cond.methodLink "GraveOrder$Orders" 142 yJ6_bitCount_0f7a4 ∈ xtb := xtb_in 532 (by decide +kernel) (by decide +kernel)
theorem kw_533 : Cond.methodLink "GraveOrderLaw" 81 yX6_spread ∈ xtb := xtb_in 533 (by decide +kernel) (by decide +kernel)
theorem kw_537 : Cond.methodLink "GraveOrder" 180 yX3_settleSpread ∈ xtb := xtb_in 537 (by decide +kernel) (by decide +kernel)
theorem kw_541 : Cond.methodLink "GraveOrder$Orders" 145 yX3_gather ∈ xtb := xtb_in 541 (by decide +kernel) (by decide +kernel)
theorem kw_544 : Cond.methodLink "GraveOrder$Orders" 149 yX3_joinHalves ∈ xtb := xtb_in 544 (by decide +kernel) (by decide +kernel)
theorem kw_548 : Cond.methodLink "GraveOrder" 183 yX3_withGaps ∈ xtb := xtb_in 548 (by decide +kernel) (by decide +kernel)
theorem kw_552 : Cond.methodLink "GraveOrder" 186 yX3_withGapsUpTo ∈ xtb := xtb_in 552 (by decide +kernel) (by decide +kernel)
theorem kw_556 : Cond.methodLink "GraveOrderLaw" 85 yX6_mean ∈ xtb := xtb_in 556 (by decide +kernel) (by decide +kernel)
theorem kw_560 : Cond.methodLink "GraveOrder" 189 yX6_longRefusal ∈ xtb := xtb_in 560 (by decide +kernel) (by decide +kernel)
theorem kw_563 : Cond.constantLong "GraveOrder" 323 (-9223372036854775808) ∈ xtb := xtb_in 563 (by decide +kernel) (by decide +kernel)
theorem kw_564 : Cond.methodLink "GraveOrder" 193 yX3_gapsOfAll ∈ xtb := xtb_in 564 (by decide +kernel) (by decide +kernel)
theorem kw_568 : Cond.methodLink "GraveOrder" 197 yX6_inLowestTerms ∈ xtb := xtb_in 568 (by decide +kernel) (by decide +kernel)
theorem kw_571 : Cond.methodLink "GraveOrder" 325 yX6_commonDivisor ∈ xtb := xtb_in 571 (by decide +kernel) (by decide +kernel)
theorem kw_574 : Cond.methodLink "GraveOrder" 328 yJ9_max_7cf53 ∈ xtb := xtb_in 574 (by decide +kernel) (by decide +kernel)
theorem kw_575 : Cond.methodLink "GraveOrderLaw" 90 yX6_leftOut ∈ xtb := xtb_in 575 (by decide +kernel) (by decide +kernel)
theorem kw_579 : Cond.methodLink "GraveOrder" 201 yX3_fewestLeftOut ∈ xtb := xtb_in 579 (by decide +kernel) (by decide +kernel)
theorem kw_583 : Cond.methodLink "GraveOrder$Orders" 152 yX3_searchLeftOut ∈ xtb := xtb_in 583 (by decide +kernel) (by decide +kernel)
theorem kw_587 : Cond.methodLink "GraveOrder$Orders" 155 yX3_kindsWithGaps ∈ xtb := xtb_in 587 (by decide +kernel) (by decide +kernel)
theorem kw_591 : Cond.methodLink "GraveOrder$Orders" 158 yX3_reachesAllWithout ∈ xtb := xtb_in 591 (by decide +kernel) (by decide +kernel)
theorem kw_595 : Cond.methodLink "GraveOrderLaw" 94 yX6_mended ∈ xtb := xtb_in 595 (by decide +kernel) (by decide +kernel)
theorem kw_599 : Cond.methodLink "GraveOrder" 204 yX1_mending ∈ xtb := xtb_in 599 (by decide +kernel) (by decide +kernel)
theorem kw_603 : Cond.methodLink "GraveOrder$FirstRow" 61 yX1_hasAt ∈ xtb := xtb_in 603 (by decide +kernel) (by decide +kernel)
theorem kw_607 : Cond.methodLink "GraveOrder$FirstRow" 65 yX1_mendingFrom ∈ xtb := xtb_in 607 (by decide +kernel) (by decide +kernel)
theorem kw_611 : Cond.methodLink "GraveOrder$FirstRow" 56 yJ9_min_7cf53 ∈ xtb := xtb_in 611 (by decide +kernel) (by decide +kernel)
theorem kw_612 : Cond.methodLink "GraveOrder$FirstRow" 49 yX1_robbedAt ∈ xtb := xtb_in 612 (by decide +kernel) (by decide +kernel)
theorem kw_616 : Cond.methodLink "GraveOrderLaw" 98 yX6_phases ∈ xtb := xtb_in 616 (by decide +kernel) (by decide +kernel)
theorem kw_620 : Cond.methodLink "GraveOrder" 207 yX1_bestCuts ∈ xtb := xtb_in 620 (by decide +kernel) (by decide +kernel)
theorem kw_624 : Cond.constant "GraveOrder$FirstRow" 71 (1000000) ∈ xtb := xtb_in 624 (by decide +kernel) (by decide +kernel)
theorem kw_625 : Cond.methodLink "GraveOrder$FirstRow" 72 yJ9_max_7cf53 ∈ xtb := xtb_in 625 (by decide +kernel) (by decide +kernel)
theorem kw_626 : Cond.methodLink "GraveOrder$FirstRow" 75 yJ6_bitCount_0f7a4 ∈ xtb := xtb_in 626 (by decide +kernel) (by decide +kernel)
theorem kw_627 : Cond.methodLink "GraveOrder$FirstRow" 80 yX1_straddles ∈ xtb := xtb_in 627 (by decide +kernel) (by decide +kernel)
theorem kw_631 : Cond.methodLink "GraveOrder$FirstRow" 83 yX1_isCutAhead ∈ xtb := xtb_in 631 (by decide +kernel) (by decide +kernel)
theorem kw_635 : Cond.methodLink "GraveOrder$FirstRow" 86 yX5_kindsOfAll ∈ xtb := xtb_in 635 (by decide +kernel) (by decide +kernel)
theorem kw_639 : Cond.methodLink "GraveOrder" 210 yX1_straddles ∈ xtb := xtb_in 639 (by decide +kernel) (by decide +kernel)
theorem kw_640 : Cond.methodLink "GraveOrder" 213 yX1_partOf ∈ xtb := xtb_in 640 (by decide +kernel) (by decide +kernel)
theorem kw_644 : Cond.methodLink "GraveOrder$FirstRow" 90 yX1_placeOf ∈ xtb := xtb_in 644 (by decide +kernel) (by decide +kernel)
theorem kw_648 : Cond.methodLink "GraveOrderLaw" 102 yX6_years ∈ xtb := xtb_in 648 (by decide +kernel) (by decide +kernel)
theorem kw_652 : Cond.methodLink "GraveOrder" 216 yX1_yearOfGrave ∈ xtb := xtb_in 652 (by decide +kernel) (by decide +kernel)
theorem kw_656 : Cond.methodLink "GraveOrder" 219 yX5_kindsOfAll ∈ xtb := xtb_in 656 (by decide +kernel) (by decide +kernel)
theorem kw_657 : Cond.methodLink "GraveOrder" 222 yX1_yearOfKind ∈ xtb := xtb_in 657 (by decide +kernel) (by decide +kernel)
theorem kw_661 : Cond.methodLink "GraveOrder$FirstRow" 99 yX1_yearOfGrave ∈ xtb := xtb_in 661 (by decide +kernel) (by decide +kernel)
theorem kw_662 : Cond.methodLink "GraveOrderLaw" 106 yX6_fresh ∈ xtb := xtb_in 662 (by decide +kernel) (by decide +kernel)
theorem kw_666 : Cond.methodLink "GraveOrder" 225 yX1_fewestGapsWith ∈ xtb := xtb_in 666 (by decide +kernel) (by decide +kernel)
theorem kw_670 : Cond.methodLink "GraveOrder$FirstRow" 53 yX1_gapsWith ∈ xtb := xtb_in 670 (by decide +kernel) (by decide +kernel)
theorem kw_674 : Cond.methodLink "GraveOrder" 228 yX1_placesWith ∈ xtb := xtb_in 674 (by decide +kernel) (by decide +kernel)
theorem kw_678 : Cond.methodLink "GraveOrderLaw" 110 yX6_alike ∈ xtb := xtb_in 678 (by decide +kernel) (by decide +kernel)
theorem kw_682 : Cond.methodLink "GraveOrder" 231 yX5_weightOfEither ∈ xtb := xtb_in 682 (by decide +kernel) (by decide +kernel)
theorem kw_686 : Cond.methodLink "GraveOrder" 234 yX5_weightOfBoth ∈ xtb := xtb_in 686 (by decide +kernel) (by decide +kernel)
theorem kw_690 : Cond.methodLink "GraveOrderLaw" 115 yX6_nearest ∈ xtb := xtb_in 690 (by decide +kernel) (by decide +kernel)
theorem kw_694 : Cond.methodLink "GraveOrder" 237 yX5_mostAlike ∈ xtb := xtb_in 694 (by decide +kernel) (by decide +kernel)
theorem kw_698 : Cond.methodLink "GraveOrder$Yard" 55 yX5_weightOfEither ∈ xtb := xtb_in 698 (by decide +kernel) (by decide +kernel)
theorem kw_699 : Cond.methodLink "GraveOrder$Yard" 58 yX5_weightOfBoth ∈ xtb := xtb_in 699 (by decide +kernel) (by decide +kernel)
theorem kw_700 : Cond.methodLink "GraveOrderLaw" 119 yX6_sheet ∈ xtb := xtb_in 700 (by decide +kernel) (by decide +kernel)
theorem kw_704 : Cond.methodLink "GraveOrder" 240 yX4_renew ∈ xtb := xtb_in 704 (by decide +kernel) (by decide +kernel)
theorem kw_708 : Cond.methodLink "GraveOrderLaw" 123 yX6_lose ∈ xtb := xtb_in 708 (by decide +kernel) (by decide +kernel)
theorem kw_712 : Cond.methodLink "GraveOrderLaw" 127 yX6_put ∈ xtb := xtb_in 712 (by decide +kernel) (by decide +kernel)
theorem kw_716 : Cond.methodLink "GraveOrder" 244 yX4_findingAt ∈ xtb := xtb_in 716 (by decide +kernel) (by decide +kernel)
theorem kw_720 : Cond.methodLink "GraveOrder" 247 yX4_store ∈ xtb := xtb_in 720 (by decide +kernel) (by decide +kernel)
theorem kw_724 : Cond.methodLink "GraveOrderLaw" 132 yX6_get ∈ xtb := xtb_in 724 (by decide +kernel) (by decide +kernel)
theorem kw_728 : Cond.constant "GraveOrder" 250 (-2147483648) ∈ xtb := xtb_in 728 (by decide +kernel) (by decide +kernel)
theorem kw_729 : Cond.methodLink "GraveOrderLaw" 136 yX6_copy ∈ xtb := xtb_in 729 (by decide +kernel) (by decide +kernel)
theorem kw_733 : Cond.methodLink "GraveOrder" 254 yX4_holdsRun ∈ xtb := xtb_in 733 (by decide +kernel) (by decide +kernel)
theorem kw_740 : Cond.methodLink "GraveOrderLaw" 141 yX6_write ∈ xtb := xtb_in 740 (by decide +kernel) (by decide +kernel)
theorem kw_744 : Cond.methodLink "GraveOrder" 263 yJ9_min_7cf53 ∈ xtb := xtb_in 744 (by decide +kernel) (by decide +kernel)
theorem kw_745 : Cond.methodLink "GraveOrderLaw" 145 yX6_count ∈ xtb := xtb_in 745 (by decide +kernel) (by decide +kernel)
theorem kw_749 : Cond.methodLink "GraveOrder" 269 yX5_allFinds ∈ xtb := xtb_in 749 (by decide +kernel) (by decide +kernel)
theorem kw_753 : Cond.methodLink "GraveOrderLaw" 149 yX6_digest ∈ xtb := xtb_in 753 (by decide +kernel) (by decide +kernel)
theorem kw_757 : Cond.constantLong "GraveOrder" 272 (17) ∈ xtb := xtb_in 757 (by decide +kernel) (by decide +kernel)
theorem kw_758 : Cond.constantLong "GraveOrder" 274 (31) ∈ xtb := xtb_in 758 (by decide +kernel) (by decide +kernel)
theorem kw_759 : Cond.methodLink "GraveOrder" 276 yX6_count ∈ xtb := xtb_in 759 (by decide +kernel) (by decide +kernel)
theorem kw_760 : Cond.methodLink "GraveOrder" 279 yX6_fault ∈ xtb := xtb_in 760 (by decide +kernel) (by decide +kernel)
theorem kw_761 : Cond.methodLink "GraveOrder" 282 yX6_digestOfGraves ∈ xtb := xtb_in 761 (by decide +kernel) (by decide +kernel)
theorem kw_765 : Cond.methodLink "GraveOrder" 292 yX6_has ∈ xtb := xtb_in 765 (by decide +kernel) (by decide +kernel)
theorem kw_766 : Cond.methodLink "GraveOrder" 295 yX6_first ∈ xtb := xtb_in 766 (by decide +kernel) (by decide +kernel)
theorem kw_767 : Cond.methodLink "GraveOrder" 298 yX6_places ∈ xtb := xtb_in 767 (by decide +kernel) (by decide +kernel)
theorem kw_768 : Cond.methodLink "GraveOrder" 301 yX6_years ∈ xtb := xtb_in 768 (by decide +kernel) (by decide +kernel)
theorem kw_769 : Cond.methodLink "GraveOrder" 305 yX6_nearest ∈ xtb := xtb_in 769 (by decide +kernel) (by decide +kernel)
theorem kw_770 : Cond.methodLink "GraveOrder" 286 yX6_digestOfOrders ∈ xtb := xtb_in 770 (by decide +kernel) (by decide +kernel)
theorem kw_774 : Cond.methodLink "GraveOrder" 308 yX6_best ∈ xtb := xtb_in 774 (by decide +kernel) (by decide +kernel)
theorem kw_775 : Cond.methodLink "GraveOrder" 311 yX6_spread ∈ xtb := xtb_in 775 (by decide +kernel) (by decide +kernel)
theorem kw_776 : Cond.methodLink "GraveOrder" 314 yX6_mean ∈ xtb := xtb_in 776 (by decide +kernel) (by decide +kernel)
theorem kw_777 : Cond.methodLink "GraveOrder" 317 yX6_leftOut ∈ xtb := xtb_in 777 (by decide +kernel) (by decide +kernel)
theorem kw_778 : Cond.methodLink "GraveOrder" 320 yX6_phases ∈ xtb := xtb_in 778 (by decide +kernel) (by decide +kernel)
theorem kw_779 : Cond.methodLink "GraveOrder" 289 yX6_mended ∈ xtb := xtb_in 779 (by decide +kernel) (by decide +kernel)
theorem kw_782 : Cond.methodLink "GraveOrderLaw" 12 yX7_init ∈ xtb := xtb_in 782 (by decide +kernel) (by decide +kernel)
theorem kw_786 : Cond.fieldLink "GraveOrderModel" 95 "GraveOrderModel" "graves" "I" ∈ xtb := xtb_in 786 (by decide +kernel) (by decide +kernel)
theorem kw_787 : Cond.fieldLink "GraveOrderModel" 7 "GraveOrderModel" "from" "[I" ∈ xtb := xtb_in 787 (by decide +kernel) (by decide +kernel)
theorem kw_788 : Cond.fieldLink "GraveOrderModel" 13 "GraveOrderModel" "to" "[I" ∈ xtb := xtb_in 788 (by decide +kernel) (by decide +kernel)
theorem kw_789 : Cond.fieldLink "GraveOrderModel" 110 "GraveOrderModel" "robbers" "I" ∈ xtb := xtb_in 789 (by decide +kernel) (by decide +kernel)
theorem kw_790 : Cond.fieldLink "GraveOrderModel" 16 "GraveOrderModel" "weights" "[I" ∈ xtb := xtb_in 790 (by decide +kernel) (by decide +kernel)
theorem kw_791 : Cond.fieldLink "GraveOrderModel" 116 "GraveOrderModel" "overs" "I" ∈ xtb := xtb_in 791 (by decide +kernel) (by decide +kernel)
theorem kw_792 : Cond.fieldLink "GraveOrderModel" 19 "GraveOrderModel" "upper" "[I" ∈ xtb := xtb_in 792 (by decide +kernel) (by decide +kernel)
theorem kw_793 : Cond.fieldLink "GraveOrderModel" 22 "GraveOrderModel" "lower" "[I" ∈ xtb := xtb_in 793 (by decide +kernel) (by decide +kernel)
theorem kw_794 : Cond.fieldLink "GraveOrderModel" 133 "GraveOrderModel" "tellings" "I" ∈ xtb := xtb_in 794 (by decide +kernel) (by decide +kernel)
theorem kw_795 : Cond.fieldLink "GraveOrderModel" 25 "GraveOrderModel" "toldGrave" "[I" ∈ xtb := xtb_in 795 (by decide +kernel) (by decide +kernel)
theorem kw_796 : Cond.fieldLink "GraveOrderModel" 28 "GraveOrderModel" "toldKind" "[I" ∈ xtb := xtb_in 796 (by decide +kernel) (by decide +kernel)
theorem kw_797 : Cond.fieldLink "GraveOrderModel" 31 "GraveOrderModel" "toldHas" "[I" ∈ xtb := xtb_in 797 (by decide +kernel) (by decide +kernel)
theorem kw_798 : Cond.fieldLink "GraveOrderModel" 34 "GraveOrderModel" "toldTime" "[I" ∈ xtb := xtb_in 798 (by decide +kernel) (by decide +kernel)
theorem kw_799 : Cond.fieldLink "GraveOrderModel" 37 "GraveOrderModel" "knownTo" "I" ∈ xtb := xtb_in 799 (by decide +kernel) (by decide +kernel)
theorem kw_800 : Cond.fieldLink "GraveOrderModel" 102 "GraveOrderModel" "isWorked" "Z" ∈ xtb := xtb_in 800 (by decide +kernel) (by decide +kernel)
theorem kw_801 : Cond.fieldLink "GraveOrderModel" 119 "GraveOrderModel" "typed" "I" ∈ xtb := xtb_in 801 (by decide +kernel) (by decide +kernel)
theorem kw_802 : Cond.fieldLink "GraveOrderModel" 41 "GraveOrderModel" "text" "[I" ∈ xtb := xtb_in 802 (by decide +kernel) (by decide +kernel)
theorem kw_803 : Cond.fieldLink "GraveOrderModel" 122 "GraveOrderModel" "said" "I" ∈ xtb := xtb_in 803 (by decide +kernel) (by decide +kernel)
theorem kw_804 : Cond.fieldLink "GraveOrderModel" 44 "GraveOrderModel" "saidGrave" "[I" ∈ xtb := xtb_in 804 (by decide +kernel) (by decide +kernel)
theorem kw_805 : Cond.fieldLink "GraveOrderModel" 47 "GraveOrderModel" "saidKind" "[I" ∈ xtb := xtb_in 805 (by decide +kernel) (by decide +kernel)
theorem kw_806 : Cond.fieldLink "GraveOrderModel" 50 "GraveOrderModel" "saidHas" "[I" ∈ xtb := xtb_in 806 (by decide +kernel) (by decide +kernel)
theorem kw_807 : Cond.fieldLink "GraveOrderModel" 53 "GraveOrderModel" "have" "[I" ∈ xtb := xtb_in 807 (by decide +kernel) (by decide +kernel)
theorem kw_808 : Cond.fieldLink "GraveOrderModel" 56 "GraveOrderModel" "order" "[I" ∈ xtb := xtb_in 808 (by decide +kernel) (by decide +kernel)
theorem kw_809 : Cond.fieldLink "GraveOrderModel" 160 "GraveOrderModel" "fewest" "I" ∈ xtb := xtb_in 809 (by decide +kernel) (by decide +kernel)
theorem kw_810 : Cond.fieldLink "GraveOrderModel" 163 "GraveOrderModel" "bestMany" "I" ∈ xtb := xtb_in 810 (by decide +kernel) (by decide +kernel)
theorem kw_811 : Cond.fieldLink "GraveOrderModel" 166 "GraveOrderModel" "canMany" "I" ∈ xtb := xtb_in 811 (by decide +kernel) (by decide +kernel)
theorem kw_812 : Cond.fieldLink "GraveOrderModel" 169 "GraveOrderModel" "gapSum" "J" ∈ xtb := xtb_in 812 (by decide +kernel) (by decide +kernel)
theorem kw_813 : Cond.fieldLink "GraveOrderModel" 59 "GraveOrderModel" "spreads" "[I" ∈ xtb := xtb_in 813 (by decide +kernel) (by decide +kernel)
theorem kw_814 : Cond.fieldLink "GraveOrderModel" 62 "GraveOrderModel" "firstOrder" "[I" ∈ xtb := xtb_in 814 (by decide +kernel) (by decide +kernel)
theorem kw_815 : Cond.fieldLink "GraveOrderModel" 65 "GraveOrderModel" "ahead" "[I" ∈ xtb := xtb_in 815 (by decide +kernel) (by decide +kernel)
theorem kw_816 : Cond.fieldLink "GraveOrderModel" 68 "GraveOrderModel" "placesOf" "[I" ∈ xtb := xtb_in 816 (by decide +kernel) (by decide +kernel)
theorem kw_817 : Cond.fieldLink "GraveOrderModel" 173 "GraveOrderModel" "out" "I" ∈ xtb := xtb_in 817 (by decide +kernel) (by decide +kernel)
theorem kw_818 : Cond.fieldLink "GraveOrderModel" 71 "GraveOrderModel" "partAt" "[I" ∈ xtb := xtb_in 818 (by decide +kernel) (by decide +kernel)
theorem kw_819 : Cond.fieldLink "GraveOrderModel" 74 "GraveOrderModel" "bestPart" "[I" ∈ xtb := xtb_in 819 (by decide +kernel) (by decide +kernel)
theorem kw_820 : Cond.fieldLink "GraveOrderModel" 77 "GraveOrderModel" "isThere" "[Z" ∈ xtb := xtb_in 820 (by decide +kernel) (by decide +kernel)
theorem kw_821 : Cond.fieldLink "GraveOrderModel" 81 "GraveOrderModel" "forms" "[I" ∈ xtb := xtb_in 821 (by decide +kernel) (by decide +kernel)
theorem kw_822 : Cond.fieldLink "GraveOrderModel" 84 "GraveOrderModel" "sizes" "[I" ∈ xtb := xtb_in 822 (by decide +kernel) (by decide +kernel)
theorem kw_823 : Cond.fieldLink "GraveOrderModel" 87 "GraveOrderModel" "items" "[I" ∈ xtb := xtb_in 823 (by decide +kernel) (by decide +kernel)
theorem kw_824 : Cond.fieldLink "GraveOrderModel" 90 "GraveOrderModel" "moved" "[I" ∈ xtb := xtb_in 824 (by decide +kernel) (by decide +kernel)
theorem kw_825 : Cond.fieldLink "GraveOrderModel" 259 "GraveOrderModel" "finding" "I" ∈ xtb := xtb_in 825 (by decide +kernel) (by decide +kernel)
theorem kw_907 : Cond.methodLink "GraveOrderLaw" 17 yX7_grave ∈ xtb := xtb_in 907 (by decide +kernel) (by decide +kernel)
theorem kw_911 : Cond.methodLink "GraveOrderModel" 98 yX7_in ∈ xtb := xtb_in 911 (by decide +kernel) (by decide +kernel)
theorem kw_914 : Cond.methodLink "GraveOrderLaw" 21 yX7_robbed ∈ xtb := xtb_in 914 (by decide +kernel) (by decide +kernel)
theorem kw_918 : Cond.methodLink "GraveOrderModel" 106 yX7_isGrave ∈ xtb := xtb_in 918 (by decide +kernel) (by decide +kernel)
theorem kw_922 : Cond.methodLink "GraveOrderLaw" 25 yX7_weight ∈ xtb := xtb_in 922 (by decide +kernel) (by decide +kernel)
theorem kw_926 : Cond.methodLink "GraveOrderModel" 113 yX7_isKind ∈ xtb := xtb_in 926 (by decide +kernel) (by decide +kernel)
theorem kw_929 : Cond.methodLink "GraveOrderLaw" 29 yX7_over ∈ xtb := xtb_in 929 (by decide +kernel) (by decide +kernel)
theorem kw_933 : Cond.methodLink "GraveOrderLaw" 34 yX7_type ∈ xtb := xtb_in 933 (by decide +kernel) (by decide +kernel)
theorem kw_937 : Cond.methodLink "GraveOrderLaw" 39 yX7_wipe ∈ xtb := xtb_in 937 (by decide +kernel) (by decide +kernel)
theorem kw_941 : Cond.methodLink "GraveOrderLaw" 43 yX7_fault ∈ xtb := xtb_in 941 (by decide +kernel) (by decide +kernel)
theorem kw_945 : Cond.methodLink "GraveOrderModel" 129 yX7_faultNow ∈ xtb := xtb_in 945 (by decide +kernel) (by decide +kernel)
theorem kw_949 : Cond.methodLink "GraveOrderModel" 125 yX7_byteAt ∈ xtb := xtb_in 949 (by decide +kernel) (by decide +kernel)
theorem kw_953 : Cond.methodLink "GraveOrderLaw" 47 yX7_tell ∈ xtb := xtb_in 953 (by decide +kernel) (by decide +kernel)
theorem kw_957 : Cond.methodLink "GraveOrderModel" 136 yX7_lastTime ∈ xtb := xtb_in 957 (by decide +kernel) (by decide +kernel)
theorem kw_961 : Cond.methodLink "GraveOrderModel" 139 yX7_tells ∈ xtb := xtb_in 961 (by decide +kernel) (by decide +kernel)
theorem kw_965 : Cond.methodLink "GraveOrderLaw" 52 yX7_read ∈ xtb := xtb_in 965 (by decide +kernel) (by decide +kernel)
theorem kw_969 : Cond.methodLink "GraveOrderModel" 143 yX7_isSheet ∈ xtb := xtb_in 969 (by decide +kernel) (by decide +kernel)
theorem kw_972 : Cond.methodLink "GraveOrderModel" 146 yX7_meets ∈ xtb := xtb_in 972 (by decide +kernel) (by decide +kernel)
theorem kw_976 : Cond.methodLink "GraveOrderLaw" 56 yX7_asOf ∈ xtb := xtb_in 976 (by decide +kernel) (by decide +kernel)
theorem kw_980 : Cond.methodLink "GraveOrderLaw" 60 yX7_has ∈ xtb := xtb_in 980 (by decide +kernel) (by decide +kernel)
theorem kw_984 : Cond.methodLink "GraveOrderModel" 149 yX7_lays ∈ xtb := xtb_in 984 (by decide +kernel) (by decide +kernel)
theorem kw_988 : Cond.methodLink "GraveOrderLaw" 64 yX7_gaps ∈ xtb := xtb_in 988 (by decide +kernel) (by decide +kernel)
theorem kw_992 : Cond.methodLink "GraveOrderModel" 152 yX7_is ∈ xtb := xtb_in 992 (by decide +kernel) (by decide +kernel)
theorem kw_995 : Cond.methodLink "GraveOrderModel" 195 yX7_gapsNow ∈ xtb := xtb_in 995 (by decide +kernel) (by decide +kernel)
theorem kw_999 : Cond.methodLink "GraveOrderModel" 156 yX7_gapsOf ∈ xtb := xtb_in 999 (by decide +kernel) (by decide +kernel)
theorem kw_1003 : Cond.methodLink "GraveOrderModel" 179 yX7_canBe ∈ xtb := xtb_in 1003 (by decide +kernel) (by decide +kernel)
theorem kw_1007 : Cond.methodLink "GraveOrderLaw" 68 yX7_best ∈ xtb := xtb_in 1007 (by decide +kernel) (by decide +kernel)
theorem kw_1011 : Cond.methodLink "GraveOrderModel" 204 yX7_bestNow ∈ xtb := xtb_in 1011 (by decide +kernel) (by decide +kernel)
theorem kw_1015 : Cond.methodLink "GraveOrderModel" 198 yX7_areAny ∈ xtb := xtb_in 1015 (by decide +kernel) (by decide +kernel)
theorem kw_1019 : Cond.methodLink "GraveOrderModel" 192 yX7_works ∈ xtb := xtb_in 1019 (by decide +kernel) (by decide +kernel)
theorem kw_1023 : Cond.constant "GraveOrderModel" 159 (100000) ∈ xtb := xtb_in 1023 (by decide +kernel) (by decide +kernel)
theorem kw_1024 : Cond.methodLink "GraveOrderModel" 176 yX7_plain ∈ xtb := xtb_in 1024 (by decide +kernel) (by decide +kernel)
theorem kw_1028 : Cond.methodLink "GraveOrderModel" 183 yX7_counts ∈ xtb := xtb_in 1028 (by decide +kernel) (by decide +kernel)
theorem kw_1032 : Cond.methodLink "GraveOrderModel" 189 yX7_ones ∈ xtb := xtb_in 1032 (by decide +kernel) (by decide +kernel)
theorem kw_1035 : Cond.methodLink "GraveOrderModel" 186 yX7_turns ∈ xtb := xtb_in 1035 (by decide +kernel) (by decide +kernel)
theorem kw_1039 : Cond.methodLink "GraveOrderModel" 201 yX7_turnedNow ∈ xtb := xtb_in 1039 (by decide +kernel) (by decide +kernel)
theorem kw_1043 : Cond.methodLink "GraveOrderLaw" 72 yX7_first ∈ xtb := xtb_in 1043 (by decide +kernel) (by decide +kernel)
theorem kw_1047 : Cond.methodLink "GraveOrderModel" 207 yX7_firstNow ∈ xtb := xtb_in 1047 (by decide +kernel) (by decide +kernel)
theorem kw_1051 : Cond.methodLink "GraveOrderLaw" 76 yX7_sure ∈ xtb := xtb_in 1051 (by decide +kernel) (by decide +kernel)
theorem kw_1055 : Cond.methodLink "GraveOrderLaw" 80 yX7_places ∈ xtb := xtb_in 1055 (by decide +kernel) (by decide +kernel)
theorem kw_1059 : Cond.methodLink "GraveOrderModel" 210 yX7_placesNow ∈ xtb := xtb_in 1059 (by decide +kernel) (by decide +kernel)
theorem kw_1063 : Cond.methodLink "GraveOrderLaw" 84 yX7_spread ∈ xtb := xtb_in 1063 (by decide +kernel) (by decide +kernel)
theorem kw_1067 : Cond.methodLink "GraveOrderModel" 213 yX7_spreadNow ∈ xtb := xtb_in 1067 (by decide +kernel) (by decide +kernel)
theorem kw_1071 : Cond.methodLink "GraveOrderLaw" 89 yX7_mean ∈ xtb := xtb_in 1071 (by decide +kernel) (by decide +kernel)
theorem kw_1075 : Cond.methodLink "GraveOrderModel" 225 yX7_meanNow ∈ xtb := xtb_in 1075 (by decide +kernel) (by decide +kernel)
theorem kw_1079 : Cond.methodLink "GraveOrderModel" 217 yX7_lowest ∈ xtb := xtb_in 1079 (by decide +kernel) (by decide +kernel)
theorem kw_1082 : Cond.methodLink "GraveOrderModel" 221 yX7_no ∈ xtb := xtb_in 1082 (by decide +kernel) (by decide +kernel)
theorem kw_1085 : Cond.constantLong "GraveOrderModel" 93 (-9223372036854775808) ∈ xtb := xtb_in 1085 (by decide +kernel) (by decide +kernel)
theorem kw_1086 : Cond.methodLink "GraveOrderLaw" 93 yX7_leftOut ∈ xtb := xtb_in 1086 (by decide +kernel) (by decide +kernel)
theorem kw_1090 : Cond.methodLink "GraveOrderModel" 228 yX7_leftNow ∈ xtb := xtb_in 1090 (by decide +kernel) (by decide +kernel)
theorem kw_1094 : Cond.methodLink "GraveOrderLaw" 97 yX7_mended ∈ xtb := xtb_in 1094 (by decide +kernel) (by decide +kernel)
theorem kw_1098 : Cond.methodLink "GraveOrderModel" 231 yX7_mendedNow ∈ xtb := xtb_in 1098 (by decide +kernel) (by decide +kernel)
theorem kw_1102 : Cond.methodLink "GraveOrderLaw" 101 yX7_phases ∈ xtb := xtb_in 1102 (by decide +kernel) (by decide +kernel)
theorem kw_1106 : Cond.methodLink "GraveOrderModel" 240 yX7_phasesNow ∈ xtb := xtb_in 1106 (by decide +kernel) (by decide +kernel)
theorem kw_1110 : Cond.methodLink "GraveOrderModel" 234 yX7_straddles ∈ xtb := xtb_in 1110 (by decide +kernel) (by decide +kernel)
theorem kw_1114 : Cond.methodLink "GraveOrderModel" 237 yX7_isEarlier ∈ xtb := xtb_in 1114 (by decide +kernel) (by decide +kernel)
theorem kw_1118 : Cond.methodLink "GraveOrderLaw" 105 yX7_years ∈ xtb := xtb_in 1118 (by decide +kernel) (by decide +kernel)
theorem kw_1122 : Cond.methodLink "GraveOrderModel" 246 yX7_graveYear ∈ xtb := xtb_in 1122 (by decide +kernel) (by decide +kernel)
theorem kw_1126 : Cond.methodLink "GraveOrderModel" 243 yX7_yearOf ∈ xtb := xtb_in 1126 (by decide +kernel) (by decide +kernel)
theorem kw_1130 : Cond.methodLink "GraveOrderLaw" 109 yX7_fresh ∈ xtb := xtb_in 1130 (by decide +kernel) (by decide +kernel)
theorem kw_1134 : Cond.methodLink "GraveOrderModel" 249 yX7_gapsWith ∈ xtb := xtb_in 1134 (by decide +kernel) (by decide +kernel)
theorem kw_1138 : Cond.methodLink "GraveOrderLaw" 114 yX7_alike ∈ xtb := xtb_in 1138 (by decide +kernel) (by decide +kernel)
theorem kw_1142 : Cond.methodLink "GraveOrderModel" 253 yX7_weightOf ∈ xtb := xtb_in 1142 (by decide +kernel) (by decide +kernel)
theorem kw_1146 : Cond.methodLink "GraveOrderLaw" 118 yX7_nearest ∈ xtb := xtb_in 1146 (by decide +kernel) (by decide +kernel)
theorem kw_1150 : Cond.methodLink "GraveOrderModel" 256 yX7_nearestNow ∈ xtb := xtb_in 1150 (by decide +kernel) (by decide +kernel)
theorem kw_1154 : Cond.methodLink "GraveOrderLaw" 122 yX7_sheet ∈ xtb := xtb_in 1154 (by decide +kernel) (by decide +kernel)
theorem kw_1158 : Cond.methodLink "GraveOrderLaw" 126 yX7_lose ∈ xtb := xtb_in 1158 (by decide +kernel) (by decide +kernel)
theorem kw_1162 : Cond.methodLink "GraveOrderLaw" 131 yX7_put ∈ xtb := xtb_in 1162 (by decide +kernel) (by decide +kernel)
theorem kw_1166 : Cond.methodLink "GraveOrderModel" 262 yX7_lacks ∈ xtb := xtb_in 1166 (by decide +kernel) (by decide +kernel)
theorem kw_1170 : Cond.methodLink "GraveOrderModel" 266 yX7_keep ∈ xtb := xtb_in 1170 (by decide +kernel) (by decide +kernel)
theorem kw_1174 : Cond.methodLink "GraveOrderLaw" 135 yX7_get ∈ xtb := xtb_in 1174 (by decide +kernel) (by decide +kernel)
theorem kw_1178 : Cond.constant "GraveOrderModel" 270 (-2147483648) ∈ xtb := xtb_in 1178 (by decide +kernel) (by decide +kernel)
theorem kw_1179 : Cond.methodLink "GraveOrderLaw" 140 yX7_copy ∈ xtb := xtb_in 1179 (by decide +kernel) (by decide +kernel)
theorem kw_1183 : Cond.methodLink "GraveOrderLaw" 144 yX7_write ∈ xtb := xtb_in 1183 (by decide +kernel) (by decide +kernel)
theorem kw_1187 : Cond.methodLink "GraveOrderLaw" 148 yX7_count ∈ xtb := xtb_in 1187 (by decide +kernel) (by decide +kernel)
theorem kw_1191 : Cond.methodLink "GraveOrderModel" 271 yX7_countNow ∈ xtb := xtb_in 1191 (by decide +kernel) (by decide +kernel)
theorem kw_1195 : Cond.methodLink "GraveOrderLaw" 153 yX7_digest ∈ xtb := xtb_in 1195 (by decide +kernel) (by decide +kernel)
theorem kw_1199 : Cond.constantLong "GraveOrderModel" 274 (17) ∈ xtb := xtb_in 1199 (by decide +kernel) (by decide +kernel)
theorem kw_1200 : Cond.constantLong "GraveOrderModel" 276 (31) ∈ xtb := xtb_in 1200 (by decide +kernel) (by decide +kernel)
theorem kw_1201 : Cond.methodLink "GraveOrderModel" 278 yX7_count ∈ xtb := xtb_in 1201 (by decide +kernel) (by decide +kernel)
theorem kw_443_max : Cond.methodLink "GraveOrder$Yard" 49 Lib.Math.max.name ∈ xtb := xtb_in 443 (by decide +kernel) (by decide +kernel)
theorem kw_469_max : Cond.methodLink "GraveOrder$Orders" 100 Lib.Math.max.name ∈ xtb := xtb_in 469 (by decide +kernel) (by decide +kernel)
theorem kw_574_max : Cond.methodLink "GraveOrder" 328 Lib.Math.max.name ∈ xtb := xtb_in 574 (by decide +kernel) (by decide +kernel)
theorem kw_625_max : Cond.methodLink "GraveOrder$FirstRow" 72 Lib.Math.max.name ∈ xtb := xtb_in 625 (by decide +kernel) (by decide +kernel)
theorem kmath_max : Cond.static Lib.Math.max.name ∈ xtb ∧ Cond.code Lib.Math.max.name Lib.Math.max.code 2 (some .int) ∈ xtb := ⟨xtb_in 444 (by decide +kernel) (by decide +kernel), xtb_in 445 (by decide +kernel) (by decide +kernel)⟩
theorem kw_488_min : Cond.methodLink "GraveOrder$Orders" 132 Lib.Math.min.name ∈ xtb := xtb_in 488 (by decide +kernel) (by decide +kernel)
theorem kw_611_min : Cond.methodLink "GraveOrder$FirstRow" 56 Lib.Math.min.name ∈ xtb := xtb_in 611 (by decide +kernel) (by decide +kernel)
theorem kw_744_min : Cond.methodLink "GraveOrder" 263 Lib.Math.min.name ∈ xtb := xtb_in 744 (by decide +kernel) (by decide +kernel)
theorem kmath_min : Cond.static Lib.Math.min.name ∈ xtb ∧ Cond.code Lib.Math.min.name Lib.Math.min.code 2 (some .int) ∈ xtb := ⟨xtb_in 489 (by decide +kernel) (by decide +kernel), xtb_in 490 (by decide +kernel) (by decide +kernel)⟩
theorem kmath : Cond.initialized "java/lang/Math" ∈ xtb := xtb_in 74 (by decide +kernel) (by decide +kernel)
theorem mv_X0_timeBefore : Cond.instanceMethod yX0_timeBefore ∈ xtb ∧ Cond.selects RX0 yX0_timeBefore yX0_timeBefore ∈ xtb ∧ Cond.initialized RX0 ∈ xtb ∧ Cond.code yX0_timeBefore cX0_timeBefore 1 (some .int) ∈ xtb := ⟨xtb_in 379 (by decide +kernel) (by decide +kernel), xtb_in 380 (by decide +kernel) (by decide +kernel), xtb_in 68 (by decide +kernel) (by decide +kernel), xtb_in 381 (by decide +kernel) (by decide +kernel)⟩
theorem mh_X0_timeBefore : yX0_timeBefore.cls = RX0 ∧ yX0_timeBefore.cls ≠ "java/lang/invoke/MethodHandle" ∧ yX0_timeBefore.cls ≠ "java/lang/invoke/VarHandle" ∧ (parseMethodDescriptor yX0_timeBefore.desc).map (fun d => d.parameters.length) = some 0 := by decide +kernel
theorem mv_X0_keep : Cond.instanceMethod yX0_keep ∈ xtb ∧ Cond.selects RX0 yX0_keep yX0_keep ∈ xtb ∧ Cond.initialized RX0 ∈ xtb ∧ Cond.code yX0_keep cX0_keep 5 (some .boolean) ∈ xtb := ⟨xtb_in 388 (by decide +kernel) (by decide +kernel), xtb_in 389 (by decide +kernel) (by decide +kernel), xtb_in 68 (by decide +kernel) (by decide +kernel), xtb_in 390 (by decide +kernel) (by decide +kernel)⟩
theorem mh_X0_keep : yX0_keep.cls = RX0 ∧ yX0_keep.cls ≠ "java/lang/invoke/MethodHandle" ∧ yX0_keep.cls ≠ "java/lang/invoke/VarHandle" ∧ (parseMethodDescriptor yX0_keep.desc).map (fun d => d.parameters.length) = some 4 := by decide +kernel
theorem mv_X0_layInto : Cond.instanceMethod yX0_layInto ∈ xtb ∧ Cond.selects RX0 yX0_layInto yX0_layInto ∈ xtb ∧ Cond.initialized RX0 ∈ xtb ∧ Cond.code yX0_layInto cX0_layInto 6 none ∈ xtb := ⟨xtb_in 396 (by decide +kernel) (by decide +kernel), xtb_in 397 (by decide +kernel) (by decide +kernel), xtb_in 68 (by decide +kernel) (by decide +kernel), xtb_in 398 (by decide +kernel) (by decide +kernel)⟩
theorem mh_X0_layInto : yX0_layInto.cls = RX0 ∧ yX0_layInto.cls ≠ "java/lang/invoke/MethodHandle" ∧ yX0_layInto.cls ≠ "java/lang/invoke/VarHandle" ∧ (parseMethodDescriptor yX0_layInto.desc).map (fun d => d.parameters.length) = some 2 := by decide +kernel
theorem mv_X1_hasAt : Cond.instanceMethod yX1_hasAt ∈ xtb ∧ Cond.selects RX1 yX1_hasAt yX1_hasAt ∈ xtb ∧ Cond.initialized RX1 ∈ xtb ∧ Cond.code yX1_hasAt cX1_hasAt 3 (some .boolean) ∈ xtb := ⟨xtb_in 605 (by decide +kernel) (by decide +kernel), xtb_in 22 (by decide +kernel) (by decide +kernel), xtb_in 70 (by decide +kernel) (by decide +kernel), xtb_in 606 (by decide +kernel) (by decide +kernel)⟩
theorem mh_X1_hasAt : yX1_hasAt.cls = RX1 ∧ yX1_hasAt.cls ≠ "java/lang/invoke/MethodHandle" ∧ yX1_hasAt.cls ≠ "java/lang/invoke/VarHandle" ∧ (parseMethodDescriptor yX1_hasAt.desc).map (fun d => d.parameters.length) = some 2 := by decide +kernel
theorem mv_X1_robbedAt : Cond.instanceMethod yX1_robbedAt ∈ xtb ∧ Cond.selects RX1 yX1_robbedAt yX1_robbedAt ∈ xtb ∧ Cond.initialized RX1 ∈ xtb ∧ Cond.code yX1_robbedAt cX1_robbedAt 2 (some .boolean) ∈ xtb := ⟨xtb_in 614 (by decide +kernel) (by decide +kernel), xtb_in 24 (by decide +kernel) (by decide +kernel), xtb_in 70 (by decide +kernel) (by decide +kernel), xtb_in 615 (by decide +kernel) (by decide +kernel)⟩
theorem mh_X1_robbedAt : yX1_robbedAt.cls = RX1 ∧ yX1_robbedAt.cls ≠ "java/lang/invoke/MethodHandle" ∧ yX1_robbedAt.cls ≠ "java/lang/invoke/VarHandle" ∧ (parseMethodDescriptor yX1_robbedAt.desc).map (fun d => d.parameters.length) = some 1 := by decide +kernel
theorem mv_X1_placeOf : Cond.instanceMethod yX1_placeOf ∈ xtb ∧ Cond.selects RX1 yX1_placeOf yX1_placeOf ∈ xtb ∧ Cond.initialized RX1 ∈ xtb ∧ Cond.code yX1_placeOf cX1_placeOf 4 (some .int) ∈ xtb := ⟨xtb_in 646 (by decide +kernel) (by decide +kernel), xtb_in 26 (by decide +kernel) (by decide +kernel), xtb_in 70 (by decide +kernel) (by decide +kernel), xtb_in 647 (by decide +kernel) (by decide +kernel)⟩
theorem mh_X1_placeOf : yX1_placeOf.cls = RX1 ∧ yX1_placeOf.cls ≠ "java/lang/invoke/MethodHandle" ∧ yX1_placeOf.cls ≠ "java/lang/invoke/VarHandle" ∧ (parseMethodDescriptor yX1_placeOf.desc).map (fun d => d.parameters.length) = some 1 := by decide +kernel
theorem mv_X1_turnedCanBe : Cond.instanceMethod yX1_turnedCanBe ∈ xtb ∧ Cond.selects RX1 yX1_turnedCanBe yX1_turnedCanBe ∈ xtb ∧ Cond.initialized RX1 ∈ xtb ∧ Cond.code yX1_turnedCanBe cX1_turnedCanBe 2 (some .boolean) ∈ xtb := ⟨xtb_in 508 (by decide +kernel) (by decide +kernel), xtb_in 509 (by decide +kernel) (by decide +kernel), xtb_in 70 (by decide +kernel) (by decide +kernel), xtb_in 510 (by decide +kernel) (by decide +kernel)⟩
theorem mh_X1_turnedCanBe : yX1_turnedCanBe.cls = RX1 ∧ yX1_turnedCanBe.cls ≠ "java/lang/invoke/MethodHandle" ∧ yX1_turnedCanBe.cls ≠ "java/lang/invoke/VarHandle" ∧ (parseMethodDescriptor yX1_turnedCanBe.desc).map (fun d => d.parameters.length) = some 0 := by decide +kernel
theorem mv_X1_gapsOfOrder : Cond.instanceMethod yX1_gapsOfOrder ∈ xtb ∧ Cond.selects RX1 yX1_gapsOfOrder yX1_gapsOfOrder ∈ xtb ∧ Cond.initialized RX1 ∈ xtb ∧ Cond.code yX1_gapsOfOrder cX1_gapsOfOrder 4 (some .int) ∈ xtb := ⟨xtb_in 431 (by decide +kernel) (by decide +kernel), xtb_in 432 (by decide +kernel) (by decide +kernel), xtb_in 70 (by decide +kernel) (by decide +kernel), xtb_in 433 (by decide +kernel) (by decide +kernel)⟩
theorem mh_X1_gapsOfOrder : yX1_gapsOfOrder.cls = RX1 ∧ yX1_gapsOfOrder.cls ≠ "java/lang/invoke/MethodHandle" ∧ yX1_gapsOfOrder.cls ≠ "java/lang/invoke/VarHandle" ∧ (parseMethodDescriptor yX1_gapsOfOrder.desc).map (fun d => d.parameters.length) = some 1 := by decide +kernel
theorem mv_X1_gapsAsLaid : Cond.instanceMethod yX1_gapsAsLaid ∈ xtb ∧ Cond.selects RX1 yX1_gapsAsLaid yX1_gapsAsLaid ∈ xtb ∧ Cond.initialized RX1 ∈ xtb ∧ Cond.code yX1_gapsAsLaid cX1_gapsAsLaid 8 (some .int) ∈ xtb := ⟨xtb_in 436 (by decide +kernel) (by decide +kernel), xtb_in 7 (by decide +kernel) (by decide +kernel), xtb_in 70 (by decide +kernel) (by decide +kernel), xtb_in 437 (by decide +kernel) (by decide +kernel)⟩
theorem mh_X1_gapsAsLaid : yX1_gapsAsLaid.cls = RX1 ∧ yX1_gapsAsLaid.cls ≠ "java/lang/invoke/MethodHandle" ∧ yX1_gapsAsLaid.cls ≠ "java/lang/invoke/VarHandle" ∧ (parseMethodDescriptor yX1_gapsAsLaid.desc).map (fun d => d.parameters.length) = some 2 := by decide +kernel
theorem mv_X1_gapsWith : Cond.instanceMethod yX1_gapsWith ∈ xtb ∧ Cond.selects RX1 yX1_gapsWith yX1_gapsWith ∈ xtb ∧ Cond.initialized RX1 ∈ xtb ∧ Cond.code yX1_gapsWith cX1_gapsWith 6 (some .int) ∈ xtb := ⟨xtb_in 672 (by decide +kernel) (by decide +kernel), xtb_in 27 (by decide +kernel) (by decide +kernel), xtb_in 70 (by decide +kernel) (by decide +kernel), xtb_in 673 (by decide +kernel) (by decide +kernel)⟩
theorem mh_X1_gapsWith : yX1_gapsWith.cls = RX1 ∧ yX1_gapsWith.cls ≠ "java/lang/invoke/MethodHandle" ∧ yX1_gapsWith.cls ≠ "java/lang/invoke/VarHandle" ∧ (parseMethodDescriptor yX1_gapsWith.desc).map (fun d => d.parameters.length) = some 2 := by decide +kernel
theorem mv_X1_fewestGapsWith : Cond.instanceMethod yX1_fewestGapsWith ∈ xtb ∧ Cond.selects RX1 yX1_fewestGapsWith yX1_fewestGapsWith ∈ xtb ∧ Cond.initialized RX1 ∈ xtb ∧ Cond.code yX1_fewestGapsWith cX1_fewestGapsWith 4 (some .int) ∈ xtb := ⟨xtb_in 667 (by decide +kernel) (by decide +kernel), xtb_in 668 (by decide +kernel) (by decide +kernel), xtb_in 70 (by decide +kernel) (by decide +kernel), xtb_in 669 (by decide +kernel) (by decide +kernel)⟩
theorem mh_X1_fewestGapsWith : yX1_fewestGapsWith.cls = RX1 ∧ yX1_fewestGapsWith.cls ≠ "java/lang/invoke/MethodHandle" ∧ yX1_fewestGapsWith.cls ≠ "java/lang/invoke/VarHandle" ∧ (parseMethodDescriptor yX1_fewestGapsWith.desc).map (fun d => d.parameters.length) = some 1 := by decide +kernel
theorem mv_X1_placesWith : Cond.instanceMethod yX1_placesWith ∈ xtb ∧ Cond.selects RX1 yX1_placesWith yX1_placesWith ∈ xtb ∧ Cond.initialized RX1 ∈ xtb ∧ Cond.code yX1_placesWith cX1_placesWith 5 (some .int) ∈ xtb := ⟨xtb_in 675 (by decide +kernel) (by decide +kernel), xtb_in 676 (by decide +kernel) (by decide +kernel), xtb_in 70 (by decide +kernel) (by decide +kernel), xtb_in 677 (by decide +kernel) (by decide +kernel)⟩
theorem mh_X1_placesWith : yX1_placesWith.cls = RX1 ∧ yX1_placesWith.cls ≠ "java/lang/invoke/MethodHandle" ∧ yX1_placesWith.cls ≠ "java/lang/invoke/VarHandle" ∧ (parseMethodDescriptor yX1_placesWith.desc).map (fun d => d.parameters.length) = some 2 := by decide +kernel
theorem mv_X1_mending : Cond.instanceMethod yX1_mending ∈ xtb ∧ Cond.selects RX1 yX1_mending yX1_mending ∈ xtb ∧ Cond.initialized RX1 ∈ xtb ∧ Cond.code yX1_mending cX1_mending 5 (some .int) ∈ xtb := ⟨xtb_in 600 (by decide +kernel) (by decide +kernel), xtb_in 601 (by decide +kernel) (by decide +kernel), xtb_in 70 (by decide +kernel) (by decide +kernel), xtb_in 602 (by decide +kernel) (by decide +kernel)⟩
theorem mh_X1_mending : yX1_mending.cls = RX1 ∧ yX1_mending.cls ≠ "java/lang/invoke/MethodHandle" ∧ yX1_mending.cls ≠ "java/lang/invoke/VarHandle" ∧ (parseMethodDescriptor yX1_mending.desc).map (fun d => d.parameters.length) = some 1 := by decide +kernel
theorem mv_X1_mendingFrom : Cond.instanceMethod yX1_mendingFrom ∈ xtb ∧ Cond.selects RX1 yX1_mendingFrom yX1_mendingFrom ∈ xtb ∧ Cond.initialized RX1 ∈ xtb ∧ Cond.code yX1_mendingFrom cX1_mendingFrom 8 (some .int) ∈ xtb := ⟨xtb_in 609 (by decide +kernel) (by decide +kernel), xtb_in 23 (by decide +kernel) (by decide +kernel), xtb_in 70 (by decide +kernel) (by decide +kernel), xtb_in 610 (by decide +kernel) (by decide +kernel)⟩
theorem mh_X1_mendingFrom : yX1_mendingFrom.cls = RX1 ∧ yX1_mendingFrom.cls ≠ "java/lang/invoke/MethodHandle" ∧ yX1_mendingFrom.cls ≠ "java/lang/invoke/VarHandle" ∧ (parseMethodDescriptor yX1_mendingFrom.desc).map (fun d => d.parameters.length) = some 3 := by decide +kernel
theorem mv_X1_bestCuts : Cond.instanceMethod yX1_bestCuts ∈ xtb ∧ Cond.selects RX1 yX1_bestCuts yX1_bestCuts ∈ xtb ∧ Cond.initialized RX1 ∈ xtb ∧ Cond.code yX1_bestCuts cX1_bestCuts 6 (some .int) ∈ xtb := ⟨xtb_in 621 (by decide +kernel) (by decide +kernel), xtb_in 622 (by decide +kernel) (by decide +kernel), xtb_in 70 (by decide +kernel) (by decide +kernel), xtb_in 623 (by decide +kernel) (by decide +kernel)⟩
theorem mh_X1_bestCuts : yX1_bestCuts.cls = RX1 ∧ yX1_bestCuts.cls ≠ "java/lang/invoke/MethodHandle" ∧ yX1_bestCuts.cls ≠ "java/lang/invoke/VarHandle" ∧ (parseMethodDescriptor yX1_bestCuts.desc).map (fun d => d.parameters.length) = some 1 := by decide +kernel
theorem mv_X1_isCutAhead : Cond.instanceMethod yX1_isCutAhead ∈ xtb ∧ Cond.selects RX1 yX1_isCutAhead yX1_isCutAhead ∈ xtb ∧ Cond.initialized RX1 ∈ xtb ∧ Cond.code yX1_isCutAhead cX1_isCutAhead 3 (some .boolean) ∈ xtb := ⟨xtb_in 633 (by decide +kernel) (by decide +kernel), xtb_in 25 (by decide +kernel) (by decide +kernel), xtb_in 70 (by decide +kernel) (by decide +kernel), xtb_in 634 (by decide +kernel) (by decide +kernel)⟩
theorem mh_X1_isCutAhead : yX1_isCutAhead.cls = RX1 ∧ yX1_isCutAhead.cls ≠ "java/lang/invoke/MethodHandle" ∧ yX1_isCutAhead.cls ≠ "java/lang/invoke/VarHandle" ∧ (parseMethodDescriptor yX1_isCutAhead.desc).map (fun d => d.parameters.length) = some 2 := by decide +kernel
theorem mv_X1_straddles : Cond.instanceMethod yX1_straddles ∈ xtb ∧ Cond.selects RX1 yX1_straddles yX1_straddles ∈ xtb ∧ Cond.initialized RX1 ∈ xtb ∧ Cond.code yX1_straddles cX1_straddles 5 (some .int) ∈ xtb := ⟨xtb_in 628 (by decide +kernel) (by decide +kernel), xtb_in 629 (by decide +kernel) (by decide +kernel), xtb_in 70 (by decide +kernel) (by decide +kernel), xtb_in 630 (by decide +kernel) (by decide +kernel)⟩
theorem mh_X1_straddles : yX1_straddles.cls = RX1 ∧ yX1_straddles.cls ≠ "java/lang/invoke/MethodHandle" ∧ yX1_straddles.cls ≠ "java/lang/invoke/VarHandle" ∧ (parseMethodDescriptor yX1_straddles.desc).map (fun d => d.parameters.length) = some 1 := by decide +kernel
theorem mv_X1_partOf : Cond.instanceMethod yX1_partOf ∈ xtb ∧ Cond.selects RX1 yX1_partOf yX1_partOf ∈ xtb ∧ Cond.initialized RX1 ∈ xtb ∧ Cond.code yX1_partOf cX1_partOf 6 (some .int) ∈ xtb := ⟨xtb_in 641 (by decide +kernel) (by decide +kernel), xtb_in 642 (by decide +kernel) (by decide +kernel), xtb_in 70 (by decide +kernel) (by decide +kernel), xtb_in 643 (by decide +kernel) (by decide +kernel)⟩
theorem mh_X1_partOf : yX1_partOf.cls = RX1 ∧ yX1_partOf.cls ≠ "java/lang/invoke/MethodHandle" ∧ yX1_partOf.cls ≠ "java/lang/invoke/VarHandle" ∧ (parseMethodDescriptor yX1_partOf.desc).map (fun d => d.parameters.length) = some 2 := by decide +kernel
theorem mv_X1_yearOfGrave : Cond.instanceMethod yX1_yearOfGrave ∈ xtb ∧ Cond.selects RX1 yX1_yearOfGrave yX1_yearOfGrave ∈ xtb ∧ Cond.initialized RX1 ∈ xtb ∧ Cond.code yX1_yearOfGrave cX1_yearOfGrave 6 (some .int) ∈ xtb := ⟨xtb_in 653 (by decide +kernel) (by decide +kernel), xtb_in 654 (by decide +kernel) (by decide +kernel), xtb_in 70 (by decide +kernel) (by decide +kernel), xtb_in 655 (by decide +kernel) (by decide +kernel)⟩
theorem mh_X1_yearOfGrave : yX1_yearOfGrave.cls = RX1 ∧ yX1_yearOfGrave.cls ≠ "java/lang/invoke/MethodHandle" ∧ yX1_yearOfGrave.cls ≠ "java/lang/invoke/VarHandle" ∧ (parseMethodDescriptor yX1_yearOfGrave.desc).map (fun d => d.parameters.length) = some 2 := by decide +kernel
theorem mv_X1_yearOfKind : Cond.instanceMethod yX1_yearOfKind ∈ xtb ∧ Cond.selects RX1 yX1_yearOfKind yX1_yearOfKind ∈ xtb ∧ Cond.initialized RX1 ∈ xtb ∧ Cond.code yX1_yearOfKind cX1_yearOfKind 6 (some .int) ∈ xtb := ⟨xtb_in 658 (by decide +kernel) (by decide +kernel), xtb_in 659 (by decide +kernel) (by decide +kernel), xtb_in 70 (by decide +kernel) (by decide +kernel), xtb_in 660 (by decide +kernel) (by decide +kernel)⟩
theorem mh_X1_yearOfKind : yX1_yearOfKind.cls = RX1 ∧ yX1_yearOfKind.cls ≠ "java/lang/invoke/MethodHandle" ∧ yX1_yearOfKind.cls ≠ "java/lang/invoke/VarHandle" ∧ (parseMethodDescriptor yX1_yearOfKind.desc).map (fun d => d.parameters.length) = some 2 := by decide +kernel
theorem ms_X2_follow : Cond.static yX2_follow ∈ xtb ∧ Cond.initialized yX2_follow.cls ∈ xtb ∧ Cond.code yX2_follow cX2_follow 4 (some .int) ∈ xtb := ⟨xtb_in 368 (by decide +kernel) (by decide +kernel), xtb_in 67 (by decide +kernel) (by decide +kernel), xtb_in 369 (by decide +kernel) (by decide +kernel)⟩
theorem mh_X2_follow : yX2_follow.cls ≠ "java/lang/invoke/MethodHandle" ∧ yX2_follow.cls ≠ "java/lang/invoke/VarHandle" ∧ (parseMethodDescriptor yX2_follow.desc).map (fun d => d.parameters.length) = some 3 := by decide +kernel
theorem mv_X2_firstFault : Cond.instanceMethod yX2_firstFault ∈ xtb ∧ Cond.selects RX2 yX2_firstFault yX2_firstFault ∈ xtb ∧ Cond.initialized RX2 ∈ xtb ∧ Cond.code yX2_firstFault cX2_firstFault 4 (some .int) ∈ xtb := ⟨xtb_in 364 (by decide +kernel) (by decide +kernel), xtb_in 365 (by decide +kernel) (by decide +kernel), xtb_in 67 (by decide +kernel) (by decide +kernel), xtb_in 366 (by decide +kernel) (by decide +kernel)⟩
theorem mh_X2_firstFault : yX2_firstFault.cls = RX2 ∧ yX2_firstFault.cls ≠ "java/lang/invoke/MethodHandle" ∧ yX2_firstFault.cls ≠ "java/lang/invoke/VarHandle" ∧ (parseMethodDescriptor yX2_firstFault.desc).map (fun d => d.parameters.length) = some 1 := by decide +kernel
theorem mv_X3_settle : Cond.instanceMethod yX3_settle ∈ xtb ∧ Cond.selects RX3 yX3_settle yX3_settle ∈ xtb ∧ Cond.initialized RX3 ∈ xtb ∧ Cond.code yX3_settle cX3_settle 1 (some .boolean) ∈ xtb := ⟨xtb_in 454 (by decide +kernel) (by decide +kernel), xtb_in 455 (by decide +kernel) (by decide +kernel), xtb_in 69 (by decide +kernel) (by decide +kernel), xtb_in 456 (by decide +kernel) (by decide +kernel)⟩
theorem mh_X3_settle : yX3_settle.cls = RX3 ∧ yX3_settle.cls ≠ "java/lang/invoke/MethodHandle" ∧ yX3_settle.cls ≠ "java/lang/invoke/VarHandle" ∧ (parseMethodDescriptor yX3_settle.desc).map (fun d => d.parameters.length) = some 0 := by decide +kernel
theorem mv_X3_allGraves : Cond.instanceMethod yX3_allGraves ∈ xtb ∧ Cond.selects RX3 yX3_allGraves yX3_allGraves ∈ xtb ∧ Cond.initialized RX3 ∈ xtb ∧ Cond.code yX3_allGraves cX3_allGraves 1 (some .int) ∈ xtb := ⟨xtb_in 463 (by decide +kernel) (by decide +kernel), xtb_in 9 (by decide +kernel) (by decide +kernel), xtb_in 69 (by decide +kernel) (by decide +kernel), xtb_in 464 (by decide +kernel) (by decide +kernel)⟩
theorem mh_X3_allGraves : yX3_allGraves.cls = RX3 ∧ yX3_allGraves.cls ≠ "java/lang/invoke/MethodHandle" ∧ yX3_allGraves.cls ≠ "java/lang/invoke/VarHandle" ∧ (parseMethodDescriptor yX3_allGraves.desc).map (fun d => d.parameters.length) = some 0 := by decide +kernel
theorem mv_X3_fillSets : Cond.instanceMethod yX3_fillSets ∈ xtb ∧ Cond.selects RX3 yX3_fillSets yX3_fillSets ∈ xtb ∧ Cond.initialized RX3 ∈ xtb ∧ Cond.code yX3_fillSets cX3_fillSets 5 none ∈ xtb := ⟨xtb_in 459 (by decide +kernel) (by decide +kernel), xtb_in 8 (by decide +kernel) (by decide +kernel), xtb_in 69 (by decide +kernel) (by decide +kernel), xtb_in 460 (by decide +kernel) (by decide +kernel)⟩
theorem mh_X3_fillSets : yX3_fillSets.cls = RX3 ∧ yX3_fillSets.cls ≠ "java/lang/invoke/MethodHandle" ∧ yX3_fillSets.cls ≠ "java/lang/invoke/VarHandle" ∧ (parseMethodDescriptor yX3_fillSets.desc).map (fun d => d.parameters.length) = some 0 := by decide +kernel
theorem mv_X3_fillSteps : Cond.instanceMethod yX3_fillSteps ∈ xtb ∧ Cond.selects RX3 yX3_fillSteps yX3_fillSteps ∈ xtb ∧ Cond.initialized RX3 ∈ xtb ∧ Cond.code yX3_fillSteps cX3_fillSteps 4 none ∈ xtb := ⟨xtb_in 472 (by decide +kernel) (by decide +kernel), xtb_in 10 (by decide +kernel) (by decide +kernel), xtb_in 69 (by decide +kernel) (by decide +kernel), xtb_in 473 (by decide +kernel) (by decide +kernel)⟩
theorem mh_X3_fillSteps : yX3_fillSteps.cls = RX3 ∧ yX3_fillSteps.cls ≠ "java/lang/invoke/MethodHandle" ∧ yX3_fillSteps.cls ≠ "java/lang/invoke/VarHandle" ∧ (parseMethodDescriptor yX3_fillSteps.desc).map (fun d => d.parameters.length) = some 0 := by decide +kernel
theorem mv_X3_canFollow : Cond.instanceMethod yX3_canFollow ∈ xtb ∧ Cond.selects RX3 yX3_canFollow yX3_canFollow ∈ xtb ∧ Cond.initialized RX3 ∈ xtb ∧ Cond.code yX3_canFollow cX3_canFollow 3 (some .boolean) ∈ xtb := ⟨xtb_in 476 (by decide +kernel) (by decide +kernel), xtb_in 11 (by decide +kernel) (by decide +kernel), xtb_in 69 (by decide +kernel) (by decide +kernel), xtb_in 477 (by decide +kernel) (by decide +kernel)⟩
theorem mh_X3_canFollow : yX3_canFollow.cls = RX3 ∧ yX3_canFollow.cls ≠ "java/lang/invoke/MethodHandle" ∧ yX3_canFollow.cls ≠ "java/lang/invoke/VarHandle" ∧ (parseMethodDescriptor yX3_canFollow.desc).map (fun d => d.parameters.length) = some 2 := by decide +kernel
theorem mv_X3_gapsAt : Cond.instanceMethod yX3_gapsAt ∈ xtb ∧ Cond.selects RX3 yX3_gapsAt yX3_gapsAt ∈ xtb ∧ Cond.initialized RX3 ∈ xtb ∧ Cond.code yX3_gapsAt cX3_gapsAt 5 (some .int) ∈ xtb := ⟨xtb_in 480 (by decide +kernel) (by decide +kernel), xtb_in 12 (by decide +kernel) (by decide +kernel), xtb_in 69 (by decide +kernel) (by decide +kernel), xtb_in 481 (by decide +kernel) (by decide +kernel)⟩
theorem mh_X3_gapsAt : yX3_gapsAt.cls = RX3 ∧ yX3_gapsAt.cls ≠ "java/lang/invoke/MethodHandle" ∧ yX3_gapsAt.cls ≠ "java/lang/invoke/VarHandle" ∧ (parseMethodDescriptor yX3_gapsAt.desc).map (fun d => d.parameters.length) = some 2 := by decide +kernel
theorem mv_X3_fillAhead : Cond.instanceMethod yX3_fillAhead ∈ xtb ∧ Cond.selects RX3 yX3_fillAhead yX3_fillAhead ∈ xtb ∧ Cond.initialized RX3 ∈ xtb ∧ Cond.code yX3_fillAhead cX3_fillAhead 6 none ∈ xtb := ⟨xtb_in 484 (by decide +kernel) (by decide +kernel), xtb_in 13 (by decide +kernel) (by decide +kernel), xtb_in 69 (by decide +kernel) (by decide +kernel), xtb_in 485 (by decide +kernel) (by decide +kernel)⟩
theorem mh_X3_fillAhead : yX3_fillAhead.cls = RX3 ∧ yX3_fillAhead.cls ≠ "java/lang/invoke/MethodHandle" ∧ yX3_fillAhead.cls ≠ "java/lang/invoke/VarHandle" ∧ (parseMethodDescriptor yX3_fillAhead.desc).map (fun d => d.parameters.length) = some 0 := by decide +kernel
theorem mv_X3_fillBehind : Cond.instanceMethod yX3_fillBehind ∈ xtb ∧ Cond.selects RX3 yX3_fillBehind yX3_fillBehind ∈ xtb ∧ Cond.initialized RX3 ∈ xtb ∧ Cond.code yX3_fillBehind cX3_fillBehind 4 none ∈ xtb := ⟨xtb_in 493 (by decide +kernel) (by decide +kernel), xtb_in 14 (by decide +kernel) (by decide +kernel), xtb_in 69 (by decide +kernel) (by decide +kernel), xtb_in 494 (by decide +kernel) (by decide +kernel)⟩
theorem mh_X3_fillBehind : yX3_fillBehind.cls = RX3 ∧ yX3_fillBehind.cls ≠ "java/lang/invoke/MethodHandle" ∧ yX3_fillBehind.cls ≠ "java/lang/invoke/VarHandle" ∧ (parseMethodDescriptor yX3_fillBehind.desc).map (fun d => d.parameters.length) = some 0 := by decide +kernel
theorem mv_X3_tryNext : Cond.instanceMethod yX3_tryNext ∈ xtb ∧ Cond.selects RX3 yX3_tryNext yX3_tryNext ∈ xtb ∧ Cond.initialized RX3 ∈ xtb ∧ Cond.code yX3_tryNext cX3_tryNext 6 none ∈ xtb := ⟨xtb_in 497 (by decide +kernel) (by decide +kernel), xtb_in 15 (by decide +kernel) (by decide +kernel), xtb_in 69 (by decide +kernel) (by decide +kernel), xtb_in 498 (by decide +kernel) (by decide +kernel)⟩
theorem mh_X3_tryNext : yX3_tryNext.cls = RX3 ∧ yX3_tryNext.cls ≠ "java/lang/invoke/MethodHandle" ∧ yX3_tryNext.cls ≠ "java/lang/invoke/VarHandle" ∧ (parseMethodDescriptor yX3_tryNext.desc).map (fun d => d.parameters.length) = some 2 := by decide +kernel
theorem mv_X3_fillRow : Cond.instanceMethod yX3_fillRow ∈ xtb ∧ Cond.selects RX3 yX3_fillRow yX3_fillRow ∈ xtb ∧ Cond.initialized RX3 ∈ xtb ∧ Cond.code yX3_fillRow cX3_fillRow 4 none ∈ xtb := ⟨xtb_in 501 (by decide +kernel) (by decide +kernel), xtb_in 16 (by decide +kernel) (by decide +kernel), xtb_in 69 (by decide +kernel) (by decide +kernel), xtb_in 502 (by decide +kernel) (by decide +kernel)⟩
theorem mh_X3_fillRow : yX3_fillRow.cls = RX3 ∧ yX3_fillRow.cls ≠ "java/lang/invoke/MethodHandle" ∧ yX3_fillRow.cls ≠ "java/lang/invoke/VarHandle" ∧ (parseMethodDescriptor yX3_fillRow.desc).map (fun d => d.parameters.length) = some 0 := by decide +kernel
theorem mv_X3_leastNext : Cond.instanceMethod yX3_leastNext ∈ xtb ∧ Cond.selects RX3 yX3_leastNext yX3_leastNext ∈ xtb ∧ Cond.initialized RX3 ∈ xtb ∧ Cond.code yX3_leastNext cX3_leastNext 5 (some .int) ∈ xtb := ⟨xtb_in 505 (by decide +kernel) (by decide +kernel), xtb_in 17 (by decide +kernel) (by decide +kernel), xtb_in 69 (by decide +kernel) (by decide +kernel), xtb_in 506 (by decide +kernel) (by decide +kernel)⟩
theorem mh_X3_leastNext : yX3_leastNext.cls = RX3 ∧ yX3_leastNext.cls ≠ "java/lang/invoke/MethodHandle" ∧ yX3_leastNext.cls ≠ "java/lang/invoke/VarHandle" ∧ (parseMethodDescriptor yX3_leastNext.desc).map (fun d => d.parameters.length) = some 1 := by decide +kernel
theorem mv_X3_alwaysAhead : Cond.instanceMethod yX3_alwaysAhead ∈ xtb ∧ Cond.selects RX3 yX3_alwaysAhead yX3_alwaysAhead ∈ xtb ∧ Cond.initialized RX3 ∈ xtb ∧ Cond.code yX3_alwaysAhead cX3_alwaysAhead 6 (some .boolean) ∈ xtb := ⟨xtb_in 521 (by decide +kernel) (by decide +kernel), xtb_in 522 (by decide +kernel) (by decide +kernel), xtb_in 69 (by decide +kernel) (by decide +kernel), xtb_in 523 (by decide +kernel) (by decide +kernel)⟩
theorem mh_X3_alwaysAhead : yX3_alwaysAhead.cls = RX3 ∧ yX3_alwaysAhead.cls ≠ "java/lang/invoke/MethodHandle" ∧ yX3_alwaysAhead.cls ≠ "java/lang/invoke/VarHandle" ∧ (parseMethodDescriptor yX3_alwaysAhead.desc).map (fun d => d.parameters.length) = some 2 := by decide +kernel
theorem mv_X3_placesInBest : Cond.instanceMethod yX3_placesInBest ∈ xtb ∧ Cond.selects RX3 yX3_placesInBest yX3_placesInBest ∈ xtb ∧ Cond.initialized RX3 ∈ xtb ∧ Cond.code yX3_placesInBest cX3_placesInBest 6 (some .int) ∈ xtb := ⟨xtb_in 529 (by decide +kernel) (by decide +kernel), xtb_in 530 (by decide +kernel) (by decide +kernel), xtb_in 69 (by decide +kernel) (by decide +kernel), xtb_in 531 (by decide +kernel) (by decide +kernel)⟩
theorem mh_X3_placesInBest : yX3_placesInBest.cls = RX3 ∧ yX3_placesInBest.cls ≠ "java/lang/invoke/MethodHandle" ∧ yX3_placesInBest.cls ≠ "java/lang/invoke/VarHandle" ∧ (parseMethodDescriptor yX3_placesInBest.desc).map (fun d => d.parameters.length) = some 1 := by decide +kernel
theorem mv_X3_settleSpread : Cond.instanceMethod yX3_settleSpread ∈ xtb ∧ Cond.selects RX3 yX3_settleSpread yX3_settleSpread ∈ xtb ∧ Cond.initialized RX3 ∈ xtb ∧ Cond.code yX3_settleSpread cX3_settleSpread 5 none ∈ xtb := ⟨xtb_in 538 (by decide +kernel) (by decide +kernel), xtb_in 539 (by decide +kernel) (by decide +kernel), xtb_in 69 (by decide +kernel) (by decide +kernel), xtb_in 540 (by decide +kernel) (by decide +kernel)⟩
theorem mh_X3_settleSpread : yX3_settleSpread.cls = RX3 ∧ yX3_settleSpread.cls ≠ "java/lang/invoke/MethodHandle" ∧ yX3_settleSpread.cls ≠ "java/lang/invoke/VarHandle" ∧ (parseMethodDescriptor yX3_settleSpread.desc).map (fun d => d.parameters.length) = some 0 := by decide +kernel
theorem ms_X3_gather : Cond.static yX3_gather ∈ xtb ∧ Cond.initialized yX3_gather.cls ∈ xtb ∧ Cond.code yX3_gather cX3_gather 9 (some .int) ∈ xtb := ⟨xtb_in 542 (by decide +kernel) (by decide +kernel), xtb_in 69 (by decide +kernel) (by decide +kernel), xtb_in 543 (by decide +kernel) (by decide +kernel)⟩
theorem mh_X3_gather : yX3_gather.cls ≠ "java/lang/invoke/MethodHandle" ∧ yX3_gather.cls ≠ "java/lang/invoke/VarHandle" ∧ (parseMethodDescriptor yX3_gather.desc).map (fun d => d.parameters.length) = some 6 := by decide +kernel
theorem mv_X3_joinHalves : Cond.instanceMethod yX3_joinHalves ∈ xtb ∧ Cond.selects RX3 yX3_joinHalves yX3_joinHalves ∈ xtb ∧ Cond.initialized RX3 ∈ xtb ∧ Cond.code yX3_joinHalves cX3_joinHalves 6 none ∈ xtb := ⟨xtb_in 546 (by decide +kernel) (by decide +kernel), xtb_in 18 (by decide +kernel) (by decide +kernel), xtb_in 69 (by decide +kernel) (by decide +kernel), xtb_in 547 (by decide +kernel) (by decide +kernel)⟩
theorem mh_X3_joinHalves : yX3_joinHalves.cls = RX3 ∧ yX3_joinHalves.cls ≠ "java/lang/invoke/MethodHandle" ∧ yX3_joinHalves.cls ≠ "java/lang/invoke/VarHandle" ∧ (parseMethodDescriptor yX3_joinHalves.desc).map (fun d => d.parameters.length) = some 2 := by decide +kernel
theorem mv_X3_withGaps : Cond.instanceMethod yX3_withGaps ∈ xtb ∧ Cond.selects RX3 yX3_withGaps yX3_withGaps ∈ xtb ∧ Cond.initialized RX3 ∈ xtb ∧ Cond.code yX3_withGaps cX3_withGaps 2 (some .int) ∈ xtb := ⟨xtb_in 549 (by decide +kernel) (by decide +kernel), xtb_in 550 (by decide +kernel) (by decide +kernel), xtb_in 69 (by decide +kernel) (by decide +kernel), xtb_in 551 (by decide +kernel) (by decide +kernel)⟩
theorem mh_X3_withGaps : yX3_withGaps.cls = RX3 ∧ yX3_withGaps.cls ≠ "java/lang/invoke/MethodHandle" ∧ yX3_withGaps.cls ≠ "java/lang/invoke/VarHandle" ∧ (parseMethodDescriptor yX3_withGaps.desc).map (fun d => d.parameters.length) = some 1 := by decide +kernel
theorem mv_X3_withGapsUpTo : Cond.instanceMethod yX3_withGapsUpTo ∈ xtb ∧ Cond.selects RX3 yX3_withGapsUpTo yX3_withGapsUpTo ∈ xtb ∧ Cond.initialized RX3 ∈ xtb ∧ Cond.code yX3_withGapsUpTo cX3_withGapsUpTo 4 (some .int) ∈ xtb := ⟨xtb_in 553 (by decide +kernel) (by decide +kernel), xtb_in 554 (by decide +kernel) (by decide +kernel), xtb_in 69 (by decide +kernel) (by decide +kernel), xtb_in 555 (by decide +kernel) (by decide +kernel)⟩
theorem mh_X3_withGapsUpTo : yX3_withGapsUpTo.cls = RX3 ∧ yX3_withGapsUpTo.cls ≠ "java/lang/invoke/MethodHandle" ∧ yX3_withGapsUpTo.cls ≠ "java/lang/invoke/VarHandle" ∧ (parseMethodDescriptor yX3_withGapsUpTo.desc).map (fun d => d.parameters.length) = some 1 := by decide +kernel
theorem mv_X3_gapsOfAll : Cond.instanceMethod yX3_gapsOfAll ∈ xtb ∧ Cond.selects RX3 yX3_gapsOfAll yX3_gapsOfAll ∈ xtb ∧ Cond.initialized RX3 ∈ xtb ∧ Cond.code yX3_gapsOfAll cX3_gapsOfAll 3 (some .int) ∈ xtb := ⟨xtb_in 565 (by decide +kernel) (by decide +kernel), xtb_in 566 (by decide +kernel) (by decide +kernel), xtb_in 69 (by decide +kernel) (by decide +kernel), xtb_in 567 (by decide +kernel) (by decide +kernel)⟩
theorem mh_X3_gapsOfAll : yX3_gapsOfAll.cls = RX3 ∧ yX3_gapsOfAll.cls ≠ "java/lang/invoke/MethodHandle" ∧ yX3_gapsOfAll.cls ≠ "java/lang/invoke/VarHandle" ∧ (parseMethodDescriptor yX3_gapsOfAll.desc).map (fun d => d.parameters.length) = some 0 := by decide +kernel
theorem mv_X3_fewestLeftOut : Cond.instanceMethod yX3_fewestLeftOut ∈ xtb ∧ Cond.selects RX3 yX3_fewestLeftOut yX3_fewestLeftOut ∈ xtb ∧ Cond.initialized RX3 ∈ xtb ∧ Cond.code yX3_fewestLeftOut cX3_fewestLeftOut 1 (some .int) ∈ xtb := ⟨xtb_in 580 (by decide +kernel) (by decide +kernel), xtb_in 581 (by decide +kernel) (by decide +kernel), xtb_in 69 (by decide +kernel) (by decide +kernel), xtb_in 582 (by decide +kernel) (by decide +kernel)⟩
theorem mh_X3_fewestLeftOut : yX3_fewestLeftOut.cls = RX3 ∧ yX3_fewestLeftOut.cls ≠ "java/lang/invoke/MethodHandle" ∧ yX3_fewestLeftOut.cls ≠ "java/lang/invoke/VarHandle" ∧ (parseMethodDescriptor yX3_fewestLeftOut.desc).map (fun d => d.parameters.length) = some 0 := by decide +kernel
theorem mv_X3_searchLeftOut : Cond.instanceMethod yX3_searchLeftOut ∈ xtb ∧ Cond.selects RX3 yX3_searchLeftOut yX3_searchLeftOut ∈ xtb ∧ Cond.initialized RX3 ∈ xtb ∧ Cond.code yX3_searchLeftOut cX3_searchLeftOut 6 (some .int) ∈ xtb := ⟨xtb_in 585 (by decide +kernel) (by decide +kernel), xtb_in 19 (by decide +kernel) (by decide +kernel), xtb_in 69 (by decide +kernel) (by decide +kernel), xtb_in 586 (by decide +kernel) (by decide +kernel)⟩
theorem mh_X3_searchLeftOut : yX3_searchLeftOut.cls = RX3 ∧ yX3_searchLeftOut.cls ≠ "java/lang/invoke/MethodHandle" ∧ yX3_searchLeftOut.cls ≠ "java/lang/invoke/VarHandle" ∧ (parseMethodDescriptor yX3_searchLeftOut.desc).map (fun d => d.parameters.length) = some 0 := by decide +kernel
theorem mv_X3_kindsWithGaps : Cond.instanceMethod yX3_kindsWithGaps ∈ xtb ∧ Cond.selects RX3 yX3_kindsWithGaps yX3_kindsWithGaps ∈ xtb ∧ Cond.initialized RX3 ∈ xtb ∧ Cond.code yX3_kindsWithGaps cX3_kindsWithGaps 6 (some .int) ∈ xtb := ⟨xtb_in 589 (by decide +kernel) (by decide +kernel), xtb_in 20 (by decide +kernel) (by decide +kernel), xtb_in 69 (by decide +kernel) (by decide +kernel), xtb_in 590 (by decide +kernel) (by decide +kernel)⟩
theorem mh_X3_kindsWithGaps : yX3_kindsWithGaps.cls = RX3 ∧ yX3_kindsWithGaps.cls ≠ "java/lang/invoke/MethodHandle" ∧ yX3_kindsWithGaps.cls ≠ "java/lang/invoke/VarHandle" ∧ (parseMethodDescriptor yX3_kindsWithGaps.desc).map (fun d => d.parameters.length) = some 0 := by decide +kernel
theorem mv_X3_reachesAllWithout : Cond.instanceMethod yX3_reachesAllWithout ∈ xtb ∧ Cond.selects RX3 yX3_reachesAllWithout yX3_reachesAllWithout ∈ xtb ∧ Cond.initialized RX3 ∈ xtb ∧ Cond.code yX3_reachesAllWithout cX3_reachesAllWithout 6 (some .boolean) ∈ xtb := ⟨xtb_in 593 (by decide +kernel) (by decide +kernel), xtb_in 21 (by decide +kernel) (by decide +kernel), xtb_in 69 (by decide +kernel) (by decide +kernel), xtb_in 594 (by decide +kernel) (by decide +kernel)⟩
theorem mh_X3_reachesAllWithout : yX3_reachesAllWithout.cls = RX3 ∧ yX3_reachesAllWithout.cls ≠ "java/lang/invoke/MethodHandle" ∧ yX3_reachesAllWithout.cls ≠ "java/lang/invoke/VarHandle" ∧ (parseMethodDescriptor yX3_reachesAllWithout.desc).map (fun d => d.parameters.length) = some 1 := by decide +kernel
theorem mv_X4_renew : Cond.instanceMethod yX4_renew ∈ xtb ∧ Cond.selects RX4 yX4_renew yX4_renew ∈ xtb ∧ Cond.initialized RX4 ∈ xtb ∧ Cond.code yX4_renew cX4_renew 4 none ∈ xtb := ⟨xtb_in 705 (by decide +kernel) (by decide +kernel), xtb_in 706 (by decide +kernel) (by decide +kernel), xtb_in 71 (by decide +kernel) (by decide +kernel), xtb_in 707 (by decide +kernel) (by decide +kernel)⟩
theorem mh_X4_renew : yX4_renew.cls = RX4 ∧ yX4_renew.cls ≠ "java/lang/invoke/MethodHandle" ∧ yX4_renew.cls ≠ "java/lang/invoke/VarHandle" ∧ (parseMethodDescriptor yX4_renew.desc).map (fun d => d.parameters.length) = some 2 := by decide +kernel
theorem mv_X4_findingAt : Cond.instanceMethod yX4_findingAt ∈ xtb ∧ Cond.selects RX4 yX4_findingAt yX4_findingAt ∈ xtb ∧ Cond.initialized RX4 ∈ xtb ∧ Cond.code yX4_findingAt cX4_findingAt 3 (some .int) ∈ xtb := ⟨xtb_in 717 (by decide +kernel) (by decide +kernel), xtb_in 718 (by decide +kernel) (by decide +kernel), xtb_in 71 (by decide +kernel) (by decide +kernel), xtb_in 719 (by decide +kernel) (by decide +kernel)⟩
theorem mh_X4_findingAt : yX4_findingAt.cls = RX4 ∧ yX4_findingAt.cls ≠ "java/lang/invoke/MethodHandle" ∧ yX4_findingAt.cls ≠ "java/lang/invoke/VarHandle" ∧ (parseMethodDescriptor yX4_findingAt.desc).map (fun d => d.parameters.length) = some 2 := by decide +kernel
theorem mv_X4_holdsRun : Cond.instanceMethod yX4_holdsRun ∈ xtb ∧ Cond.selects RX4 yX4_holdsRun yX4_holdsRun ∈ xtb ∧ Cond.initialized RX4 ∈ xtb ∧ Cond.code yX4_holdsRun cX4_holdsRun 3 (some .boolean) ∈ xtb := ⟨xtb_in 734 (by decide +kernel) (by decide +kernel), xtb_in 735 (by decide +kernel) (by decide +kernel), xtb_in 71 (by decide +kernel) (by decide +kernel), xtb_in 736 (by decide +kernel) (by decide +kernel)⟩
theorem mh_X4_holdsRun : yX4_holdsRun.cls = RX4 ∧ yX4_holdsRun.cls ≠ "java/lang/invoke/MethodHandle" ∧ yX4_holdsRun.cls ≠ "java/lang/invoke/VarHandle" ∧ (parseMethodDescriptor yX4_holdsRun.desc).map (fun d => d.parameters.length) = some 2 := by decide +kernel
theorem mv_X4_store : Cond.instanceMethod yX4_store ∈ xtb ∧ Cond.selects RX4 yX4_store yX4_store ∈ xtb ∧ Cond.initialized RX4 ∈ xtb ∧ Cond.code yX4_store cX4_store 3 none ∈ xtb := ⟨xtb_in 721 (by decide +kernel) (by decide +kernel), xtb_in 722 (by decide +kernel) (by decide +kernel), xtb_in 71 (by decide +kernel) (by decide +kernel), xtb_in 723 (by decide +kernel) (by decide +kernel)⟩
theorem mh_X4_store : yX4_store.cls = RX4 ∧ yX4_store.cls ≠ "java/lang/invoke/MethodHandle" ∧ yX4_store.cls ≠ "java/lang/invoke/VarHandle" ∧ (parseMethodDescriptor yX4_store.desc).map (fun d => d.parameters.length) = some 2 := by decide +kernel
theorem mv_X5_dig : Cond.instanceMethod yX5_dig ∈ xtb ∧ Cond.selects RX5 yX5_dig yX5_dig ∈ xtb ∧ Cond.initialized RX5 ∈ xtb ∧ Cond.code yX5_dig cX5_dig 3 (some .int) ∈ xtb := ⟨xtb_in 311 (by decide +kernel) (by decide +kernel), xtb_in 312 (by decide +kernel) (by decide +kernel), xtb_in 66 (by decide +kernel) (by decide +kernel), xtb_in 313 (by decide +kernel) (by decide +kernel)⟩
theorem mh_X5_dig : yX5_dig.cls = RX5 ∧ yX5_dig.cls ≠ "java/lang/invoke/MethodHandle" ∧ yX5_dig.cls ≠ "java/lang/invoke/VarHandle" ∧ (parseMethodDescriptor yX5_dig.desc).map (fun d => d.parameters.length) = some 2 := by decide +kernel
theorem mv_X5_reweigh : Cond.instanceMethod yX5_reweigh ∈ xtb ∧ Cond.selects RX5 yX5_reweigh yX5_reweigh ∈ xtb ∧ Cond.initialized RX5 ∈ xtb ∧ Cond.code yX5_reweigh cX5_reweigh 4 (some .int) ∈ xtb := ⟨xtb_in 330 (by decide +kernel) (by decide +kernel), xtb_in 331 (by decide +kernel) (by decide +kernel), xtb_in 66 (by decide +kernel) (by decide +kernel), xtb_in 332 (by decide +kernel) (by decide +kernel)⟩
theorem mh_X5_reweigh : yX5_reweigh.cls = RX5 ∧ yX5_reweigh.cls ≠ "java/lang/invoke/MethodHandle" ∧ yX5_reweigh.cls ≠ "java/lang/invoke/VarHandle" ∧ (parseMethodDescriptor yX5_reweigh.desc).map (fun d => d.parameters.length) = some 2 := by decide +kernel
theorem mv_X5_weigh : Cond.instanceMethod yX5_weigh ∈ xtb ∧ Cond.selects RX5 yX5_weigh yX5_weigh ∈ xtb ∧ Cond.initialized RX5 ∈ xtb ∧ Cond.code yX5_weigh cX5_weigh 2 (some .int) ∈ xtb := ⟨xtb_in 334 (by decide +kernel) (by decide +kernel), xtb_in 335 (by decide +kernel) (by decide +kernel), xtb_in 66 (by decide +kernel) (by decide +kernel), xtb_in 336 (by decide +kernel) (by decide +kernel)⟩
theorem mh_X5_weigh : yX5_weigh.cls = RX5 ∧ yX5_weigh.cls ≠ "java/lang/invoke/MethodHandle" ∧ yX5_weigh.cls ≠ "java/lang/invoke/VarHandle" ∧ (parseMethodDescriptor yX5_weigh.desc).map (fun d => d.parameters.length) = some 1 := by decide +kernel
theorem mv_X5_kindsOfAll : Cond.instanceMethod yX5_kindsOfAll ∈ xtb ∧ Cond.selects RX5 yX5_kindsOfAll yX5_kindsOfAll ∈ xtb ∧ Cond.initialized RX5 ∈ xtb ∧ Cond.code yX5_kindsOfAll cX5_kindsOfAll 3 (some .int) ∈ xtb := ⟨xtb_in 636 (by decide +kernel) (by decide +kernel), xtb_in 637 (by decide +kernel) (by decide +kernel), xtb_in 66 (by decide +kernel) (by decide +kernel), xtb_in 638 (by decide +kernel) (by decide +kernel)⟩
theorem mh_X5_kindsOfAll : yX5_kindsOfAll.cls = RX5 ∧ yX5_kindsOfAll.cls ≠ "java/lang/invoke/MethodHandle" ∧ yX5_kindsOfAll.cls ≠ "java/lang/invoke/VarHandle" ∧ (parseMethodDescriptor yX5_kindsOfAll.desc).map (fun d => d.parameters.length) = some 0 := by decide +kernel
theorem mv_X5_allFinds : Cond.instanceMethod yX5_allFinds ∈ xtb ∧ Cond.selects RX5 yX5_allFinds yX5_allFinds ∈ xtb ∧ Cond.initialized RX5 ∈ xtb ∧ Cond.code yX5_allFinds cX5_allFinds 3 (some .int) ∈ xtb := ⟨xtb_in 750 (by decide +kernel) (by decide +kernel), xtb_in 751 (by decide +kernel) (by decide +kernel), xtb_in 66 (by decide +kernel) (by decide +kernel), xtb_in 752 (by decide +kernel) (by decide +kernel)⟩
theorem mh_X5_allFinds : yX5_allFinds.cls = RX5 ∧ yX5_allFinds.cls ≠ "java/lang/invoke/MethodHandle" ∧ yX5_allFinds.cls ≠ "java/lang/invoke/VarHandle" ∧ (parseMethodDescriptor yX5_allFinds.desc).map (fun d => d.parameters.length) = some 0 := by decide +kernel
theorem mv_X5_isOrder : Cond.instanceMethod yX5_isOrder ∈ xtb ∧ Cond.selects RX5 yX5_isOrder yX5_isOrder ∈ xtb ∧ Cond.initialized RX5 ∈ xtb ∧ Cond.code yX5_isOrder cX5_isOrder 6 (some .boolean) ∈ xtb := ⟨xtb_in 427 (by decide +kernel) (by decide +kernel), xtb_in 428 (by decide +kernel) (by decide +kernel), xtb_in 66 (by decide +kernel) (by decide +kernel), xtb_in 429 (by decide +kernel) (by decide +kernel)⟩
theorem mh_X5_isOrder : yX5_isOrder.cls = RX5 ∧ yX5_isOrder.cls ≠ "java/lang/invoke/MethodHandle" ∧ yX5_isOrder.cls ≠ "java/lang/invoke/VarHandle" ∧ (parseMethodDescriptor yX5_isOrder.desc).map (fun d => d.parameters.length) = some 2 := by decide +kernel
theorem mv_X5_canBe : Cond.instanceMethod yX5_canBe ∈ xtb ∧ Cond.selects RX5 yX5_canBe yX5_canBe ∈ xtb ∧ Cond.initialized RX5 ∈ xtb ∧ Cond.code yX5_canBe cX5_canBe 6 (some .boolean) ∈ xtb := ⟨xtb_in 440 (by decide +kernel) (by decide +kernel), xtb_in 441 (by decide +kernel) (by decide +kernel), xtb_in 66 (by decide +kernel) (by decide +kernel), xtb_in 442 (by decide +kernel) (by decide +kernel)⟩
theorem mh_X5_canBe : yX5_canBe.cls = RX5 ∧ yX5_canBe.cls ≠ "java/lang/invoke/MethodHandle" ∧ yX5_canBe.cls ≠ "java/lang/invoke/VarHandle" ∧ (parseMethodDescriptor yX5_canBe.desc).map (fun d => d.parameters.length) = some 1 := by decide +kernel
theorem mv_X5_weightOfBoth : Cond.instanceMethod yX5_weightOfBoth ∈ xtb ∧ Cond.selects RX5 yX5_weightOfBoth yX5_weightOfBoth ∈ xtb ∧ Cond.initialized RX5 ∈ xtb ∧ Cond.code yX5_weightOfBoth cX5_weightOfBoth 3 (some .int) ∈ xtb := ⟨xtb_in 687 (by decide +kernel) (by decide +kernel), xtb_in 688 (by decide +kernel) (by decide +kernel), xtb_in 66 (by decide +kernel) (by decide +kernel), xtb_in 689 (by decide +kernel) (by decide +kernel)⟩
theorem mh_X5_weightOfBoth : yX5_weightOfBoth.cls = RX5 ∧ yX5_weightOfBoth.cls ≠ "java/lang/invoke/MethodHandle" ∧ yX5_weightOfBoth.cls ≠ "java/lang/invoke/VarHandle" ∧ (parseMethodDescriptor yX5_weightOfBoth.desc).map (fun d => d.parameters.length) = some 2 := by decide +kernel
theorem mv_X5_weightOfEither : Cond.instanceMethod yX5_weightOfEither ∈ xtb ∧ Cond.selects RX5 yX5_weightOfEither yX5_weightOfEither ∈ xtb ∧ Cond.initialized RX5 ∈ xtb ∧ Cond.code yX5_weightOfEither cX5_weightOfEither 3 (some .int) ∈ xtb := ⟨xtb_in 683 (by decide +kernel) (by decide +kernel), xtb_in 684 (by decide +kernel) (by decide +kernel), xtb_in 66 (by decide +kernel) (by decide +kernel), xtb_in 685 (by decide +kernel) (by decide +kernel)⟩
theorem mh_X5_weightOfEither : yX5_weightOfEither.cls = RX5 ∧ yX5_weightOfEither.cls ≠ "java/lang/invoke/MethodHandle" ∧ yX5_weightOfEither.cls ≠ "java/lang/invoke/VarHandle" ∧ (parseMethodDescriptor yX5_weightOfEither.desc).map (fun d => d.parameters.length) = some 2 := by decide +kernel
theorem mv_X5_mostAlike : Cond.instanceMethod yX5_mostAlike ∈ xtb ∧ Cond.selects RX5 yX5_mostAlike yX5_mostAlike ∈ xtb ∧ Cond.initialized RX5 ∈ xtb ∧ Cond.code yX5_mostAlike cX5_mostAlike 8 (some .int) ∈ xtb := ⟨xtb_in 695 (by decide +kernel) (by decide +kernel), xtb_in 696 (by decide +kernel) (by decide +kernel), xtb_in 66 (by decide +kernel) (by decide +kernel), xtb_in 697 (by decide +kernel) (by decide +kernel)⟩
theorem mh_X5_mostAlike : yX5_mostAlike.cls = RX5 ∧ yX5_mostAlike.cls ≠ "java/lang/invoke/MethodHandle" ∧ yX5_mostAlike.cls ≠ "java/lang/invoke/VarHandle" ∧ (parseMethodDescriptor yX5_mostAlike.desc).map (fun d => d.parameters.length) = some 1 := by decide +kernel
theorem mv_X6_grave : Cond.instanceMethod yX6_grave ∈ xtb ∧ Cond.selects RX6 yX6_grave yX6_grave ∈ xtb ∧ Cond.initialized RX6 ∈ xtb ∧ Cond.code yX6_grave cX6_grave 3 (some .int) ∈ xtb := ⟨xtb_in 304 (by decide +kernel) (by decide +kernel), xtb_in 305 (by decide +kernel) (by decide +kernel), xtb_in 65 (by decide +kernel) (by decide +kernel), xtb_in 306 (by decide +kernel) (by decide +kernel)⟩
theorem mh_X6_grave : yX6_grave.cls = RX6 ∧ yX6_grave.cls ≠ "java/lang/invoke/MethodHandle" ∧ yX6_grave.cls ≠ "java/lang/invoke/VarHandle" ∧ (parseMethodDescriptor yX6_grave.desc).map (fun d => d.parameters.length) = some 2 := by decide +kernel
theorem mv_X6_robbed : Cond.instanceMethod yX6_robbed ∈ xtb ∧ Cond.selects RX6 yX6_robbed yX6_robbed ∈ xtb ∧ Cond.initialized RX6 ∈ xtb ∧ Cond.code yX6_robbed cX6_robbed 4 (some .int) ∈ xtb := ⟨xtb_in 315 (by decide +kernel) (by decide +kernel), xtb_in 316 (by decide +kernel) (by decide +kernel), xtb_in 65 (by decide +kernel) (by decide +kernel), xtb_in 317 (by decide +kernel) (by decide +kernel)⟩
theorem mh_X6_robbed : yX6_robbed.cls = RX6 ∧ yX6_robbed.cls ≠ "java/lang/invoke/MethodHandle" ∧ yX6_robbed.cls ≠ "java/lang/invoke/VarHandle" ∧ (parseMethodDescriptor yX6_robbed.desc).map (fun d => d.parameters.length) = some 2 := by decide +kernel
theorem mv_X6_weight : Cond.instanceMethod yX6_weight ∈ xtb ∧ Cond.selects RX6 yX6_weight yX6_weight ∈ xtb ∧ Cond.initialized RX6 ∈ xtb ∧ Cond.code yX6_weight cX6_weight 3 (some .int) ∈ xtb := ⟨xtb_in 323 (by decide +kernel) (by decide +kernel), xtb_in 324 (by decide +kernel) (by decide +kernel), xtb_in 65 (by decide +kernel) (by decide +kernel), xtb_in 325 (by decide +kernel) (by decide +kernel)⟩
theorem mh_X6_weight : yX6_weight.cls = RX6 ∧ yX6_weight.cls ≠ "java/lang/invoke/MethodHandle" ∧ yX6_weight.cls ≠ "java/lang/invoke/VarHandle" ∧ (parseMethodDescriptor yX6_weight.desc).map (fun d => d.parameters.length) = some 2 := by decide +kernel
theorem mv_X6_over : Cond.instanceMethod yX6_over ∈ xtb ∧ Cond.selects RX6 yX6_over yX6_over ∈ xtb ∧ Cond.initialized RX6 ∈ xtb ∧ Cond.code yX6_over cX6_over 3 (some .int) ∈ xtb := ⟨xtb_in 344 (by decide +kernel) (by decide +kernel), xtb_in 345 (by decide +kernel) (by decide +kernel), xtb_in 65 (by decide +kernel) (by decide +kernel), xtb_in 346 (by decide +kernel) (by decide +kernel)⟩
theorem mh_X6_over : yX6_over.cls = RX6 ∧ yX6_over.cls ≠ "java/lang/invoke/MethodHandle" ∧ yX6_over.cls ≠ "java/lang/invoke/VarHandle" ∧ (parseMethodDescriptor yX6_over.desc).map (fun d => d.parameters.length) = some 2 := by decide +kernel
theorem mv_X6_type : Cond.instanceMethod yX6_type ∈ xtb ∧ Cond.selects RX6 yX6_type yX6_type ∈ xtb ∧ Cond.initialized RX6 ∈ xtb ∧ Cond.code yX6_type cX6_type 2 (some .int) ∈ xtb := ⟨xtb_in 352 (by decide +kernel) (by decide +kernel), xtb_in 353 (by decide +kernel) (by decide +kernel), xtb_in 65 (by decide +kernel) (by decide +kernel), xtb_in 354 (by decide +kernel) (by decide +kernel)⟩
theorem mh_X6_type : yX6_type.cls = RX6 ∧ yX6_type.cls ≠ "java/lang/invoke/MethodHandle" ∧ yX6_type.cls ≠ "java/lang/invoke/VarHandle" ∧ (parseMethodDescriptor yX6_type.desc).map (fun d => d.parameters.length) = some 1 := by decide +kernel
theorem mv_X6_wipe : Cond.instanceMethod yX6_wipe ∈ xtb ∧ Cond.selects RX6 yX6_wipe yX6_wipe ∈ xtb ∧ Cond.initialized RX6 ∈ xtb ∧ Cond.code yX6_wipe cX6_wipe 2 (some .int) ∈ xtb := ⟨xtb_in 356 (by decide +kernel) (by decide +kernel), xtb_in 357 (by decide +kernel) (by decide +kernel), xtb_in 65 (by decide +kernel) (by decide +kernel), xtb_in 358 (by decide +kernel) (by decide +kernel)⟩
theorem mh_X6_wipe : yX6_wipe.cls = RX6 ∧ yX6_wipe.cls ≠ "java/lang/invoke/MethodHandle" ∧ yX6_wipe.cls ≠ "java/lang/invoke/VarHandle" ∧ (parseMethodDescriptor yX6_wipe.desc).map (fun d => d.parameters.length) = some 0 := by decide +kernel
theorem mv_X6_fault : Cond.instanceMethod yX6_fault ∈ xtb ∧ Cond.selects RX6 yX6_fault yX6_fault ∈ xtb ∧ Cond.initialized RX6 ∈ xtb ∧ Cond.code yX6_fault cX6_fault 1 (some .int) ∈ xtb := ⟨xtb_in 360 (by decide +kernel) (by decide +kernel), xtb_in 361 (by decide +kernel) (by decide +kernel), xtb_in 65 (by decide +kernel) (by decide +kernel), xtb_in 362 (by decide +kernel) (by decide +kernel)⟩
theorem mh_X6_fault : yX6_fault.cls = RX6 ∧ yX6_fault.cls ≠ "java/lang/invoke/MethodHandle" ∧ yX6_fault.cls ≠ "java/lang/invoke/VarHandle" ∧ (parseMethodDescriptor yX6_fault.desc).map (fun d => d.parameters.length) = some 0 := by decide +kernel
theorem mv_X6_tell : Cond.instanceMethod yX6_tell ∈ xtb ∧ Cond.selects RX6 yX6_tell yX6_tell ∈ xtb ∧ Cond.initialized RX6 ∈ xtb ∧ Cond.code yX6_tell cX6_tell 3 (some .int) ∈ xtb := ⟨xtb_in 371 (by decide +kernel) (by decide +kernel), xtb_in 372 (by decide +kernel) (by decide +kernel), xtb_in 65 (by decide +kernel) (by decide +kernel), xtb_in 373 (by decide +kernel) (by decide +kernel)⟩
theorem mh_X6_tell : yX6_tell.cls = RX6 ∧ yX6_tell.cls ≠ "java/lang/invoke/MethodHandle" ∧ yX6_tell.cls ≠ "java/lang/invoke/VarHandle" ∧ (parseMethodDescriptor yX6_tell.desc).map (fun d => d.parameters.length) = some 1 := by decide +kernel
theorem mv_X6_read : Cond.instanceMethod yX6_read ∈ xtb ∧ Cond.selects RX6 yX6_read yX6_read ∈ xtb ∧ Cond.initialized RX6 ∈ xtb ∧ Cond.code yX6_read cX6_read 5 (some .int) ∈ xtb := ⟨xtb_in 400 (by decide +kernel) (by decide +kernel), xtb_in 401 (by decide +kernel) (by decide +kernel), xtb_in 65 (by decide +kernel) (by decide +kernel), xtb_in 402 (by decide +kernel) (by decide +kernel)⟩
theorem mh_X6_read : yX6_read.cls = RX6 ∧ yX6_read.cls ≠ "java/lang/invoke/MethodHandle" ∧ yX6_read.cls ≠ "java/lang/invoke/VarHandle" ∧ (parseMethodDescriptor yX6_read.desc).map (fun d => d.parameters.length) = some 3 := by decide +kernel
theorem mv_X6_asOf : Cond.instanceMethod yX6_asOf ∈ xtb ∧ Cond.selects RX6 yX6_asOf yX6_asOf ∈ xtb ∧ Cond.initialized RX6 ∈ xtb ∧ Cond.code yX6_asOf cX6_asOf 3 (some .int) ∈ xtb := ⟨xtb_in 415 (by decide +kernel) (by decide +kernel), xtb_in 416 (by decide +kernel) (by decide +kernel), xtb_in 65 (by decide +kernel) (by decide +kernel), xtb_in 417 (by decide +kernel) (by decide +kernel)⟩
theorem mh_X6_asOf : yX6_asOf.cls = RX6 ∧ yX6_asOf.cls ≠ "java/lang/invoke/MethodHandle" ∧ yX6_asOf.cls ≠ "java/lang/invoke/VarHandle" ∧ (parseMethodDescriptor yX6_asOf.desc).map (fun d => d.parameters.length) = some 1 := by decide +kernel
theorem mv_X6_has : Cond.instanceMethod yX6_has ∈ xtb ∧ Cond.selects RX6 yX6_has yX6_has ∈ xtb ∧ Cond.initialized RX6 ∈ xtb ∧ Cond.code yX6_has cX6_has 2 (some .int) ∈ xtb := ⟨xtb_in 419 (by decide +kernel) (by decide +kernel), xtb_in 420 (by decide +kernel) (by decide +kernel), xtb_in 65 (by decide +kernel) (by decide +kernel), xtb_in 421 (by decide +kernel) (by decide +kernel)⟩
theorem mh_X6_has : yX6_has.cls = RX6 ∧ yX6_has.cls ≠ "java/lang/invoke/MethodHandle" ∧ yX6_has.cls ≠ "java/lang/invoke/VarHandle" ∧ (parseMethodDescriptor yX6_has.desc).map (fun d => d.parameters.length) = some 1 := by decide +kernel
theorem mv_X6_gaps : Cond.instanceMethod yX6_gaps ∈ xtb ∧ Cond.selects RX6 yX6_gaps yX6_gaps ∈ xtb ∧ Cond.initialized RX6 ∈ xtb ∧ Cond.code yX6_gaps cX6_gaps 3 (some .int) ∈ xtb := ⟨xtb_in 423 (by decide +kernel) (by decide +kernel), xtb_in 424 (by decide +kernel) (by decide +kernel), xtb_in 65 (by decide +kernel) (by decide +kernel), xtb_in 425 (by decide +kernel) (by decide +kernel)⟩
theorem mh_X6_gaps : yX6_gaps.cls = RX6 ∧ yX6_gaps.cls ≠ "java/lang/invoke/MethodHandle" ∧ yX6_gaps.cls ≠ "java/lang/invoke/VarHandle" ∧ (parseMethodDescriptor yX6_gaps.desc).map (fun d => d.parameters.length) = some 2 := by decide +kernel
theorem mv_X6_best : Cond.instanceMethod yX6_best ∈ xtb ∧ Cond.selects RX6 yX6_best yX6_best ∈ xtb ∧ Cond.initialized RX6 ∈ xtb ∧ Cond.code yX6_best cX6_best 2 (some .int) ∈ xtb := ⟨xtb_in 450 (by decide +kernel) (by decide +kernel), xtb_in 451 (by decide +kernel) (by decide +kernel), xtb_in 65 (by decide +kernel) (by decide +kernel), xtb_in 452 (by decide +kernel) (by decide +kernel)⟩
theorem mh_X6_best : yX6_best.cls = RX6 ∧ yX6_best.cls ≠ "java/lang/invoke/MethodHandle" ∧ yX6_best.cls ≠ "java/lang/invoke/VarHandle" ∧ (parseMethodDescriptor yX6_best.desc).map (fun d => d.parameters.length) = some 1 := by decide +kernel
theorem mv_X6_first : Cond.instanceMethod yX6_first ∈ xtb ∧ Cond.selects RX6 yX6_first yX6_first ∈ xtb ∧ Cond.initialized RX6 ∈ xtb ∧ Cond.code yX6_first cX6_first 2 (some .int) ∈ xtb := ⟨xtb_in 513 (by decide +kernel) (by decide +kernel), xtb_in 514 (by decide +kernel) (by decide +kernel), xtb_in 65 (by decide +kernel) (by decide +kernel), xtb_in 515 (by decide +kernel) (by decide +kernel)⟩
theorem mh_X6_first : yX6_first.cls = RX6 ∧ yX6_first.cls ≠ "java/lang/invoke/MethodHandle" ∧ yX6_first.cls ≠ "java/lang/invoke/VarHandle" ∧ (parseMethodDescriptor yX6_first.desc).map (fun d => d.parameters.length) = some 1 := by decide +kernel
theorem mv_X6_sure : Cond.instanceMethod yX6_sure ∈ xtb ∧ Cond.selects RX6 yX6_sure yX6_sure ∈ xtb ∧ Cond.initialized RX6 ∈ xtb ∧ Cond.code yX6_sure cX6_sure 3 (some .int) ∈ xtb := ⟨xtb_in 517 (by decide +kernel) (by decide +kernel), xtb_in 518 (by decide +kernel) (by decide +kernel), xtb_in 65 (by decide +kernel) (by decide +kernel), xtb_in 519 (by decide +kernel) (by decide +kernel)⟩
theorem mh_X6_sure : yX6_sure.cls = RX6 ∧ yX6_sure.cls ≠ "java/lang/invoke/MethodHandle" ∧ yX6_sure.cls ≠ "java/lang/invoke/VarHandle" ∧ (parseMethodDescriptor yX6_sure.desc).map (fun d => d.parameters.length) = some 2 := by decide +kernel
theorem mv_X6_places : Cond.instanceMethod yX6_places ∈ xtb ∧ Cond.selects RX6 yX6_places yX6_places ∈ xtb ∧ Cond.initialized RX6 ∈ xtb ∧ Cond.code yX6_places cX6_places 2 (some .int) ∈ xtb := ⟨xtb_in 525 (by decide +kernel) (by decide +kernel), xtb_in 526 (by decide +kernel) (by decide +kernel), xtb_in 65 (by decide +kernel) (by decide +kernel), xtb_in 527 (by decide +kernel) (by decide +kernel)⟩
theorem mh_X6_places : yX6_places.cls = RX6 ∧ yX6_places.cls ≠ "java/lang/invoke/MethodHandle" ∧ yX6_places.cls ≠ "java/lang/invoke/VarHandle" ∧ (parseMethodDescriptor yX6_places.desc).map (fun d => d.parameters.length) = some 1 := by decide +kernel
theorem mv_X6_spread : Cond.instanceMethod yX6_spread ∈ xtb ∧ Cond.selects RX6 yX6_spread yX6_spread ∈ xtb ∧ Cond.initialized RX6 ∈ xtb ∧ Cond.code yX6_spread cX6_spread 3 (some .int) ∈ xtb := ⟨xtb_in 534 (by decide +kernel) (by decide +kernel), xtb_in 535 (by decide +kernel) (by decide +kernel), xtb_in 65 (by decide +kernel) (by decide +kernel), xtb_in 536 (by decide +kernel) (by decide +kernel)⟩
theorem mh_X6_spread : yX6_spread.cls = RX6 ∧ yX6_spread.cls ≠ "java/lang/invoke/MethodHandle" ∧ yX6_spread.cls ≠ "java/lang/invoke/VarHandle" ∧ (parseMethodDescriptor yX6_spread.desc).map (fun d => d.parameters.length) = some 2 := by decide +kernel
theorem mv_X6_mean : Cond.instanceMethod yX6_mean ∈ xtb ∧ Cond.selects RX6 yX6_mean yX6_mean ∈ xtb ∧ Cond.initialized RX6 ∈ xtb ∧ Cond.code yX6_mean cX6_mean 2 (some .long) ∈ xtb := ⟨xtb_in 557 (by decide +kernel) (by decide +kernel), xtb_in 558 (by decide +kernel) (by decide +kernel), xtb_in 65 (by decide +kernel) (by decide +kernel), xtb_in 559 (by decide +kernel) (by decide +kernel)⟩
theorem mh_X6_mean : yX6_mean.cls = RX6 ∧ yX6_mean.cls ≠ "java/lang/invoke/MethodHandle" ∧ yX6_mean.cls ≠ "java/lang/invoke/VarHandle" ∧ (parseMethodDescriptor yX6_mean.desc).map (fun d => d.parameters.length) = some 1 := by decide +kernel
theorem mv_X6_leftOut : Cond.instanceMethod yX6_leftOut ∈ xtb ∧ Cond.selects RX6 yX6_leftOut yX6_leftOut ∈ xtb ∧ Cond.initialized RX6 ∈ xtb ∧ Cond.code yX6_leftOut cX6_leftOut 1 (some .int) ∈ xtb := ⟨xtb_in 576 (by decide +kernel) (by decide +kernel), xtb_in 577 (by decide +kernel) (by decide +kernel), xtb_in 65 (by decide +kernel) (by decide +kernel), xtb_in 578 (by decide +kernel) (by decide +kernel)⟩
theorem mh_X6_leftOut : yX6_leftOut.cls = RX6 ∧ yX6_leftOut.cls ≠ "java/lang/invoke/MethodHandle" ∧ yX6_leftOut.cls ≠ "java/lang/invoke/VarHandle" ∧ (parseMethodDescriptor yX6_leftOut.desc).map (fun d => d.parameters.length) = some 0 := by decide +kernel
theorem mv_X6_mended : Cond.instanceMethod yX6_mended ∈ xtb ∧ Cond.selects RX6 yX6_mended yX6_mended ∈ xtb ∧ Cond.initialized RX6 ∈ xtb ∧ Cond.code yX6_mended cX6_mended 2 (some .int) ∈ xtb := ⟨xtb_in 596 (by decide +kernel) (by decide +kernel), xtb_in 597 (by decide +kernel) (by decide +kernel), xtb_in 65 (by decide +kernel) (by decide +kernel), xtb_in 598 (by decide +kernel) (by decide +kernel)⟩
theorem mh_X6_mended : yX6_mended.cls = RX6 ∧ yX6_mended.cls ≠ "java/lang/invoke/MethodHandle" ∧ yX6_mended.cls ≠ "java/lang/invoke/VarHandle" ∧ (parseMethodDescriptor yX6_mended.desc).map (fun d => d.parameters.length) = some 1 := by decide +kernel
theorem mv_X6_phases : Cond.instanceMethod yX6_phases ∈ xtb ∧ Cond.selects RX6 yX6_phases yX6_phases ∈ xtb ∧ Cond.initialized RX6 ∈ xtb ∧ Cond.code yX6_phases cX6_phases 4 (some .int) ∈ xtb := ⟨xtb_in 617 (by decide +kernel) (by decide +kernel), xtb_in 618 (by decide +kernel) (by decide +kernel), xtb_in 65 (by decide +kernel) (by decide +kernel), xtb_in 619 (by decide +kernel) (by decide +kernel)⟩
theorem mh_X6_phases : yX6_phases.cls = RX6 ∧ yX6_phases.cls ≠ "java/lang/invoke/MethodHandle" ∧ yX6_phases.cls ≠ "java/lang/invoke/VarHandle" ∧ (parseMethodDescriptor yX6_phases.desc).map (fun d => d.parameters.length) = some 2 := by decide +kernel
theorem mv_X6_years : Cond.instanceMethod yX6_years ∈ xtb ∧ Cond.selects RX6 yX6_years yX6_years ∈ xtb ∧ Cond.initialized RX6 ∈ xtb ∧ Cond.code yX6_years cX6_years 4 (some .int) ∈ xtb := ⟨xtb_in 649 (by decide +kernel) (by decide +kernel), xtb_in 650 (by decide +kernel) (by decide +kernel), xtb_in 65 (by decide +kernel) (by decide +kernel), xtb_in 651 (by decide +kernel) (by decide +kernel)⟩
theorem mh_X6_years : yX6_years.cls = RX6 ∧ yX6_years.cls ≠ "java/lang/invoke/MethodHandle" ∧ yX6_years.cls ≠ "java/lang/invoke/VarHandle" ∧ (parseMethodDescriptor yX6_years.desc).map (fun d => d.parameters.length) = some 3 := by decide +kernel
theorem mv_X6_fresh : Cond.instanceMethod yX6_fresh ∈ xtb ∧ Cond.selects RX6 yX6_fresh yX6_fresh ∈ xtb ∧ Cond.initialized RX6 ∈ xtb ∧ Cond.code yX6_fresh cX6_fresh 4 (some .int) ∈ xtb := ⟨xtb_in 663 (by decide +kernel) (by decide +kernel), xtb_in 664 (by decide +kernel) (by decide +kernel), xtb_in 65 (by decide +kernel) (by decide +kernel), xtb_in 665 (by decide +kernel) (by decide +kernel)⟩
theorem mh_X6_fresh : yX6_fresh.cls = RX6 ∧ yX6_fresh.cls ≠ "java/lang/invoke/MethodHandle" ∧ yX6_fresh.cls ≠ "java/lang/invoke/VarHandle" ∧ (parseMethodDescriptor yX6_fresh.desc).map (fun d => d.parameters.length) = some 2 := by decide +kernel
theorem mv_X6_alike : Cond.instanceMethod yX6_alike ∈ xtb ∧ Cond.selects RX6 yX6_alike yX6_alike ∈ xtb ∧ Cond.initialized RX6 ∈ xtb ∧ Cond.code yX6_alike cX6_alike 5 (some .long) ∈ xtb := ⟨xtb_in 679 (by decide +kernel) (by decide +kernel), xtb_in 680 (by decide +kernel) (by decide +kernel), xtb_in 65 (by decide +kernel) (by decide +kernel), xtb_in 681 (by decide +kernel) (by decide +kernel)⟩
theorem mh_X6_alike : yX6_alike.cls = RX6 ∧ yX6_alike.cls ≠ "java/lang/invoke/MethodHandle" ∧ yX6_alike.cls ≠ "java/lang/invoke/VarHandle" ∧ (parseMethodDescriptor yX6_alike.desc).map (fun d => d.parameters.length) = some 3 := by decide +kernel
theorem mv_X6_nearest : Cond.instanceMethod yX6_nearest ∈ xtb ∧ Cond.selects RX6 yX6_nearest yX6_nearest ∈ xtb ∧ Cond.initialized RX6 ∈ xtb ∧ Cond.code yX6_nearest cX6_nearest 2 (some .int) ∈ xtb := ⟨xtb_in 691 (by decide +kernel) (by decide +kernel), xtb_in 692 (by decide +kernel) (by decide +kernel), xtb_in 65 (by decide +kernel) (by decide +kernel), xtb_in 693 (by decide +kernel) (by decide +kernel)⟩
theorem mh_X6_nearest : yX6_nearest.cls = RX6 ∧ yX6_nearest.cls ≠ "java/lang/invoke/MethodHandle" ∧ yX6_nearest.cls ≠ "java/lang/invoke/VarHandle" ∧ (parseMethodDescriptor yX6_nearest.desc).map (fun d => d.parameters.length) = some 1 := by decide +kernel
theorem mv_X6_sheet : Cond.instanceMethod yX6_sheet ∈ xtb ∧ Cond.selects RX6 yX6_sheet yX6_sheet ∈ xtb ∧ Cond.initialized RX6 ∈ xtb ∧ Cond.code yX6_sheet cX6_sheet 4 (some .int) ∈ xtb := ⟨xtb_in 701 (by decide +kernel) (by decide +kernel), xtb_in 702 (by decide +kernel) (by decide +kernel), xtb_in 65 (by decide +kernel) (by decide +kernel), xtb_in 703 (by decide +kernel) (by decide +kernel)⟩
theorem mh_X6_sheet : yX6_sheet.cls = RX6 ∧ yX6_sheet.cls ≠ "java/lang/invoke/MethodHandle" ∧ yX6_sheet.cls ≠ "java/lang/invoke/VarHandle" ∧ (parseMethodDescriptor yX6_sheet.desc).map (fun d => d.parameters.length) = some 3 := by decide +kernel
theorem mv_X6_lose : Cond.instanceMethod yX6_lose ∈ xtb ∧ Cond.selects RX6 yX6_lose yX6_lose ∈ xtb ∧ Cond.initialized RX6 ∈ xtb ∧ Cond.code yX6_lose cX6_lose 2 (some .int) ∈ xtb := ⟨xtb_in 709 (by decide +kernel) (by decide +kernel), xtb_in 710 (by decide +kernel) (by decide +kernel), xtb_in 65 (by decide +kernel) (by decide +kernel), xtb_in 711 (by decide +kernel) (by decide +kernel)⟩
theorem mh_X6_lose : yX6_lose.cls = RX6 ∧ yX6_lose.cls ≠ "java/lang/invoke/MethodHandle" ∧ yX6_lose.cls ≠ "java/lang/invoke/VarHandle" ∧ (parseMethodDescriptor yX6_lose.desc).map (fun d => d.parameters.length) = some 1 := by decide +kernel
theorem mv_X6_put : Cond.instanceMethod yX6_put ∈ xtb ∧ Cond.selects RX6 yX6_put yX6_put ∈ xtb ∧ Cond.initialized RX6 ∈ xtb ∧ Cond.code yX6_put cX6_put 6 (some .int) ∈ xtb := ⟨xtb_in 713 (by decide +kernel) (by decide +kernel), xtb_in 714 (by decide +kernel) (by decide +kernel), xtb_in 65 (by decide +kernel) (by decide +kernel), xtb_in 715 (by decide +kernel) (by decide +kernel)⟩
theorem mh_X6_put : yX6_put.cls = RX6 ∧ yX6_put.cls ≠ "java/lang/invoke/MethodHandle" ∧ yX6_put.cls ≠ "java/lang/invoke/VarHandle" ∧ (parseMethodDescriptor yX6_put.desc).map (fun d => d.parameters.length) = some 4 := by decide +kernel
theorem mv_X6_get : Cond.instanceMethod yX6_get ∈ xtb ∧ Cond.selects RX6 yX6_get yX6_get ∈ xtb ∧ Cond.initialized RX6 ∈ xtb ∧ Cond.code yX6_get cX6_get 5 (some .int) ∈ xtb := ⟨xtb_in 725 (by decide +kernel) (by decide +kernel), xtb_in 726 (by decide +kernel) (by decide +kernel), xtb_in 65 (by decide +kernel) (by decide +kernel), xtb_in 727 (by decide +kernel) (by decide +kernel)⟩
theorem mh_X6_get : yX6_get.cls = RX6 ∧ yX6_get.cls ≠ "java/lang/invoke/MethodHandle" ∧ yX6_get.cls ≠ "java/lang/invoke/VarHandle" ∧ (parseMethodDescriptor yX6_get.desc).map (fun d => d.parameters.length) = some 3 := by decide +kernel
theorem mv_X6_copy : Cond.instanceMethod yX6_copy ∈ xtb ∧ Cond.selects RX6 yX6_copy yX6_copy ∈ xtb ∧ Cond.initialized RX6 ∈ xtb ∧ Cond.code yX6_copy cX6_copy 6 (some .int) ∈ xtb := ⟨xtb_in 730 (by decide +kernel) (by decide +kernel), xtb_in 731 (by decide +kernel) (by decide +kernel), xtb_in 65 (by decide +kernel) (by decide +kernel), xtb_in 732 (by decide +kernel) (by decide +kernel)⟩
theorem mh_X6_copy : yX6_copy.cls = RX6 ∧ yX6_copy.cls ≠ "java/lang/invoke/MethodHandle" ∧ yX6_copy.cls ≠ "java/lang/invoke/VarHandle" ∧ (parseMethodDescriptor yX6_copy.desc).map (fun d => d.parameters.length) = some 5 := by decide +kernel
theorem mv_X6_write : Cond.instanceMethod yX6_write ∈ xtb ∧ Cond.selects RX6 yX6_write yX6_write ∈ xtb ∧ Cond.initialized RX6 ∈ xtb ∧ Cond.code yX6_write cX6_write 4 (some .int) ∈ xtb := ⟨xtb_in 741 (by decide +kernel) (by decide +kernel), xtb_in 742 (by decide +kernel) (by decide +kernel), xtb_in 65 (by decide +kernel) (by decide +kernel), xtb_in 743 (by decide +kernel) (by decide +kernel)⟩
theorem mh_X6_write : yX6_write.cls = RX6 ∧ yX6_write.cls ≠ "java/lang/invoke/MethodHandle" ∧ yX6_write.cls ≠ "java/lang/invoke/VarHandle" ∧ (parseMethodDescriptor yX6_write.desc).map (fun d => d.parameters.length) = some 1 := by decide +kernel
theorem mv_X6_count : Cond.instanceMethod yX6_count ∈ xtb ∧ Cond.selects RX6 yX6_count yX6_count ∈ xtb ∧ Cond.initialized RX6 ∈ xtb ∧ Cond.code yX6_count cX6_count 2 (some .int) ∈ xtb := ⟨xtb_in 746 (by decide +kernel) (by decide +kernel), xtb_in 747 (by decide +kernel) (by decide +kernel), xtb_in 65 (by decide +kernel) (by decide +kernel), xtb_in 748 (by decide +kernel) (by decide +kernel)⟩
theorem mh_X6_count : yX6_count.cls = RX6 ∧ yX6_count.cls ≠ "java/lang/invoke/MethodHandle" ∧ yX6_count.cls ≠ "java/lang/invoke/VarHandle" ∧ (parseMethodDescriptor yX6_count.desc).map (fun d => d.parameters.length) = some 1 := by decide +kernel
theorem mv_X6_digest : Cond.instanceMethod yX6_digest ∈ xtb ∧ Cond.selects RX6 yX6_digest yX6_digest ∈ xtb ∧ Cond.initialized RX6 ∈ xtb ∧ Cond.code yX6_digest cX6_digest 4 (some .long) ∈ xtb := ⟨xtb_in 754 (by decide +kernel) (by decide +kernel), xtb_in 755 (by decide +kernel) (by decide +kernel), xtb_in 65 (by decide +kernel) (by decide +kernel), xtb_in 756 (by decide +kernel) (by decide +kernel)⟩
theorem mh_X6_digest : yX6_digest.cls = RX6 ∧ yX6_digest.cls ≠ "java/lang/invoke/MethodHandle" ∧ yX6_digest.cls ≠ "java/lang/invoke/VarHandle" ∧ (parseMethodDescriptor yX6_digest.desc).map (fun d => d.parameters.length) = some 0 := by decide +kernel
theorem mv_X6_digestOfGraves : Cond.instanceMethod yX6_digestOfGraves ∈ xtb ∧ Cond.selects RX6 yX6_digestOfGraves yX6_digestOfGraves ∈ xtb ∧ Cond.initialized RX6 ∈ xtb ∧ Cond.code yX6_digestOfGraves cX6_digestOfGraves 6 (some .long) ∈ xtb := ⟨xtb_in 763 (by decide +kernel) (by decide +kernel), xtb_in 28 (by decide +kernel) (by decide +kernel), xtb_in 65 (by decide +kernel) (by decide +kernel), xtb_in 764 (by decide +kernel) (by decide +kernel)⟩
theorem mh_X6_digestOfGraves : yX6_digestOfGraves.cls = RX6 ∧ yX6_digestOfGraves.cls ≠ "java/lang/invoke/MethodHandle" ∧ yX6_digestOfGraves.cls ≠ "java/lang/invoke/VarHandle" ∧ (parseMethodDescriptor yX6_digestOfGraves.desc).map (fun d => d.parameters.length) = some 1 := by decide +kernel
theorem mv_X6_digestOfOrders : Cond.instanceMethod yX6_digestOfOrders ∈ xtb ∧ Cond.selects RX6 yX6_digestOfOrders yX6_digestOfOrders ∈ xtb ∧ Cond.initialized RX6 ∈ xtb ∧ Cond.code yX6_digestOfOrders cX6_digestOfOrders 6 (some .long) ∈ xtb := ⟨xtb_in 772 (by decide +kernel) (by decide +kernel), xtb_in 29 (by decide +kernel) (by decide +kernel), xtb_in 65 (by decide +kernel) (by decide +kernel), xtb_in 773 (by decide +kernel) (by decide +kernel)⟩
theorem mh_X6_digestOfOrders : yX6_digestOfOrders.cls = RX6 ∧ yX6_digestOfOrders.cls ≠ "java/lang/invoke/MethodHandle" ∧ yX6_digestOfOrders.cls ≠ "java/lang/invoke/VarHandle" ∧ (parseMethodDescriptor yX6_digestOfOrders.desc).map (fun d => d.parameters.length) = some 1 := by decide +kernel
theorem ms_X6_within : Cond.static yX6_within ∈ xtb ∧ Cond.initialized yX6_within.cls ∈ xtb ∧ Cond.code yX6_within cX6_within 3 (some .boolean) ∈ xtb := ⟨xtb_in 308 (by decide +kernel) (by decide +kernel), xtb_in 65 (by decide +kernel) (by decide +kernel), xtb_in 309 (by decide +kernel) (by decide +kernel)⟩
theorem mh_X6_within : yX6_within.cls ≠ "java/lang/invoke/MethodHandle" ∧ yX6_within.cls ≠ "java/lang/invoke/VarHandle" ∧ (parseMethodDescriptor yX6_within.desc).map (fun d => d.parameters.length) = some 3 := by decide +kernel
theorem ms_X6_bit : Cond.static yX6_bit ∈ xtb ∧ Cond.initialized yX6_bit.cls ∈ xtb ∧ Cond.code yX6_bit cX6_bit 1 (some .int) ∈ xtb := ⟨xtb_in 447 (by decide +kernel) (by decide +kernel), xtb_in 65 (by decide +kernel) (by decide +kernel), xtb_in 448 (by decide +kernel) (by decide +kernel)⟩
theorem mh_X6_bit : yX6_bit.cls ≠ "java/lang/invoke/MethodHandle" ∧ yX6_bit.cls ≠ "java/lang/invoke/VarHandle" ∧ (parseMethodDescriptor yX6_bit.desc).map (fun d => d.parameters.length) = some 1 := by decide +kernel
theorem ms_X6_longRefusal : Cond.static yX6_longRefusal ∈ xtb ∧ Cond.initialized yX6_longRefusal.cls ∈ xtb ∧ Cond.code yX6_longRefusal cX6_longRefusal 1 (some .long) ∈ xtb := ⟨xtb_in 561 (by decide +kernel) (by decide +kernel), xtb_in 65 (by decide +kernel) (by decide +kernel), xtb_in 562 (by decide +kernel) (by decide +kernel)⟩
theorem mh_X6_longRefusal : yX6_longRefusal.cls ≠ "java/lang/invoke/MethodHandle" ∧ yX6_longRefusal.cls ≠ "java/lang/invoke/VarHandle" ∧ (parseMethodDescriptor yX6_longRefusal.desc).map (fun d => d.parameters.length) = some 1 := by decide +kernel
theorem ms_X6_inLowestTerms : Cond.static yX6_inLowestTerms ∈ xtb ∧ Cond.initialized yX6_inLowestTerms.cls ∈ xtb ∧ Cond.code yX6_inLowestTerms cX6_inLowestTerms 4 (some .long) ∈ xtb := ⟨xtb_in 569 (by decide +kernel) (by decide +kernel), xtb_in 65 (by decide +kernel) (by decide +kernel), xtb_in 570 (by decide +kernel) (by decide +kernel)⟩
theorem mh_X6_inLowestTerms : yX6_inLowestTerms.cls ≠ "java/lang/invoke/MethodHandle" ∧ yX6_inLowestTerms.cls ≠ "java/lang/invoke/VarHandle" ∧ (parseMethodDescriptor yX6_inLowestTerms.desc).map (fun d => d.parameters.length) = some 3 := by decide +kernel
theorem ms_X6_commonDivisor : Cond.static yX6_commonDivisor ∈ xtb ∧ Cond.initialized yX6_commonDivisor.cls ∈ xtb ∧ Cond.code yX6_commonDivisor cX6_commonDivisor 6 (some .int) ∈ xtb := ⟨xtb_in 572 (by decide +kernel) (by decide +kernel), xtb_in 65 (by decide +kernel) (by decide +kernel), xtb_in 573 (by decide +kernel) (by decide +kernel)⟩
theorem mh_X6_commonDivisor : yX6_commonDivisor.cls ≠ "java/lang/invoke/MethodHandle" ∧ yX6_commonDivisor.cls ≠ "java/lang/invoke/VarHandle" ∧ (parseMethodDescriptor yX6_commonDivisor.desc).map (fun d => d.parameters.length) = some 2 := by decide +kernel
theorem mv_X6_isGrave : Cond.instanceMethod yX6_isGrave ∈ xtb ∧ Cond.selects RX6 yX6_isGrave yX6_isGrave ∈ xtb ∧ Cond.initialized RX6 ∈ xtb ∧ Cond.code yX6_isGrave cX6_isGrave 2 (some .boolean) ∈ xtb := ⟨xtb_in 320 (by decide +kernel) (by decide +kernel), xtb_in 0 (by decide +kernel) (by decide +kernel), xtb_in 65 (by decide +kernel) (by decide +kernel), xtb_in 321 (by decide +kernel) (by decide +kernel)⟩
theorem mh_X6_isGrave : yX6_isGrave.cls = RX6 ∧ yX6_isGrave.cls ≠ "java/lang/invoke/MethodHandle" ∧ yX6_isGrave.cls ≠ "java/lang/invoke/VarHandle" ∧ (parseMethodDescriptor yX6_isGrave.desc).map (fun d => d.parameters.length) = some 1 := by decide +kernel
theorem mv_X6_isPair : Cond.instanceMethod yX6_isPair ∈ xtb ∧ Cond.selects RX6 yX6_isPair yX6_isPair ∈ xtb ∧ Cond.initialized RX6 ∈ xtb ∧ Cond.code yX6_isPair cX6_isPair 3 (some .boolean) ∈ xtb := ⟨xtb_in 349 (by decide +kernel) (by decide +kernel), xtb_in 1 (by decide +kernel) (by decide +kernel), xtb_in 65 (by decide +kernel) (by decide +kernel), xtb_in 350 (by decide +kernel) (by decide +kernel)⟩
theorem mh_X6_isPair : yX6_isPair.cls = RX6 ∧ yX6_isPair.cls ≠ "java/lang/invoke/MethodHandle" ∧ yX6_isPair.cls ≠ "java/lang/invoke/VarHandle" ∧ (parseMethodDescriptor yX6_isPair.desc).map (fun d => d.parameters.length) = some 2 := by decide +kernel
theorem ms_X6_isKind : Cond.static yX6_isKind ∈ xtb ∧ Cond.initialized yX6_isKind.cls ∈ xtb ∧ Cond.code yX6_isKind cX6_isKind 1 (some .boolean) ∈ xtb := ⟨xtb_in 327 (by decide +kernel) (by decide +kernel), xtb_in 65 (by decide +kernel) (by decide +kernel), xtb_in 328 (by decide +kernel) (by decide +kernel)⟩
theorem mh_X6_isKind : yX6_isKind.cls ≠ "java/lang/invoke/MethodHandle" ∧ yX6_isKind.cls ≠ "java/lang/invoke/VarHandle" ∧ (parseMethodDescriptor yX6_isKind.desc).map (fun d => d.parameters.length) = some 1 := by decide +kernel
theorem ms_X6_isSheet : Cond.static yX6_isSheet ∈ xtb ∧ Cond.initialized yX6_isSheet.cls ∈ xtb ∧ Cond.code yX6_isSheet cX6_isSheet 1 (some .boolean) ∈ xtb := ⟨xtb_in 404 (by decide +kernel) (by decide +kernel), xtb_in 65 (by decide +kernel) (by decide +kernel), xtb_in 405 (by decide +kernel) (by decide +kernel)⟩
theorem mh_X6_isSheet : yX6_isSheet.cls ≠ "java/lang/invoke/MethodHandle" ∧ yX6_isSheet.cls ≠ "java/lang/invoke/VarHandle" ∧ (parseMethodDescriptor yX6_isSheet.desc).map (fun d => d.parameters.length) = some 1 := by decide +kernel
theorem mv_X6_canTellAt : Cond.instanceMethod yX6_canTellAt ∈ xtb ∧ Cond.selects RX6 yX6_canTellAt yX6_canTellAt ∈ xtb ∧ Cond.initialized RX6 ∈ xtb ∧ Cond.code yX6_canTellAt cX6_canTellAt 2 (some .boolean) ∈ xtb := ⟨xtb_in 376 (by decide +kernel) (by decide +kernel), xtb_in 2 (by decide +kernel) (by decide +kernel), xtb_in 65 (by decide +kernel) (by decide +kernel), xtb_in 377 (by decide +kernel) (by decide +kernel)⟩
theorem mh_X6_canTellAt : yX6_canTellAt.cls = RX6 ∧ yX6_canTellAt.cls ≠ "java/lang/invoke/MethodHandle" ∧ yX6_canTellAt.cls ≠ "java/lang/invoke/VarHandle" ∧ (parseMethodDescriptor yX6_canTellAt.desc).map (fun d => d.parameters.length) = some 1 := by decide +kernel
theorem mv_X6_finding : Cond.instanceMethod yX6_finding ∈ xtb ∧ Cond.selects RX6 yX6_finding yX6_finding ∈ xtb ∧ Cond.initialized RX6 ∈ xtb ∧ Cond.code yX6_finding cX6_finding 2 (some .int) ∈ xtb := ⟨xtb_in 408 (by decide +kernel) (by decide +kernel), xtb_in 5 (by decide +kernel) (by decide +kernel), xtb_in 65 (by decide +kernel) (by decide +kernel), xtb_in 409 (by decide +kernel) (by decide +kernel)⟩
theorem mh_X6_finding : yX6_finding.cls = RX6 ∧ yX6_finding.cls ≠ "java/lang/invoke/MethodHandle" ∧ yX6_finding.cls ≠ "java/lang/invoke/VarHandle" ∧ (parseMethodDescriptor yX6_finding.desc).map (fun d => d.parameters.length) = some 1 := by decide +kernel
theorem mv_X6_findsChanged : Cond.instanceMethod yX6_findsChanged ∈ xtb ∧ Cond.selects RX6 yX6_findsChanged yX6_findsChanged ∈ xtb ∧ Cond.initialized RX6 ∈ xtb ∧ Cond.code yX6_findsChanged cX6_findsChanged 1 none ∈ xtb := ⟨xtb_in 393 (by decide +kernel) (by decide +kernel), xtb_in 4 (by decide +kernel) (by decide +kernel), xtb_in 65 (by decide +kernel) (by decide +kernel), xtb_in 394 (by decide +kernel) (by decide +kernel)⟩
theorem mh_X6_findsChanged : yX6_findsChanged.cls = RX6 ∧ yX6_findsChanged.cls ≠ "java/lang/invoke/MethodHandle" ∧ yX6_findsChanged.cls ≠ "java/lang/invoke/VarHandle" ∧ (parseMethodDescriptor yX6_findsChanged.desc).map (fun d => d.parameters.length) = some 0 := by decide +kernel
theorem mv_X6_tellLine : Cond.instanceMethod yX6_tellLine ∈ xtb ∧ Cond.selects RX6 yX6_tellLine yX6_tellLine ∈ xtb ∧ Cond.initialized RX6 ∈ xtb ∧ Cond.code yX6_tellLine cX6_tellLine 8 (some .int) ∈ xtb := ⟨xtb_in 384 (by decide +kernel) (by decide +kernel), xtb_in 3 (by decide +kernel) (by decide +kernel), xtb_in 65 (by decide +kernel) (by decide +kernel), xtb_in 385 (by decide +kernel) (by decide +kernel)⟩
theorem mh_X6_tellLine : yX6_tellLine.cls = RX6 ∧ yX6_tellLine.cls ≠ "java/lang/invoke/MethodHandle" ∧ yX6_tellLine.cls ≠ "java/lang/invoke/VarHandle" ∧ (parseMethodDescriptor yX6_tellLine.desc).map (fun d => d.parameters.length) = some 1 := by decide +kernel
theorem mv_X6_tellSheet : Cond.instanceMethod yX6_tellSheet ∈ xtb ∧ Cond.selects RX6 yX6_tellSheet yX6_tellSheet ∈ xtb ∧ Cond.initialized RX6 ∈ xtb ∧ Cond.code yX6_tellSheet cX6_tellSheet 7 (some .int) ∈ xtb := ⟨xtb_in 412 (by decide +kernel) (by decide +kernel), xtb_in 6 (by decide +kernel) (by decide +kernel), xtb_in 65 (by decide +kernel) (by decide +kernel), xtb_in 413 (by decide +kernel) (by decide +kernel)⟩
theorem mh_X6_tellSheet : yX6_tellSheet.cls = RX6 ∧ yX6_tellSheet.cls ≠ "java/lang/invoke/MethodHandle" ∧ yX6_tellSheet.cls ≠ "java/lang/invoke/VarHandle" ∧ (parseMethodDescriptor yX6_tellSheet.desc).map (fun d => d.parameters.length) = some 3 := by decide +kernel
theorem ms_X7_in : Cond.static yX7_in ∈ xtb ∧ Cond.initialized yX7_in.cls ∈ xtb ∧ Cond.code yX7_in cX7_in 3 (some .boolean) ∈ xtb := ⟨xtb_in 912 (by decide +kernel) (by decide +kernel), xtb_in 72 (by decide +kernel) (by decide +kernel), xtb_in 913 (by decide +kernel) (by decide +kernel)⟩
theorem mh_X7_in : yX7_in.cls ≠ "java/lang/invoke/MethodHandle" ∧ yX7_in.cls ≠ "java/lang/invoke/VarHandle" ∧ (parseMethodDescriptor yX7_in.desc).map (fun d => d.parameters.length) = some 3 := by decide +kernel
theorem ms_X7_is : Cond.static yX7_is ∈ xtb ∧ Cond.initialized yX7_is.cls ∈ xtb ∧ Cond.code yX7_is cX7_is 2 (some .boolean) ∈ xtb := ⟨xtb_in 993 (by decide +kernel) (by decide +kernel), xtb_in 72 (by decide +kernel) (by decide +kernel), xtb_in 994 (by decide +kernel) (by decide +kernel)⟩
theorem mh_X7_is : yX7_is.cls ≠ "java/lang/invoke/MethodHandle" ∧ yX7_is.cls ≠ "java/lang/invoke/VarHandle" ∧ (parseMethodDescriptor yX7_is.desc).map (fun d => d.parameters.length) = some 2 := by decide +kernel
theorem ms_X7_ones : Cond.static yX7_ones ∈ xtb ∧ Cond.initialized yX7_ones.cls ∈ xtb ∧ Cond.code yX7_ones cX7_ones 3 (some .int) ∈ xtb := ⟨xtb_in 1033 (by decide +kernel) (by decide +kernel), xtb_in 72 (by decide +kernel) (by decide +kernel), xtb_in 1034 (by decide +kernel) (by decide +kernel)⟩
theorem mh_X7_ones : yX7_ones.cls ≠ "java/lang/invoke/MethodHandle" ∧ yX7_ones.cls ≠ "java/lang/invoke/VarHandle" ∧ (parseMethodDescriptor yX7_ones.desc).map (fun d => d.parameters.length) = some 1 := by decide +kernel
theorem ms_X7_no : Cond.static yX7_no ∈ xtb ∧ Cond.initialized yX7_no.cls ∈ xtb ∧ Cond.code yX7_no cX7_no 1 (some .long) ∈ xtb := ⟨xtb_in 1083 (by decide +kernel) (by decide +kernel), xtb_in 72 (by decide +kernel) (by decide +kernel), xtb_in 1084 (by decide +kernel) (by decide +kernel)⟩
theorem mh_X7_no : yX7_no.cls ≠ "java/lang/invoke/MethodHandle" ∧ yX7_no.cls ≠ "java/lang/invoke/VarHandle" ∧ (parseMethodDescriptor yX7_no.desc).map (fun d => d.parameters.length) = some 1 := by decide +kernel
theorem ms_X7_lowest : Cond.static yX7_lowest ∈ xtb ∧ Cond.initialized yX7_lowest.cls ∈ xtb ∧ Cond.code yX7_lowest cX7_lowest 11 (some .long) ∈ xtb := ⟨xtb_in 1080 (by decide +kernel) (by decide +kernel), xtb_in 72 (by decide +kernel) (by decide +kernel), xtb_in 1081 (by decide +kernel) (by decide +kernel)⟩
theorem mh_X7_lowest : yX7_lowest.cls ≠ "java/lang/invoke/MethodHandle" ∧ yX7_lowest.cls ≠ "java/lang/invoke/VarHandle" ∧ (parseMethodDescriptor yX7_lowest.desc).map (fun d => d.parameters.length) = some 3 := by decide +kernel
theorem mv_X7_isGrave : Cond.instanceMethod yX7_isGrave ∈ xtb ∧ Cond.selects RX7 yX7_isGrave yX7_isGrave ∈ xtb ∧ Cond.initialized RX7 ∈ xtb ∧ Cond.code yX7_isGrave cX7_isGrave 2 (some .boolean) ∈ xtb := ⟨xtb_in 920 (by decide +kernel) (by decide +kernel), xtb_in 30 (by decide +kernel) (by decide +kernel), xtb_in 72 (by decide +kernel) (by decide +kernel), xtb_in 921 (by decide +kernel) (by decide +kernel)⟩
theorem mh_X7_isGrave : yX7_isGrave.cls = RX7 ∧ yX7_isGrave.cls ≠ "java/lang/invoke/MethodHandle" ∧ yX7_isGrave.cls ≠ "java/lang/invoke/VarHandle" ∧ (parseMethodDescriptor yX7_isGrave.desc).map (fun d => d.parameters.length) = some 1 := by decide +kernel
theorem ms_X7_isKind : Cond.static yX7_isKind ∈ xtb ∧ Cond.initialized yX7_isKind.cls ∈ xtb ∧ Cond.code yX7_isKind cX7_isKind 1 (some .boolean) ∈ xtb := ⟨xtb_in 927 (by decide +kernel) (by decide +kernel), xtb_in 72 (by decide +kernel) (by decide +kernel), xtb_in 928 (by decide +kernel) (by decide +kernel)⟩
theorem mh_X7_isKind : yX7_isKind.cls ≠ "java/lang/invoke/MethodHandle" ∧ yX7_isKind.cls ≠ "java/lang/invoke/VarHandle" ∧ (parseMethodDescriptor yX7_isKind.desc).map (fun d => d.parameters.length) = some 1 := by decide +kernel
theorem mv_X7_grave : Cond.instanceMethod yX7_grave ∈ xtb ∧ Cond.selects RX7 yX7_grave yX7_grave ∈ xtb ∧ Cond.initialized RX7 ∈ xtb ∧ Cond.code yX7_grave cX7_grave 3 (some .int) ∈ xtb := ⟨xtb_in 908 (by decide +kernel) (by decide +kernel), xtb_in 909 (by decide +kernel) (by decide +kernel), xtb_in 72 (by decide +kernel) (by decide +kernel), xtb_in 910 (by decide +kernel) (by decide +kernel)⟩
theorem mh_X7_grave : yX7_grave.cls = RX7 ∧ yX7_grave.cls ≠ "java/lang/invoke/MethodHandle" ∧ yX7_grave.cls ≠ "java/lang/invoke/VarHandle" ∧ (parseMethodDescriptor yX7_grave.desc).map (fun d => d.parameters.length) = some 2 := by decide +kernel
theorem mv_X7_robbed : Cond.instanceMethod yX7_robbed ∈ xtb ∧ Cond.selects RX7 yX7_robbed yX7_robbed ∈ xtb ∧ Cond.initialized RX7 ∈ xtb ∧ Cond.code yX7_robbed cX7_robbed 4 (some .int) ∈ xtb := ⟨xtb_in 915 (by decide +kernel) (by decide +kernel), xtb_in 916 (by decide +kernel) (by decide +kernel), xtb_in 72 (by decide +kernel) (by decide +kernel), xtb_in 917 (by decide +kernel) (by decide +kernel)⟩
theorem mh_X7_robbed : yX7_robbed.cls = RX7 ∧ yX7_robbed.cls ≠ "java/lang/invoke/MethodHandle" ∧ yX7_robbed.cls ≠ "java/lang/invoke/VarHandle" ∧ (parseMethodDescriptor yX7_robbed.desc).map (fun d => d.parameters.length) = some 2 := by decide +kernel
theorem mv_X7_weight : Cond.instanceMethod yX7_weight ∈ xtb ∧ Cond.selects RX7 yX7_weight yX7_weight ∈ xtb ∧ Cond.initialized RX7 ∈ xtb ∧ Cond.code yX7_weight cX7_weight 4 (some .int) ∈ xtb := ⟨xtb_in 923 (by decide +kernel) (by decide +kernel), xtb_in 924 (by decide +kernel) (by decide +kernel), xtb_in 72 (by decide +kernel) (by decide +kernel), xtb_in 925 (by decide +kernel) (by decide +kernel)⟩
theorem mh_X7_weight : yX7_weight.cls = RX7 ∧ yX7_weight.cls ≠ "java/lang/invoke/MethodHandle" ∧ yX7_weight.cls ≠ "java/lang/invoke/VarHandle" ∧ (parseMethodDescriptor yX7_weight.desc).map (fun d => d.parameters.length) = some 2 := by decide +kernel
theorem mv_X7_over : Cond.instanceMethod yX7_over ∈ xtb ∧ Cond.selects RX7 yX7_over yX7_over ∈ xtb ∧ Cond.initialized RX7 ∈ xtb ∧ Cond.code yX7_over cX7_over 3 (some .int) ∈ xtb := ⟨xtb_in 930 (by decide +kernel) (by decide +kernel), xtb_in 931 (by decide +kernel) (by decide +kernel), xtb_in 72 (by decide +kernel) (by decide +kernel), xtb_in 932 (by decide +kernel) (by decide +kernel)⟩
theorem mh_X7_over : yX7_over.cls = RX7 ∧ yX7_over.cls ≠ "java/lang/invoke/MethodHandle" ∧ yX7_over.cls ≠ "java/lang/invoke/VarHandle" ∧ (parseMethodDescriptor yX7_over.desc).map (fun d => d.parameters.length) = some 2 := by decide +kernel
theorem mv_X7_type : Cond.instanceMethod yX7_type ∈ xtb ∧ Cond.selects RX7 yX7_type yX7_type ∈ xtb ∧ Cond.initialized RX7 ∈ xtb ∧ Cond.code yX7_type cX7_type 2 (some .int) ∈ xtb := ⟨xtb_in 934 (by decide +kernel) (by decide +kernel), xtb_in 935 (by decide +kernel) (by decide +kernel), xtb_in 72 (by decide +kernel) (by decide +kernel), xtb_in 936 (by decide +kernel) (by decide +kernel)⟩
theorem mh_X7_type : yX7_type.cls = RX7 ∧ yX7_type.cls ≠ "java/lang/invoke/MethodHandle" ∧ yX7_type.cls ≠ "java/lang/invoke/VarHandle" ∧ (parseMethodDescriptor yX7_type.desc).map (fun d => d.parameters.length) = some 1 := by decide +kernel
theorem mv_X7_wipe : Cond.instanceMethod yX7_wipe ∈ xtb ∧ Cond.selects RX7 yX7_wipe yX7_wipe ∈ xtb ∧ Cond.initialized RX7 ∈ xtb ∧ Cond.code yX7_wipe cX7_wipe 2 (some .int) ∈ xtb := ⟨xtb_in 938 (by decide +kernel) (by decide +kernel), xtb_in 939 (by decide +kernel) (by decide +kernel), xtb_in 72 (by decide +kernel) (by decide +kernel), xtb_in 940 (by decide +kernel) (by decide +kernel)⟩
theorem mh_X7_wipe : yX7_wipe.cls = RX7 ∧ yX7_wipe.cls ≠ "java/lang/invoke/MethodHandle" ∧ yX7_wipe.cls ≠ "java/lang/invoke/VarHandle" ∧ (parseMethodDescriptor yX7_wipe.desc).map (fun d => d.parameters.length) = some 0 := by decide +kernel
theorem mv_X7_byteAt : Cond.instanceMethod yX7_byteAt ∈ xtb ∧ Cond.selects RX7 yX7_byteAt yX7_byteAt ∈ xtb ∧ Cond.initialized RX7 ∈ xtb ∧ Cond.code yX7_byteAt cX7_byteAt 2 (some .int) ∈ xtb := ⟨xtb_in 951 (by decide +kernel) (by decide +kernel), xtb_in 32 (by decide +kernel) (by decide +kernel), xtb_in 72 (by decide +kernel) (by decide +kernel), xtb_in 952 (by decide +kernel) (by decide +kernel)⟩
theorem mh_X7_byteAt : yX7_byteAt.cls = RX7 ∧ yX7_byteAt.cls ≠ "java/lang/invoke/MethodHandle" ∧ yX7_byteAt.cls ≠ "java/lang/invoke/VarHandle" ∧ (parseMethodDescriptor yX7_byteAt.desc).map (fun d => d.parameters.length) = some 1 := by decide +kernel
theorem mv_X7_faultNow : Cond.instanceMethod yX7_faultNow ∈ xtb ∧ Cond.selects RX7 yX7_faultNow yX7_faultNow ∈ xtb ∧ Cond.initialized RX7 ∈ xtb ∧ Cond.code yX7_faultNow cX7_faultNow 6 (some .int) ∈ xtb := ⟨xtb_in 947 (by decide +kernel) (by decide +kernel), xtb_in 31 (by decide +kernel) (by decide +kernel), xtb_in 72 (by decide +kernel) (by decide +kernel), xtb_in 948 (by decide +kernel) (by decide +kernel)⟩
theorem mh_X7_faultNow : yX7_faultNow.cls = RX7 ∧ yX7_faultNow.cls ≠ "java/lang/invoke/MethodHandle" ∧ yX7_faultNow.cls ≠ "java/lang/invoke/VarHandle" ∧ (parseMethodDescriptor yX7_faultNow.desc).map (fun d => d.parameters.length) = some 0 := by decide +kernel
theorem mv_X7_fault : Cond.instanceMethod yX7_fault ∈ xtb ∧ Cond.selects RX7 yX7_fault yX7_fault ∈ xtb ∧ Cond.initialized RX7 ∈ xtb ∧ Cond.code yX7_fault cX7_fault 1 (some .int) ∈ xtb := ⟨xtb_in 942 (by decide +kernel) (by decide +kernel), xtb_in 943 (by decide +kernel) (by decide +kernel), xtb_in 72 (by decide +kernel) (by decide +kernel), xtb_in 944 (by decide +kernel) (by decide +kernel)⟩
theorem mh_X7_fault : yX7_fault.cls = RX7 ∧ yX7_fault.cls ≠ "java/lang/invoke/MethodHandle" ∧ yX7_fault.cls ≠ "java/lang/invoke/VarHandle" ∧ (parseMethodDescriptor yX7_fault.desc).map (fun d => d.parameters.length) = some 0 := by decide +kernel
theorem mv_X7_lastTime : Cond.instanceMethod yX7_lastTime ∈ xtb ∧ Cond.selects RX7 yX7_lastTime yX7_lastTime ∈ xtb ∧ Cond.initialized RX7 ∈ xtb ∧ Cond.code yX7_lastTime cX7_lastTime 1 (some .int) ∈ xtb := ⟨xtb_in 959 (by decide +kernel) (by decide +kernel), xtb_in 33 (by decide +kernel) (by decide +kernel), xtb_in 72 (by decide +kernel) (by decide +kernel), xtb_in 960 (by decide +kernel) (by decide +kernel)⟩
theorem mh_X7_lastTime : yX7_lastTime.cls = RX7 ∧ yX7_lastTime.cls ≠ "java/lang/invoke/MethodHandle" ∧ yX7_lastTime.cls ≠ "java/lang/invoke/VarHandle" ∧ (parseMethodDescriptor yX7_lastTime.desc).map (fun d => d.parameters.length) = some 0 := by decide +kernel
theorem mv_X7_tells : Cond.instanceMethod yX7_tells ∈ xtb ∧ Cond.selects RX7 yX7_tells yX7_tells ∈ xtb ∧ Cond.initialized RX7 ∈ xtb ∧ Cond.code yX7_tells cX7_tells 5 none ∈ xtb := ⟨xtb_in 963 (by decide +kernel) (by decide +kernel), xtb_in 34 (by decide +kernel) (by decide +kernel), xtb_in 72 (by decide +kernel) (by decide +kernel), xtb_in 964 (by decide +kernel) (by decide +kernel)⟩
theorem mh_X7_tells : yX7_tells.cls = RX7 ∧ yX7_tells.cls ≠ "java/lang/invoke/MethodHandle" ∧ yX7_tells.cls ≠ "java/lang/invoke/VarHandle" ∧ (parseMethodDescriptor yX7_tells.desc).map (fun d => d.parameters.length) = some 4 := by decide +kernel
theorem mv_X7_tell : Cond.instanceMethod yX7_tell ∈ xtb ∧ Cond.selects RX7 yX7_tell yX7_tell ∈ xtb ∧ Cond.initialized RX7 ∈ xtb ∧ Cond.code yX7_tell cX7_tell 3 (some .int) ∈ xtb := ⟨xtb_in 954 (by decide +kernel) (by decide +kernel), xtb_in 955 (by decide +kernel) (by decide +kernel), xtb_in 72 (by decide +kernel) (by decide +kernel), xtb_in 956 (by decide +kernel) (by decide +kernel)⟩
theorem mh_X7_tell : yX7_tell.cls = RX7 ∧ yX7_tell.cls ≠ "java/lang/invoke/MethodHandle" ∧ yX7_tell.cls ≠ "java/lang/invoke/VarHandle" ∧ (parseMethodDescriptor yX7_tell.desc).map (fun d => d.parameters.length) = some 1 := by decide +kernel
theorem mv_X7_read : Cond.instanceMethod yX7_read ∈ xtb ∧ Cond.selects RX7 yX7_read yX7_read ∈ xtb ∧ Cond.initialized RX7 ∈ xtb ∧ Cond.code yX7_read cX7_read 5 (some .int) ∈ xtb := ⟨xtb_in 966 (by decide +kernel) (by decide +kernel), xtb_in 967 (by decide +kernel) (by decide +kernel), xtb_in 72 (by decide +kernel) (by decide +kernel), xtb_in 968 (by decide +kernel) (by decide +kernel)⟩
theorem mh_X7_read : yX7_read.cls = RX7 ∧ yX7_read.cls ≠ "java/lang/invoke/MethodHandle" ∧ yX7_read.cls ≠ "java/lang/invoke/VarHandle" ∧ (parseMethodDescriptor yX7_read.desc).map (fun d => d.parameters.length) = some 3 := by decide +kernel
theorem mv_X7_asOf : Cond.instanceMethod yX7_asOf ∈ xtb ∧ Cond.selects RX7 yX7_asOf yX7_asOf ∈ xtb ∧ Cond.initialized RX7 ∈ xtb ∧ Cond.code yX7_asOf cX7_asOf 3 (some .int) ∈ xtb := ⟨xtb_in 977 (by decide +kernel) (by decide +kernel), xtb_in 978 (by decide +kernel) (by decide +kernel), xtb_in 72 (by decide +kernel) (by decide +kernel), xtb_in 979 (by decide +kernel) (by decide +kernel)⟩
theorem mh_X7_asOf : yX7_asOf.cls = RX7 ∧ yX7_asOf.cls ≠ "java/lang/invoke/MethodHandle" ∧ yX7_asOf.cls ≠ "java/lang/invoke/VarHandle" ∧ (parseMethodDescriptor yX7_asOf.desc).map (fun d => d.parameters.length) = some 1 := by decide +kernel
theorem mv_X7_lays : Cond.instanceMethod yX7_lays ∈ xtb ∧ Cond.selects RX7 yX7_lays yX7_lays ∈ xtb ∧ Cond.initialized RX7 ∈ xtb ∧ Cond.code yX7_lays cX7_lays 3 none ∈ xtb := ⟨xtb_in 986 (by decide +kernel) (by decide +kernel), xtb_in 36 (by decide +kernel) (by decide +kernel), xtb_in 72 (by decide +kernel) (by decide +kernel), xtb_in 987 (by decide +kernel) (by decide +kernel)⟩
theorem mh_X7_lays : yX7_lays.cls = RX7 ∧ yX7_lays.cls ≠ "java/lang/invoke/MethodHandle" ∧ yX7_lays.cls ≠ "java/lang/invoke/VarHandle" ∧ (parseMethodDescriptor yX7_lays.desc).map (fun d => d.parameters.length) = some 0 := by decide +kernel
theorem mv_X7_has : Cond.instanceMethod yX7_has ∈ xtb ∧ Cond.selects RX7 yX7_has yX7_has ∈ xtb ∧ Cond.initialized RX7 ∈ xtb ∧ Cond.code yX7_has cX7_has 2 (some .int) ∈ xtb := ⟨xtb_in 981 (by decide +kernel) (by decide +kernel), xtb_in 982 (by decide +kernel) (by decide +kernel), xtb_in 72 (by decide +kernel) (by decide +kernel), xtb_in 983 (by decide +kernel) (by decide +kernel)⟩
theorem mh_X7_has : yX7_has.cls = RX7 ∧ yX7_has.cls ≠ "java/lang/invoke/MethodHandle" ∧ yX7_has.cls ≠ "java/lang/invoke/VarHandle" ∧ (parseMethodDescriptor yX7_has.desc).map (fun d => d.parameters.length) = some 1 := by decide +kernel
theorem mv_X7_gapsOf : Cond.instanceMethod yX7_gapsOf ∈ xtb ∧ Cond.selects RX7 yX7_gapsOf yX7_gapsOf ∈ xtb ∧ Cond.initialized RX7 ∈ xtb ∧ Cond.code yX7_gapsOf cX7_gapsOf 5 (some .int) ∈ xtb := ⟨xtb_in 1001 (by decide +kernel) (by decide +kernel), xtb_in 38 (by decide +kernel) (by decide +kernel), xtb_in 72 (by decide +kernel) (by decide +kernel), xtb_in 1002 (by decide +kernel) (by decide +kernel)⟩
theorem mh_X7_gapsOf : yX7_gapsOf.cls = RX7 ∧ yX7_gapsOf.cls ≠ "java/lang/invoke/MethodHandle" ∧ yX7_gapsOf.cls ≠ "java/lang/invoke/VarHandle" ∧ (parseMethodDescriptor yX7_gapsOf.desc).map (fun d => d.parameters.length) = some 1 := by decide +kernel
theorem mv_X7_gapsNow : Cond.instanceMethod yX7_gapsNow ∈ xtb ∧ Cond.selects RX7 yX7_gapsNow yX7_gapsNow ∈ xtb ∧ Cond.initialized RX7 ∈ xtb ∧ Cond.code yX7_gapsNow cX7_gapsNow 3 (some .int) ∈ xtb := ⟨xtb_in 997 (by decide +kernel) (by decide +kernel), xtb_in 37 (by decide +kernel) (by decide +kernel), xtb_in 72 (by decide +kernel) (by decide +kernel), xtb_in 998 (by decide +kernel) (by decide +kernel)⟩
theorem mh_X7_gapsNow : yX7_gapsNow.cls = RX7 ∧ yX7_gapsNow.cls ≠ "java/lang/invoke/MethodHandle" ∧ yX7_gapsNow.cls ≠ "java/lang/invoke/VarHandle" ∧ (parseMethodDescriptor yX7_gapsNow.desc).map (fun d => d.parameters.length) = some 0 := by decide +kernel
theorem mv_X7_canBe : Cond.instanceMethod yX7_canBe ∈ xtb ∧ Cond.selects RX7 yX7_canBe yX7_canBe ∈ xtb ∧ Cond.initialized RX7 ∈ xtb ∧ Cond.code yX7_canBe cX7_canBe 6 (some .boolean) ∈ xtb := ⟨xtb_in 1005 (by decide +kernel) (by decide +kernel), xtb_in 39 (by decide +kernel) (by decide +kernel), xtb_in 72 (by decide +kernel) (by decide +kernel), xtb_in 1006 (by decide +kernel) (by decide +kernel)⟩
theorem mh_X7_canBe : yX7_canBe.cls = RX7 ∧ yX7_canBe.cls ≠ "java/lang/invoke/MethodHandle" ∧ yX7_canBe.cls ≠ "java/lang/invoke/VarHandle" ∧ (parseMethodDescriptor yX7_canBe.desc).map (fun d => d.parameters.length) = some 0 := by decide +kernel
theorem mv_X7_turns : Cond.instanceMethod yX7_turns ∈ xtb ∧ Cond.selects RX7 yX7_turns yX7_turns ∈ xtb ∧ Cond.initialized RX7 ∈ xtb ∧ Cond.code yX7_turns cX7_turns 6 (some .boolean) ∈ xtb := ⟨xtb_in 1037 (by decide +kernel) (by decide +kernel), xtb_in 45 (by decide +kernel) (by decide +kernel), xtb_in 72 (by decide +kernel) (by decide +kernel), xtb_in 1038 (by decide +kernel) (by decide +kernel)⟩
theorem mh_X7_turns : yX7_turns.cls = RX7 ∧ yX7_turns.cls ≠ "java/lang/invoke/MethodHandle" ∧ yX7_turns.cls ≠ "java/lang/invoke/VarHandle" ∧ (parseMethodDescriptor yX7_turns.desc).map (fun d => d.parameters.length) = some 0 := by decide +kernel
theorem mv_X7_plain : Cond.instanceMethod yX7_plain ∈ xtb ∧ Cond.selects RX7 yX7_plain yX7_plain ∈ xtb ∧ Cond.initialized RX7 ∈ xtb ∧ Cond.code yX7_plain cX7_plain 2 none ∈ xtb := ⟨xtb_in 1026 (by decide +kernel) (by decide +kernel), xtb_in 43 (by decide +kernel) (by decide +kernel), xtb_in 72 (by decide +kernel) (by decide +kernel), xtb_in 1027 (by decide +kernel) (by decide +kernel)⟩
theorem mh_X7_plain : yX7_plain.cls = RX7 ∧ yX7_plain.cls ≠ "java/lang/invoke/MethodHandle" ∧ yX7_plain.cls ≠ "java/lang/invoke/VarHandle" ∧ (parseMethodDescriptor yX7_plain.desc).map (fun d => d.parameters.length) = some 0 := by decide +kernel
theorem mv_X7_works : Cond.instanceMethod yX7_works ∈ xtb ∧ Cond.selects RX7 yX7_works yX7_works ∈ xtb ∧ Cond.initialized RX7 ∈ xtb ∧ Cond.code yX7_works cX7_works 2 none ∈ xtb := ⟨xtb_in 1021 (by decide +kernel) (by decide +kernel), xtb_in 42 (by decide +kernel) (by decide +kernel), xtb_in 72 (by decide +kernel) (by decide +kernel), xtb_in 1022 (by decide +kernel) (by decide +kernel)⟩
theorem mh_X7_works : yX7_works.cls = RX7 ∧ yX7_works.cls ≠ "java/lang/invoke/MethodHandle" ∧ yX7_works.cls ≠ "java/lang/invoke/VarHandle" ∧ (parseMethodDescriptor yX7_works.desc).map (fun d => d.parameters.length) = some 0 := by decide +kernel
theorem mv_X7_counts : Cond.instanceMethod yX7_counts ∈ xtb ∧ Cond.selects RX7 yX7_counts yX7_counts ∈ xtb ∧ Cond.initialized RX7 ∈ xtb ∧ Cond.code yX7_counts cX7_counts 5 none ∈ xtb := ⟨xtb_in 1030 (by decide +kernel) (by decide +kernel), xtb_in 44 (by decide +kernel) (by decide +kernel), xtb_in 72 (by decide +kernel) (by decide +kernel), xtb_in 1031 (by decide +kernel) (by decide +kernel)⟩
theorem mh_X7_counts : yX7_counts.cls = RX7 ∧ yX7_counts.cls ≠ "java/lang/invoke/MethodHandle" ∧ yX7_counts.cls ≠ "java/lang/invoke/VarHandle" ∧ (parseMethodDescriptor yX7_counts.desc).map (fun d => d.parameters.length) = some 0 := by decide +kernel
theorem mv_X7_areAny : Cond.instanceMethod yX7_areAny ∈ xtb ∧ Cond.selects RX7 yX7_areAny yX7_areAny ∈ xtb ∧ Cond.initialized RX7 ∈ xtb ∧ Cond.code yX7_areAny cX7_areAny 1 (some .boolean) ∈ xtb := ⟨xtb_in 1017 (by decide +kernel) (by decide +kernel), xtb_in 41 (by decide +kernel) (by decide +kernel), xtb_in 72 (by decide +kernel) (by decide +kernel), xtb_in 1018 (by decide +kernel) (by decide +kernel)⟩
theorem mh_X7_areAny : yX7_areAny.cls = RX7 ∧ yX7_areAny.cls ≠ "java/lang/invoke/MethodHandle" ∧ yX7_areAny.cls ≠ "java/lang/invoke/VarHandle" ∧ (parseMethodDescriptor yX7_areAny.desc).map (fun d => d.parameters.length) = some 0 := by decide +kernel
theorem mv_X7_gaps : Cond.instanceMethod yX7_gaps ∈ xtb ∧ Cond.selects RX7 yX7_gaps yX7_gaps ∈ xtb ∧ Cond.initialized RX7 ∈ xtb ∧ Cond.code yX7_gaps cX7_gaps 6 (some .int) ∈ xtb := ⟨xtb_in 989 (by decide +kernel) (by decide +kernel), xtb_in 990 (by decide +kernel) (by decide +kernel), xtb_in 72 (by decide +kernel) (by decide +kernel), xtb_in 991 (by decide +kernel) (by decide +kernel)⟩
theorem mh_X7_gaps : yX7_gaps.cls = RX7 ∧ yX7_gaps.cls ≠ "java/lang/invoke/MethodHandle" ∧ yX7_gaps.cls ≠ "java/lang/invoke/VarHandle" ∧ (parseMethodDescriptor yX7_gaps.desc).map (fun d => d.parameters.length) = some 2 := by decide +kernel
theorem mv_X7_turnedNow : Cond.instanceMethod yX7_turnedNow ∈ xtb ∧ Cond.selects RX7 yX7_turnedNow yX7_turnedNow ∈ xtb ∧ Cond.initialized RX7 ∈ xtb ∧ Cond.code yX7_turnedNow cX7_turnedNow 2 (some .int) ∈ xtb := ⟨xtb_in 1041 (by decide +kernel) (by decide +kernel), xtb_in 46 (by decide +kernel) (by decide +kernel), xtb_in 72 (by decide +kernel) (by decide +kernel), xtb_in 1042 (by decide +kernel) (by decide +kernel)⟩
theorem mh_X7_turnedNow : yX7_turnedNow.cls = RX7 ∧ yX7_turnedNow.cls ≠ "java/lang/invoke/MethodHandle" ∧ yX7_turnedNow.cls ≠ "java/lang/invoke/VarHandle" ∧ (parseMethodDescriptor yX7_turnedNow.desc).map (fun d => d.parameters.length) = some 0 := by decide +kernel
theorem mv_X7_bestNow : Cond.instanceMethod yX7_bestNow ∈ xtb ∧ Cond.selects RX7 yX7_bestNow yX7_bestNow ∈ xtb ∧ Cond.initialized RX7 ∈ xtb ∧ Cond.code yX7_bestNow cX7_bestNow 2 (some .int) ∈ xtb := ⟨xtb_in 1013 (by decide +kernel) (by decide +kernel), xtb_in 40 (by decide +kernel) (by decide +kernel), xtb_in 72 (by decide +kernel) (by decide +kernel), xtb_in 1014 (by decide +kernel) (by decide +kernel)⟩
theorem mh_X7_bestNow : yX7_bestNow.cls = RX7 ∧ yX7_bestNow.cls ≠ "java/lang/invoke/MethodHandle" ∧ yX7_bestNow.cls ≠ "java/lang/invoke/VarHandle" ∧ (parseMethodDescriptor yX7_bestNow.desc).map (fun d => d.parameters.length) = some 1 := by decide +kernel
theorem mv_X7_best : Cond.instanceMethod yX7_best ∈ xtb ∧ Cond.selects RX7 yX7_best yX7_best ∈ xtb ∧ Cond.initialized RX7 ∈ xtb ∧ Cond.code yX7_best cX7_best 2 (some .int) ∈ xtb := ⟨xtb_in 1008 (by decide +kernel) (by decide +kernel), xtb_in 1009 (by decide +kernel) (by decide +kernel), xtb_in 72 (by decide +kernel) (by decide +kernel), xtb_in 1010 (by decide +kernel) (by decide +kernel)⟩
theorem mh_X7_best : yX7_best.cls = RX7 ∧ yX7_best.cls ≠ "java/lang/invoke/MethodHandle" ∧ yX7_best.cls ≠ "java/lang/invoke/VarHandle" ∧ (parseMethodDescriptor yX7_best.desc).map (fun d => d.parameters.length) = some 1 := by decide +kernel
theorem mv_X7_firstNow : Cond.instanceMethod yX7_firstNow ∈ xtb ∧ Cond.selects RX7 yX7_firstNow yX7_firstNow ∈ xtb ∧ Cond.initialized RX7 ∈ xtb ∧ Cond.code yX7_firstNow cX7_firstNow 2 (some .int) ∈ xtb := ⟨xtb_in 1049 (by decide +kernel) (by decide +kernel), xtb_in 47 (by decide +kernel) (by decide +kernel), xtb_in 72 (by decide +kernel) (by decide +kernel), xtb_in 1050 (by decide +kernel) (by decide +kernel)⟩
theorem mh_X7_firstNow : yX7_firstNow.cls = RX7 ∧ yX7_firstNow.cls ≠ "java/lang/invoke/MethodHandle" ∧ yX7_firstNow.cls ≠ "java/lang/invoke/VarHandle" ∧ (parseMethodDescriptor yX7_firstNow.desc).map (fun d => d.parameters.length) = some 1 := by decide +kernel
theorem mv_X7_first : Cond.instanceMethod yX7_first ∈ xtb ∧ Cond.selects RX7 yX7_first yX7_first ∈ xtb ∧ Cond.initialized RX7 ∈ xtb ∧ Cond.code yX7_first cX7_first 2 (some .int) ∈ xtb := ⟨xtb_in 1044 (by decide +kernel) (by decide +kernel), xtb_in 1045 (by decide +kernel) (by decide +kernel), xtb_in 72 (by decide +kernel) (by decide +kernel), xtb_in 1046 (by decide +kernel) (by decide +kernel)⟩
theorem mh_X7_first : yX7_first.cls = RX7 ∧ yX7_first.cls ≠ "java/lang/invoke/MethodHandle" ∧ yX7_first.cls ≠ "java/lang/invoke/VarHandle" ∧ (parseMethodDescriptor yX7_first.desc).map (fun d => d.parameters.length) = some 1 := by decide +kernel
theorem mv_X7_sure : Cond.instanceMethod yX7_sure ∈ xtb ∧ Cond.selects RX7 yX7_sure yX7_sure ∈ xtb ∧ Cond.initialized RX7 ∈ xtb ∧ Cond.code yX7_sure cX7_sure 3 (some .int) ∈ xtb := ⟨xtb_in 1052 (by decide +kernel) (by decide +kernel), xtb_in 1053 (by decide +kernel) (by decide +kernel), xtb_in 72 (by decide +kernel) (by decide +kernel), xtb_in 1054 (by decide +kernel) (by decide +kernel)⟩
theorem mh_X7_sure : yX7_sure.cls = RX7 ∧ yX7_sure.cls ≠ "java/lang/invoke/MethodHandle" ∧ yX7_sure.cls ≠ "java/lang/invoke/VarHandle" ∧ (parseMethodDescriptor yX7_sure.desc).map (fun d => d.parameters.length) = some 2 := by decide +kernel
theorem mv_X7_placesNow : Cond.instanceMethod yX7_placesNow ∈ xtb ∧ Cond.selects RX7 yX7_placesNow yX7_placesNow ∈ xtb ∧ Cond.initialized RX7 ∈ xtb ∧ Cond.code yX7_placesNow cX7_placesNow 2 (some .int) ∈ xtb := ⟨xtb_in 1061 (by decide +kernel) (by decide +kernel), xtb_in 48 (by decide +kernel) (by decide +kernel), xtb_in 72 (by decide +kernel) (by decide +kernel), xtb_in 1062 (by decide +kernel) (by decide +kernel)⟩
theorem mh_X7_placesNow : yX7_placesNow.cls = RX7 ∧ yX7_placesNow.cls ≠ "java/lang/invoke/MethodHandle" ∧ yX7_placesNow.cls ≠ "java/lang/invoke/VarHandle" ∧ (parseMethodDescriptor yX7_placesNow.desc).map (fun d => d.parameters.length) = some 1 := by decide +kernel
theorem mv_X7_places : Cond.instanceMethod yX7_places ∈ xtb ∧ Cond.selects RX7 yX7_places yX7_places ∈ xtb ∧ Cond.initialized RX7 ∈ xtb ∧ Cond.code yX7_places cX7_places 2 (some .int) ∈ xtb := ⟨xtb_in 1056 (by decide +kernel) (by decide +kernel), xtb_in 1057 (by decide +kernel) (by decide +kernel), xtb_in 72 (by decide +kernel) (by decide +kernel), xtb_in 1058 (by decide +kernel) (by decide +kernel)⟩
theorem mh_X7_places : yX7_places.cls = RX7 ∧ yX7_places.cls ≠ "java/lang/invoke/MethodHandle" ∧ yX7_places.cls ≠ "java/lang/invoke/VarHandle" ∧ (parseMethodDescriptor yX7_places.desc).map (fun d => d.parameters.length) = some 1 := by decide +kernel
theorem mv_X7_spreadNow : Cond.instanceMethod yX7_spreadNow ∈ xtb ∧ Cond.selects RX7 yX7_spreadNow yX7_spreadNow ∈ xtb ∧ Cond.initialized RX7 ∈ xtb ∧ Cond.code yX7_spreadNow cX7_spreadNow 5 (some .int) ∈ xtb := ⟨xtb_in 1069 (by decide +kernel) (by decide +kernel), xtb_in 49 (by decide +kernel) (by decide +kernel), xtb_in 72 (by decide +kernel) (by decide +kernel), xtb_in 1070 (by decide +kernel) (by decide +kernel)⟩
theorem mh_X7_spreadNow : yX7_spreadNow.cls = RX7 ∧ yX7_spreadNow.cls ≠ "java/lang/invoke/MethodHandle" ∧ yX7_spreadNow.cls ≠ "java/lang/invoke/VarHandle" ∧ (parseMethodDescriptor yX7_spreadNow.desc).map (fun d => d.parameters.length) = some 2 := by decide +kernel
theorem mv_X7_spread : Cond.instanceMethod yX7_spread ∈ xtb ∧ Cond.selects RX7 yX7_spread yX7_spread ∈ xtb ∧ Cond.initialized RX7 ∈ xtb ∧ Cond.code yX7_spread cX7_spread 3 (some .int) ∈ xtb := ⟨xtb_in 1064 (by decide +kernel) (by decide +kernel), xtb_in 1065 (by decide +kernel) (by decide +kernel), xtb_in 72 (by decide +kernel) (by decide +kernel), xtb_in 1066 (by decide +kernel) (by decide +kernel)⟩
theorem mh_X7_spread : yX7_spread.cls = RX7 ∧ yX7_spread.cls ≠ "java/lang/invoke/MethodHandle" ∧ yX7_spread.cls ≠ "java/lang/invoke/VarHandle" ∧ (parseMethodDescriptor yX7_spread.desc).map (fun d => d.parameters.length) = some 2 := by decide +kernel
theorem mv_X7_meanNow : Cond.instanceMethod yX7_meanNow ∈ xtb ∧ Cond.selects RX7 yX7_meanNow yX7_meanNow ∈ xtb ∧ Cond.initialized RX7 ∈ xtb ∧ Cond.code yX7_meanNow cX7_meanNow 2 (some .long) ∈ xtb := ⟨xtb_in 1077 (by decide +kernel) (by decide +kernel), xtb_in 50 (by decide +kernel) (by decide +kernel), xtb_in 72 (by decide +kernel) (by decide +kernel), xtb_in 1078 (by decide +kernel) (by decide +kernel)⟩
theorem mh_X7_meanNow : yX7_meanNow.cls = RX7 ∧ yX7_meanNow.cls ≠ "java/lang/invoke/MethodHandle" ∧ yX7_meanNow.cls ≠ "java/lang/invoke/VarHandle" ∧ (parseMethodDescriptor yX7_meanNow.desc).map (fun d => d.parameters.length) = some 1 := by decide +kernel
theorem mv_X7_mean : Cond.instanceMethod yX7_mean ∈ xtb ∧ Cond.selects RX7 yX7_mean yX7_mean ∈ xtb ∧ Cond.initialized RX7 ∈ xtb ∧ Cond.code yX7_mean cX7_mean 2 (some .long) ∈ xtb := ⟨xtb_in 1072 (by decide +kernel) (by decide +kernel), xtb_in 1073 (by decide +kernel) (by decide +kernel), xtb_in 72 (by decide +kernel) (by decide +kernel), xtb_in 1074 (by decide +kernel) (by decide +kernel)⟩
theorem mh_X7_mean : yX7_mean.cls = RX7 ∧ yX7_mean.cls ≠ "java/lang/invoke/MethodHandle" ∧ yX7_mean.cls ≠ "java/lang/invoke/VarHandle" ∧ (parseMethodDescriptor yX7_mean.desc).map (fun d => d.parameters.length) = some 1 := by decide +kernel
theorem mv_X7_leftNow : Cond.instanceMethod yX7_leftNow ∈ xtb ∧ Cond.selects RX7 yX7_leftNow yX7_leftNow ∈ xtb ∧ Cond.initialized RX7 ∈ xtb ∧ Cond.code yX7_leftNow cX7_leftNow 1 (some .int) ∈ xtb := ⟨xtb_in 1092 (by decide +kernel) (by decide +kernel), xtb_in 51 (by decide +kernel) (by decide +kernel), xtb_in 72 (by decide +kernel) (by decide +kernel), xtb_in 1093 (by decide +kernel) (by decide +kernel)⟩
theorem mh_X7_leftNow : yX7_leftNow.cls = RX7 ∧ yX7_leftNow.cls ≠ "java/lang/invoke/MethodHandle" ∧ yX7_leftNow.cls ≠ "java/lang/invoke/VarHandle" ∧ (parseMethodDescriptor yX7_leftNow.desc).map (fun d => d.parameters.length) = some 0 := by decide +kernel
theorem mv_X7_leftOut : Cond.instanceMethod yX7_leftOut ∈ xtb ∧ Cond.selects RX7 yX7_leftOut yX7_leftOut ∈ xtb ∧ Cond.initialized RX7 ∈ xtb ∧ Cond.code yX7_leftOut cX7_leftOut 1 (some .int) ∈ xtb := ⟨xtb_in 1087 (by decide +kernel) (by decide +kernel), xtb_in 1088 (by decide +kernel) (by decide +kernel), xtb_in 72 (by decide +kernel) (by decide +kernel), xtb_in 1089 (by decide +kernel) (by decide +kernel)⟩
theorem mh_X7_leftOut : yX7_leftOut.cls = RX7 ∧ yX7_leftOut.cls ≠ "java/lang/invoke/MethodHandle" ∧ yX7_leftOut.cls ≠ "java/lang/invoke/VarHandle" ∧ (parseMethodDescriptor yX7_leftOut.desc).map (fun d => d.parameters.length) = some 0 := by decide +kernel
theorem mv_X7_mendedNow : Cond.instanceMethod yX7_mendedNow ∈ xtb ∧ Cond.selects RX7 yX7_mendedNow yX7_mendedNow ∈ xtb ∧ Cond.initialized RX7 ∈ xtb ∧ Cond.code yX7_mendedNow cX7_mendedNow 9 (some .int) ∈ xtb := ⟨xtb_in 1100 (by decide +kernel) (by decide +kernel), xtb_in 52 (by decide +kernel) (by decide +kernel), xtb_in 72 (by decide +kernel) (by decide +kernel), xtb_in 1101 (by decide +kernel) (by decide +kernel)⟩
theorem mh_X7_mendedNow : yX7_mendedNow.cls = RX7 ∧ yX7_mendedNow.cls ≠ "java/lang/invoke/MethodHandle" ∧ yX7_mendedNow.cls ≠ "java/lang/invoke/VarHandle" ∧ (parseMethodDescriptor yX7_mendedNow.desc).map (fun d => d.parameters.length) = some 1 := by decide +kernel
theorem mv_X7_mended : Cond.instanceMethod yX7_mended ∈ xtb ∧ Cond.selects RX7 yX7_mended yX7_mended ∈ xtb ∧ Cond.initialized RX7 ∈ xtb ∧ Cond.code yX7_mended cX7_mended 2 (some .int) ∈ xtb := ⟨xtb_in 1095 (by decide +kernel) (by decide +kernel), xtb_in 1096 (by decide +kernel) (by decide +kernel), xtb_in 72 (by decide +kernel) (by decide +kernel), xtb_in 1097 (by decide +kernel) (by decide +kernel)⟩
theorem mh_X7_mended : yX7_mended.cls = RX7 ∧ yX7_mended.cls ≠ "java/lang/invoke/MethodHandle" ∧ yX7_mended.cls ≠ "java/lang/invoke/VarHandle" ∧ (parseMethodDescriptor yX7_mended.desc).map (fun d => d.parameters.length) = some 1 := by decide +kernel
theorem mv_X7_straddles : Cond.instanceMethod yX7_straddles ∈ xtb ∧ Cond.selects RX7 yX7_straddles yX7_straddles ∈ xtb ∧ Cond.initialized RX7 ∈ xtb ∧ Cond.code yX7_straddles cX7_straddles 5 (some .int) ∈ xtb := ⟨xtb_in 1112 (by decide +kernel) (by decide +kernel), xtb_in 54 (by decide +kernel) (by decide +kernel), xtb_in 72 (by decide +kernel) (by decide +kernel), xtb_in 1113 (by decide +kernel) (by decide +kernel)⟩
theorem mh_X7_straddles : yX7_straddles.cls = RX7 ∧ yX7_straddles.cls ≠ "java/lang/invoke/MethodHandle" ∧ yX7_straddles.cls ≠ "java/lang/invoke/VarHandle" ∧ (parseMethodDescriptor yX7_straddles.desc).map (fun d => d.parameters.length) = some 0 := by decide +kernel
theorem mv_X7_isEarlier : Cond.instanceMethod yX7_isEarlier ∈ xtb ∧ Cond.selects RX7 yX7_isEarlier yX7_isEarlier ∈ xtb ∧ Cond.initialized RX7 ∈ xtb ∧ Cond.code yX7_isEarlier cX7_isEarlier 2 (some .boolean) ∈ xtb := ⟨xtb_in 1116 (by decide +kernel) (by decide +kernel), xtb_in 55 (by decide +kernel) (by decide +kernel), xtb_in 72 (by decide +kernel) (by decide +kernel), xtb_in 1117 (by decide +kernel) (by decide +kernel)⟩
theorem mh_X7_isEarlier : yX7_isEarlier.cls = RX7 ∧ yX7_isEarlier.cls ≠ "java/lang/invoke/MethodHandle" ∧ yX7_isEarlier.cls ≠ "java/lang/invoke/VarHandle" ∧ (parseMethodDescriptor yX7_isEarlier.desc).map (fun d => d.parameters.length) = some 0 := by decide +kernel
theorem mv_X7_phasesNow : Cond.instanceMethod yX7_phasesNow ∈ xtb ∧ Cond.selects RX7 yX7_phasesNow yX7_phasesNow ∈ xtb ∧ Cond.initialized RX7 ∈ xtb ∧ Cond.code yX7_phasesNow cX7_phasesNow 7 (some .int) ∈ xtb := ⟨xtb_in 1108 (by decide +kernel) (by decide +kernel), xtb_in 53 (by decide +kernel) (by decide +kernel), xtb_in 72 (by decide +kernel) (by decide +kernel), xtb_in 1109 (by decide +kernel) (by decide +kernel)⟩
theorem mh_X7_phasesNow : yX7_phasesNow.cls = RX7 ∧ yX7_phasesNow.cls ≠ "java/lang/invoke/MethodHandle" ∧ yX7_phasesNow.cls ≠ "java/lang/invoke/VarHandle" ∧ (parseMethodDescriptor yX7_phasesNow.desc).map (fun d => d.parameters.length) = some 2 := by decide +kernel
theorem mv_X7_phases : Cond.instanceMethod yX7_phases ∈ xtb ∧ Cond.selects RX7 yX7_phases yX7_phases ∈ xtb ∧ Cond.initialized RX7 ∈ xtb ∧ Cond.code yX7_phases cX7_phases 3 (some .int) ∈ xtb := ⟨xtb_in 1103 (by decide +kernel) (by decide +kernel), xtb_in 1104 (by decide +kernel) (by decide +kernel), xtb_in 72 (by decide +kernel) (by decide +kernel), xtb_in 1105 (by decide +kernel) (by decide +kernel)⟩
theorem mh_X7_phases : yX7_phases.cls = RX7 ∧ yX7_phases.cls ≠ "java/lang/invoke/MethodHandle" ∧ yX7_phases.cls ≠ "java/lang/invoke/VarHandle" ∧ (parseMethodDescriptor yX7_phases.desc).map (fun d => d.parameters.length) = some 2 := by decide +kernel
theorem mv_X7_yearOf : Cond.instanceMethod yX7_yearOf ∈ xtb ∧ Cond.selects RX7 yX7_yearOf yX7_yearOf ∈ xtb ∧ Cond.initialized RX7 ∈ xtb ∧ Cond.code yX7_yearOf cX7_yearOf 7 (some .int) ∈ xtb := ⟨xtb_in 1128 (by decide +kernel) (by decide +kernel), xtb_in 57 (by decide +kernel) (by decide +kernel), xtb_in 72 (by decide +kernel) (by decide +kernel), xtb_in 1129 (by decide +kernel) (by decide +kernel)⟩
theorem mh_X7_yearOf : yX7_yearOf.cls = RX7 ∧ yX7_yearOf.cls ≠ "java/lang/invoke/MethodHandle" ∧ yX7_yearOf.cls ≠ "java/lang/invoke/VarHandle" ∧ (parseMethodDescriptor yX7_yearOf.desc).map (fun d => d.parameters.length) = some 2 := by decide +kernel
theorem mv_X7_graveYear : Cond.instanceMethod yX7_graveYear ∈ xtb ∧ Cond.selects RX7 yX7_graveYear yX7_graveYear ∈ xtb ∧ Cond.initialized RX7 ∈ xtb ∧ Cond.code yX7_graveYear cX7_graveYear 3 (some .int) ∈ xtb := ⟨xtb_in 1124 (by decide +kernel) (by decide +kernel), xtb_in 56 (by decide +kernel) (by decide +kernel), xtb_in 72 (by decide +kernel) (by decide +kernel), xtb_in 1125 (by decide +kernel) (by decide +kernel)⟩
theorem mh_X7_graveYear : yX7_graveYear.cls = RX7 ∧ yX7_graveYear.cls ≠ "java/lang/invoke/MethodHandle" ∧ yX7_graveYear.cls ≠ "java/lang/invoke/VarHandle" ∧ (parseMethodDescriptor yX7_graveYear.desc).map (fun d => d.parameters.length) = some 2 := by decide +kernel
theorem mv_X7_years : Cond.instanceMethod yX7_years ∈ xtb ∧ Cond.selects RX7 yX7_years yX7_years ∈ xtb ∧ Cond.initialized RX7 ∈ xtb ∧ Cond.code yX7_years cX7_years 7 (some .int) ∈ xtb := ⟨xtb_in 1119 (by decide +kernel) (by decide +kernel), xtb_in 1120 (by decide +kernel) (by decide +kernel), xtb_in 72 (by decide +kernel) (by decide +kernel), xtb_in 1121 (by decide +kernel) (by decide +kernel)⟩
theorem mh_X7_years : yX7_years.cls = RX7 ∧ yX7_years.cls ≠ "java/lang/invoke/MethodHandle" ∧ yX7_years.cls ≠ "java/lang/invoke/VarHandle" ∧ (parseMethodDescriptor yX7_years.desc).map (fun d => d.parameters.length) = some 3 := by decide +kernel
theorem mv_X7_gapsWith : Cond.instanceMethod yX7_gapsWith ∈ xtb ∧ Cond.selects RX7 yX7_gapsWith yX7_gapsWith ∈ xtb ∧ Cond.initialized RX7 ∈ xtb ∧ Cond.code yX7_gapsWith cX7_gapsWith 9 (some .int) ∈ xtb := ⟨xtb_in 1136 (by decide +kernel) (by decide +kernel), xtb_in 58 (by decide +kernel) (by decide +kernel), xtb_in 72 (by decide +kernel) (by decide +kernel), xtb_in 1137 (by decide +kernel) (by decide +kernel)⟩
theorem mh_X7_gapsWith : yX7_gapsWith.cls = RX7 ∧ yX7_gapsWith.cls ≠ "java/lang/invoke/MethodHandle" ∧ yX7_gapsWith.cls ≠ "java/lang/invoke/VarHandle" ∧ (parseMethodDescriptor yX7_gapsWith.desc).map (fun d => d.parameters.length) = some 3 := by decide +kernel
theorem mv_X7_fresh : Cond.instanceMethod yX7_fresh ∈ xtb ∧ Cond.selects RX7 yX7_fresh yX7_fresh ∈ xtb ∧ Cond.initialized RX7 ∈ xtb ∧ Cond.code yX7_fresh cX7_fresh 8 (some .int) ∈ xtb := ⟨xtb_in 1131 (by decide +kernel) (by decide +kernel), xtb_in 1132 (by decide +kernel) (by decide +kernel), xtb_in 72 (by decide +kernel) (by decide +kernel), xtb_in 1133 (by decide +kernel) (by decide +kernel)⟩
theorem mh_X7_fresh : yX7_fresh.cls = RX7 ∧ yX7_fresh.cls ≠ "java/lang/invoke/MethodHandle" ∧ yX7_fresh.cls ≠ "java/lang/invoke/VarHandle" ∧ (parseMethodDescriptor yX7_fresh.desc).map (fun d => d.parameters.length) = some 2 := by decide +kernel
theorem mv_X7_weightOf : Cond.instanceMethod yX7_weightOf ∈ xtb ∧ Cond.selects RX7 yX7_weightOf yX7_weightOf ∈ xtb ∧ Cond.initialized RX7 ∈ xtb ∧ Cond.code yX7_weightOf cX7_weightOf 4 (some .int) ∈ xtb := ⟨xtb_in 1144 (by decide +kernel) (by decide +kernel), xtb_in 59 (by decide +kernel) (by decide +kernel), xtb_in 72 (by decide +kernel) (by decide +kernel), xtb_in 1145 (by decide +kernel) (by decide +kernel)⟩
theorem mh_X7_weightOf : yX7_weightOf.cls = RX7 ∧ yX7_weightOf.cls ≠ "java/lang/invoke/MethodHandle" ∧ yX7_weightOf.cls ≠ "java/lang/invoke/VarHandle" ∧ (parseMethodDescriptor yX7_weightOf.desc).map (fun d => d.parameters.length) = some 1 := by decide +kernel
theorem mv_X7_alike : Cond.instanceMethod yX7_alike ∈ xtb ∧ Cond.selects RX7 yX7_alike yX7_alike ∈ xtb ∧ Cond.initialized RX7 ∈ xtb ∧ Cond.code yX7_alike cX7_alike 5 (some .long) ∈ xtb := ⟨xtb_in 1139 (by decide +kernel) (by decide +kernel), xtb_in 1140 (by decide +kernel) (by decide +kernel), xtb_in 72 (by decide +kernel) (by decide +kernel), xtb_in 1141 (by decide +kernel) (by decide +kernel)⟩
theorem mh_X7_alike : yX7_alike.cls = RX7 ∧ yX7_alike.cls ≠ "java/lang/invoke/MethodHandle" ∧ yX7_alike.cls ≠ "java/lang/invoke/VarHandle" ∧ (parseMethodDescriptor yX7_alike.desc).map (fun d => d.parameters.length) = some 3 := by decide +kernel
theorem mv_X7_nearestNow : Cond.instanceMethod yX7_nearestNow ∈ xtb ∧ Cond.selects RX7 yX7_nearestNow yX7_nearestNow ∈ xtb ∧ Cond.initialized RX7 ∈ xtb ∧ Cond.code yX7_nearestNow cX7_nearestNow 8 (some .int) ∈ xtb := ⟨xtb_in 1152 (by decide +kernel) (by decide +kernel), xtb_in 60 (by decide +kernel) (by decide +kernel), xtb_in 72 (by decide +kernel) (by decide +kernel), xtb_in 1153 (by decide +kernel) (by decide +kernel)⟩
theorem mh_X7_nearestNow : yX7_nearestNow.cls = RX7 ∧ yX7_nearestNow.cls ≠ "java/lang/invoke/MethodHandle" ∧ yX7_nearestNow.cls ≠ "java/lang/invoke/VarHandle" ∧ (parseMethodDescriptor yX7_nearestNow.desc).map (fun d => d.parameters.length) = some 1 := by decide +kernel
theorem mv_X7_nearest : Cond.instanceMethod yX7_nearest ∈ xtb ∧ Cond.selects RX7 yX7_nearest yX7_nearest ∈ xtb ∧ Cond.initialized RX7 ∈ xtb ∧ Cond.code yX7_nearest cX7_nearest 2 (some .int) ∈ xtb := ⟨xtb_in 1147 (by decide +kernel) (by decide +kernel), xtb_in 1148 (by decide +kernel) (by decide +kernel), xtb_in 72 (by decide +kernel) (by decide +kernel), xtb_in 1149 (by decide +kernel) (by decide +kernel)⟩
theorem mh_X7_nearest : yX7_nearest.cls = RX7 ∧ yX7_nearest.cls ≠ "java/lang/invoke/MethodHandle" ∧ yX7_nearest.cls ≠ "java/lang/invoke/VarHandle" ∧ (parseMethodDescriptor yX7_nearest.desc).map (fun d => d.parameters.length) = some 1 := by decide +kernel
theorem mv_X7_meets : Cond.instanceMethod yX7_meets ∈ xtb ∧ Cond.selects RX7 yX7_meets yX7_meets ∈ xtb ∧ Cond.initialized RX7 ∈ xtb ∧ Cond.code yX7_meets cX7_meets 2 (some .int) ∈ xtb := ⟨xtb_in 974 (by decide +kernel) (by decide +kernel), xtb_in 35 (by decide +kernel) (by decide +kernel), xtb_in 72 (by decide +kernel) (by decide +kernel), xtb_in 975 (by decide +kernel) (by decide +kernel)⟩
theorem mh_X7_meets : yX7_meets.cls = RX7 ∧ yX7_meets.cls ≠ "java/lang/invoke/MethodHandle" ∧ yX7_meets.cls ≠ "java/lang/invoke/VarHandle" ∧ (parseMethodDescriptor yX7_meets.desc).map (fun d => d.parameters.length) = some 1 := by decide +kernel
theorem ms_X7_isSheet : Cond.static yX7_isSheet ∈ xtb ∧ Cond.initialized yX7_isSheet.cls ∈ xtb ∧ Cond.code yX7_isSheet cX7_isSheet 1 (some .boolean) ∈ xtb := ⟨xtb_in 970 (by decide +kernel) (by decide +kernel), xtb_in 72 (by decide +kernel) (by decide +kernel), xtb_in 971 (by decide +kernel) (by decide +kernel)⟩
theorem mh_X7_isSheet : yX7_isSheet.cls ≠ "java/lang/invoke/MethodHandle" ∧ yX7_isSheet.cls ≠ "java/lang/invoke/VarHandle" ∧ (parseMethodDescriptor yX7_isSheet.desc).map (fun d => d.parameters.length) = some 1 := by decide +kernel
theorem mv_X7_sheet : Cond.instanceMethod yX7_sheet ∈ xtb ∧ Cond.selects RX7 yX7_sheet yX7_sheet ∈ xtb ∧ Cond.initialized RX7 ∈ xtb ∧ Cond.code yX7_sheet cX7_sheet 5 (some .int) ∈ xtb := ⟨xtb_in 1155 (by decide +kernel) (by decide +kernel), xtb_in 1156 (by decide +kernel) (by decide +kernel), xtb_in 72 (by decide +kernel) (by decide +kernel), xtb_in 1157 (by decide +kernel) (by decide +kernel)⟩
theorem mh_X7_sheet : yX7_sheet.cls = RX7 ∧ yX7_sheet.cls ≠ "java/lang/invoke/MethodHandle" ∧ yX7_sheet.cls ≠ "java/lang/invoke/VarHandle" ∧ (parseMethodDescriptor yX7_sheet.desc).map (fun d => d.parameters.length) = some 3 := by decide +kernel
theorem mv_X7_lose : Cond.instanceMethod yX7_lose ∈ xtb ∧ Cond.selects RX7 yX7_lose yX7_lose ∈ xtb ∧ Cond.initialized RX7 ∈ xtb ∧ Cond.code yX7_lose cX7_lose 2 (some .int) ∈ xtb := ⟨xtb_in 1159 (by decide +kernel) (by decide +kernel), xtb_in 1160 (by decide +kernel) (by decide +kernel), xtb_in 72 (by decide +kernel) (by decide +kernel), xtb_in 1161 (by decide +kernel) (by decide +kernel)⟩
theorem mh_X7_lose : yX7_lose.cls = RX7 ∧ yX7_lose.cls ≠ "java/lang/invoke/MethodHandle" ∧ yX7_lose.cls ≠ "java/lang/invoke/VarHandle" ∧ (parseMethodDescriptor yX7_lose.desc).map (fun d => d.parameters.length) = some 1 := by decide +kernel
theorem mv_X7_lacks : Cond.instanceMethod yX7_lacks ∈ xtb ∧ Cond.selects RX7 yX7_lacks yX7_lacks ∈ xtb ∧ Cond.initialized RX7 ∈ xtb ∧ Cond.code yX7_lacks cX7_lacks 4 (some .int) ∈ xtb := ⟨xtb_in 1168 (by decide +kernel) (by decide +kernel), xtb_in 61 (by decide +kernel) (by decide +kernel), xtb_in 72 (by decide +kernel) (by decide +kernel), xtb_in 1169 (by decide +kernel) (by decide +kernel)⟩
theorem mh_X7_lacks : yX7_lacks.cls = RX7 ∧ yX7_lacks.cls ≠ "java/lang/invoke/MethodHandle" ∧ yX7_lacks.cls ≠ "java/lang/invoke/VarHandle" ∧ (parseMethodDescriptor yX7_lacks.desc).map (fun d => d.parameters.length) = some 3 := by decide +kernel
theorem mv_X7_keep : Cond.instanceMethod yX7_keep ∈ xtb ∧ Cond.selects RX7 yX7_keep yX7_keep ∈ xtb ∧ Cond.initialized RX7 ∈ xtb ∧ Cond.code yX7_keep cX7_keep 4 none ∈ xtb := ⟨xtb_in 1172 (by decide +kernel) (by decide +kernel), xtb_in 62 (by decide +kernel) (by decide +kernel), xtb_in 72 (by decide +kernel) (by decide +kernel), xtb_in 1173 (by decide +kernel) (by decide +kernel)⟩
theorem mh_X7_keep : yX7_keep.cls = RX7 ∧ yX7_keep.cls ≠ "java/lang/invoke/MethodHandle" ∧ yX7_keep.cls ≠ "java/lang/invoke/VarHandle" ∧ (parseMethodDescriptor yX7_keep.desc).map (fun d => d.parameters.length) = some 3 := by decide +kernel
theorem mv_X7_put : Cond.instanceMethod yX7_put ∈ xtb ∧ Cond.selects RX7 yX7_put yX7_put ∈ xtb ∧ Cond.initialized RX7 ∈ xtb ∧ Cond.code yX7_put cX7_put 6 (some .int) ∈ xtb := ⟨xtb_in 1163 (by decide +kernel) (by decide +kernel), xtb_in 1164 (by decide +kernel) (by decide +kernel), xtb_in 72 (by decide +kernel) (by decide +kernel), xtb_in 1165 (by decide +kernel) (by decide +kernel)⟩
theorem mh_X7_put : yX7_put.cls = RX7 ∧ yX7_put.cls ≠ "java/lang/invoke/MethodHandle" ∧ yX7_put.cls ≠ "java/lang/invoke/VarHandle" ∧ (parseMethodDescriptor yX7_put.desc).map (fun d => d.parameters.length) = some 4 := by decide +kernel
theorem mv_X7_get : Cond.instanceMethod yX7_get ∈ xtb ∧ Cond.selects RX7 yX7_get yX7_get ∈ xtb ∧ Cond.initialized RX7 ∈ xtb ∧ Cond.code yX7_get cX7_get 5 (some .int) ∈ xtb := ⟨xtb_in 1175 (by decide +kernel) (by decide +kernel), xtb_in 1176 (by decide +kernel) (by decide +kernel), xtb_in 72 (by decide +kernel) (by decide +kernel), xtb_in 1177 (by decide +kernel) (by decide +kernel)⟩
theorem mh_X7_get : yX7_get.cls = RX7 ∧ yX7_get.cls ≠ "java/lang/invoke/MethodHandle" ∧ yX7_get.cls ≠ "java/lang/invoke/VarHandle" ∧ (parseMethodDescriptor yX7_get.desc).map (fun d => d.parameters.length) = some 3 := by decide +kernel
theorem mv_X7_copy : Cond.instanceMethod yX7_copy ∈ xtb ∧ Cond.selects RX7 yX7_copy yX7_copy ∈ xtb ∧ Cond.initialized RX7 ∈ xtb ∧ Cond.code yX7_copy cX7_copy 7 (some .int) ∈ xtb := ⟨xtb_in 1180 (by decide +kernel) (by decide +kernel), xtb_in 1181 (by decide +kernel) (by decide +kernel), xtb_in 72 (by decide +kernel) (by decide +kernel), xtb_in 1182 (by decide +kernel) (by decide +kernel)⟩
theorem mh_X7_copy : yX7_copy.cls = RX7 ∧ yX7_copy.cls ≠ "java/lang/invoke/MethodHandle" ∧ yX7_copy.cls ≠ "java/lang/invoke/VarHandle" ∧ (parseMethodDescriptor yX7_copy.desc).map (fun d => d.parameters.length) = some 5 := by decide +kernel
theorem mv_X7_write : Cond.instanceMethod yX7_write ∈ xtb ∧ Cond.selects RX7 yX7_write yX7_write ∈ xtb ∧ Cond.initialized RX7 ∈ xtb ∧ Cond.code yX7_write cX7_write 3 (some .int) ∈ xtb := ⟨xtb_in 1184 (by decide +kernel) (by decide +kernel), xtb_in 1185 (by decide +kernel) (by decide +kernel), xtb_in 72 (by decide +kernel) (by decide +kernel), xtb_in 1186 (by decide +kernel) (by decide +kernel)⟩
theorem mh_X7_write : yX7_write.cls = RX7 ∧ yX7_write.cls ≠ "java/lang/invoke/MethodHandle" ∧ yX7_write.cls ≠ "java/lang/invoke/VarHandle" ∧ (parseMethodDescriptor yX7_write.desc).map (fun d => d.parameters.length) = some 1 := by decide +kernel
theorem mv_X7_countNow : Cond.instanceMethod yX7_countNow ∈ xtb ∧ Cond.selects RX7 yX7_countNow yX7_countNow ∈ xtb ∧ Cond.initialized RX7 ∈ xtb ∧ Cond.code yX7_countNow cX7_countNow 5 (some .int) ∈ xtb := ⟨xtb_in 1193 (by decide +kernel) (by decide +kernel), xtb_in 63 (by decide +kernel) (by decide +kernel), xtb_in 72 (by decide +kernel) (by decide +kernel), xtb_in 1194 (by decide +kernel) (by decide +kernel)⟩
theorem mh_X7_countNow : yX7_countNow.cls = RX7 ∧ yX7_countNow.cls ≠ "java/lang/invoke/MethodHandle" ∧ yX7_countNow.cls ≠ "java/lang/invoke/VarHandle" ∧ (parseMethodDescriptor yX7_countNow.desc).map (fun d => d.parameters.length) = some 1 := by decide +kernel
theorem mv_X7_count : Cond.instanceMethod yX7_count ∈ xtb ∧ Cond.selects RX7 yX7_count yX7_count ∈ xtb ∧ Cond.initialized RX7 ∈ xtb ∧ Cond.code yX7_count cX7_count 2 (some .int) ∈ xtb := ⟨xtb_in 1188 (by decide +kernel) (by decide +kernel), xtb_in 1189 (by decide +kernel) (by decide +kernel), xtb_in 72 (by decide +kernel) (by decide +kernel), xtb_in 1190 (by decide +kernel) (by decide +kernel)⟩
theorem mh_X7_count : yX7_count.cls = RX7 ∧ yX7_count.cls ≠ "java/lang/invoke/MethodHandle" ∧ yX7_count.cls ≠ "java/lang/invoke/VarHandle" ∧ (parseMethodDescriptor yX7_count.desc).map (fun d => d.parameters.length) = some 1 := by decide +kernel
theorem mv_X7_digest : Cond.instanceMethod yX7_digest ∈ xtb ∧ Cond.selects RX7 yX7_digest yX7_digest ∈ xtb ∧ Cond.initialized RX7 ∈ xtb ∧ Cond.code yX7_digest cX7_digest 4 (some .long) ∈ xtb := ⟨xtb_in 1196 (by decide +kernel) (by decide +kernel), xtb_in 1197 (by decide +kernel) (by decide +kernel), xtb_in 72 (by decide +kernel) (by decide +kernel), xtb_in 1198 (by decide +kernel) (by decide +kernel)⟩
theorem mh_X7_digest : yX7_digest.cls = RX7 ∧ yX7_digest.cls ≠ "java/lang/invoke/MethodHandle" ∧ yX7_digest.cls ≠ "java/lang/invoke/VarHandle" ∧ (parseMethodDescriptor yX7_digest.desc).map (fun d => d.parameters.length) = some 0 := by decide +kernel
theorem ms_J6_numberOfTrailingZeros_0f7a4 : Cond.static yJ6_numberOfTrailingZeros_0f7a4 ∈ xtb ∧ Cond.initialized yJ6_numberOfTrailingZeros_0f7a4.cls ∈ xtb ∧ Cond.code yJ6_numberOfTrailingZeros_0f7a4 cJ6_numberOfTrailingZeros_0f7a4 2 (some .int) ∈ xtb := ⟨xtb_in 466 (by decide +kernel) (by decide +kernel), xtb_in 73 (by decide +kernel) (by decide +kernel), xtb_in 467 (by decide +kernel) (by decide +kernel)⟩
theorem mh_J6_numberOfTrailingZeros_0f7a4 : yJ6_numberOfTrailingZeros_0f7a4.cls ≠ "java/lang/invoke/MethodHandle" ∧ yJ6_numberOfTrailingZeros_0f7a4.cls ≠ "java/lang/invoke/VarHandle" ∧ (parseMethodDescriptor yJ6_numberOfTrailingZeros_0f7a4.desc).map (fun d => d.parameters.length) = some 1 := by decide +kernel
theorem ms_J6_bitCount_0f7a4 : Cond.static yJ6_bitCount_0f7a4 ∈ xtb ∧ Cond.initialized yJ6_bitCount_0f7a4.cls ∈ xtb ∧ Cond.code yJ6_bitCount_0f7a4 cJ6_bitCount_0f7a4 1 (some .int) ∈ xtb := ⟨xtb_in 338 (by decide +kernel) (by decide +kernel), xtb_in 73 (by decide +kernel) (by decide +kernel), xtb_in 339 (by decide +kernel) (by decide +kernel)⟩
theorem mh_J6_bitCount_0f7a4 : yJ6_bitCount_0f7a4.cls ≠ "java/lang/invoke/MethodHandle" ∧ yJ6_bitCount_0f7a4.cls ≠ "java/lang/invoke/VarHandle" ∧ (parseMethodDescriptor yJ6_bitCount_0f7a4.desc).map (fun d => d.parameters.length) = some 1 := by decide +kernel
end
