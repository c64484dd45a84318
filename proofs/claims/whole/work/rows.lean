section
-- ===== PART A: goes FIRST, ahead of the names: the tables' words, and 'selects' of the private methods out of them =====
/-- a private method of a class that the tables say can be made, by its rows of tables_1 -/
def lw_okq (q : MethodName × Nat) : Prop := (q.1.cls ≠ "java/lang/invoke/MethodHandle" ∧ q.1.cls ≠ "java/lang/invoke/VarHandle") ∧ Cond.instantiable q.1.cls q.2 ∈ tables_1 ∧ Cond.privateMethod q.1 ∈ tables_1 ∧ Cond.instanceMethod q.1 ∈ tables_1
theorem lw_p0 : lw_okq (⟨"GraveOrder", "isGrave", "(I)Z"⟩, 8) := ⟨⟨by decide +kernel, by decide +kernel⟩, List.mem_of_getElem? (i := 13) (by decide +kernel), List.mem_of_getElem? (i := 255) (by decide +kernel), List.mem_of_getElem? (i := 256) (by decide +kernel)⟩
theorem lw_p1 : lw_okq (⟨"GraveOrder", "isPair", "(II)Z"⟩, 8) := ⟨⟨by decide +kernel, by decide +kernel⟩, List.mem_of_getElem? (i := 13) (by decide +kernel), List.mem_of_getElem? (i := 284) (by decide +kernel), List.mem_of_getElem? (i := 285) (by decide +kernel)⟩
theorem lw_p2 : lw_okq (⟨"GraveOrder", "canTellAt", "(I)Z"⟩, 8) := ⟨⟨by decide +kernel, by decide +kernel⟩, List.mem_of_getElem? (i := 13) (by decide +kernel), List.mem_of_getElem? (i := 311) (by decide +kernel), List.mem_of_getElem? (i := 312) (by decide +kernel)⟩
theorem lw_p3 : lw_okq (⟨"GraveOrder", "tellLine", "(I)I"⟩, 8) := ⟨⟨by decide +kernel, by decide +kernel⟩, List.mem_of_getElem? (i := 13) (by decide +kernel), List.mem_of_getElem? (i := 319) (by decide +kernel), List.mem_of_getElem? (i := 320) (by decide +kernel)⟩
theorem lw_p4 : lw_okq (⟨"GraveOrder", "findsChanged", "()V"⟩, 8) := ⟨⟨by decide +kernel, by decide +kernel⟩, List.mem_of_getElem? (i := 13) (by decide +kernel), List.mem_of_getElem? (i := 328) (by decide +kernel), List.mem_of_getElem? (i := 329) (by decide +kernel)⟩
theorem lw_p5 : lw_okq (⟨"GraveOrder", "finding", "(I)I"⟩, 8) := ⟨⟨by decide +kernel, by decide +kernel⟩, List.mem_of_getElem? (i := 13) (by decide +kernel), List.mem_of_getElem? (i := 343) (by decide +kernel), List.mem_of_getElem? (i := 344) (by decide +kernel)⟩
theorem lw_p6 : lw_okq (⟨"GraveOrder", "tellSheet", "(LGraveOrder$Sheet;II)I"⟩, 8) := ⟨⟨by decide +kernel, by decide +kernel⟩, List.mem_of_getElem? (i := 13) (by decide +kernel), List.mem_of_getElem? (i := 347) (by decide +kernel), List.mem_of_getElem? (i := 348) (by decide +kernel)⟩
theorem lw_p7 : lw_okq (⟨"GraveOrder$FirstRow", "gapsAsLaid", "(II)I"⟩, 4) := ⟨⟨by decide +kernel, by decide +kernel⟩, List.mem_of_getElem? (i := 172) (by decide +kernel), List.mem_of_getElem? (i := 371) (by decide +kernel), List.mem_of_getElem? (i := 372) (by decide +kernel)⟩
theorem lw_p8 : lw_okq (⟨"GraveOrder$Orders", "fillSets", "()V"⟩, 16) := ⟨⟨by decide +kernel, by decide +kernel⟩, List.mem_of_getElem? (i := 113) (by decide +kernel), List.mem_of_getElem? (i := 394) (by decide +kernel), List.mem_of_getElem? (i := 395) (by decide +kernel)⟩
theorem lw_p9 : lw_okq (⟨"GraveOrder$Orders", "allGraves", "()I"⟩, 16) := ⟨⟨by decide +kernel, by decide +kernel⟩, List.mem_of_getElem? (i := 113) (by decide +kernel), List.mem_of_getElem? (i := 398) (by decide +kernel), List.mem_of_getElem? (i := 399) (by decide +kernel)⟩
theorem lw_p10 : lw_okq (⟨"GraveOrder$Orders", "fillSteps", "()V"⟩, 16) := ⟨⟨by decide +kernel, by decide +kernel⟩, List.mem_of_getElem? (i := 113) (by decide +kernel), List.mem_of_getElem? (i := 407) (by decide +kernel), List.mem_of_getElem? (i := 408) (by decide +kernel)⟩
theorem lw_p11 : lw_okq (⟨"GraveOrder$Orders", "canFollow", "(II)Z"⟩, 16) := ⟨⟨by decide +kernel, by decide +kernel⟩, List.mem_of_getElem? (i := 113) (by decide +kernel), List.mem_of_getElem? (i := 411) (by decide +kernel), List.mem_of_getElem? (i := 412) (by decide +kernel)⟩
theorem lw_p12 : lw_okq (⟨"GraveOrder$Orders", "gapsAt", "(II)I"⟩, 16) := ⟨⟨by decide +kernel, by decide +kernel⟩, List.mem_of_getElem? (i := 113) (by decide +kernel), List.mem_of_getElem? (i := 415) (by decide +kernel), List.mem_of_getElem? (i := 416) (by decide +kernel)⟩
theorem lw_p13 : lw_okq (⟨"GraveOrder$Orders", "fillAhead", "()V"⟩, 16) := ⟨⟨by decide +kernel, by decide +kernel⟩, List.mem_of_getElem? (i := 113) (by decide +kernel), List.mem_of_getElem? (i := 419) (by decide +kernel), List.mem_of_getElem? (i := 420) (by decide +kernel)⟩
theorem lw_p14 : lw_okq (⟨"GraveOrder$Orders", "fillBehind", "()V"⟩, 16) := ⟨⟨by decide +kernel, by decide +kernel⟩, List.mem_of_getElem? (i := 113) (by decide +kernel), List.mem_of_getElem? (i := 428) (by decide +kernel), List.mem_of_getElem? (i := 429) (by decide +kernel)⟩
theorem lw_p15 : lw_okq (⟨"GraveOrder$Orders", "tryNext", "(II)V"⟩, 16) := ⟨⟨by decide +kernel, by decide +kernel⟩, List.mem_of_getElem? (i := 113) (by decide +kernel), List.mem_of_getElem? (i := 432) (by decide +kernel), List.mem_of_getElem? (i := 433) (by decide +kernel)⟩
def lw_privs_1 : List (MethodName × Nat) := [(⟨"GraveOrder", "isGrave", "(I)Z"⟩, 8), (⟨"GraveOrder", "isPair", "(II)Z"⟩, 8), (⟨"GraveOrder", "canTellAt", "(I)Z"⟩, 8), (⟨"GraveOrder", "tellLine", "(I)I"⟩, 8), (⟨"GraveOrder", "findsChanged", "()V"⟩, 8), (⟨"GraveOrder", "finding", "(I)I"⟩, 8), (⟨"GraveOrder", "tellSheet", "(LGraveOrder$Sheet;II)I"⟩, 8), (⟨"GraveOrder$FirstRow", "gapsAsLaid", "(II)I"⟩, 4), (⟨"GraveOrder$Orders", "fillSets", "()V"⟩, 16), (⟨"GraveOrder$Orders", "allGraves", "()I"⟩, 16), (⟨"GraveOrder$Orders", "fillSteps", "()V"⟩, 16), (⟨"GraveOrder$Orders", "canFollow", "(II)Z"⟩, 16), (⟨"GraveOrder$Orders", "gapsAt", "(II)I"⟩, 16), (⟨"GraveOrder$Orders", "fillAhead", "()V"⟩, 16), (⟨"GraveOrder$Orders", "fillBehind", "()V"⟩, 16), (⟨"GraveOrder$Orders", "tryNext", "(II)V"⟩, 16)]
theorem lw_r1 : ∀ q ∈ lw_privs_1, lw_okq q := List.forall_mem_cons.mpr ⟨lw_p0, List.forall_mem_cons.mpr ⟨lw_p1, List.forall_mem_cons.mpr ⟨lw_p2, List.forall_mem_cons.mpr ⟨lw_p3, List.forall_mem_cons.mpr ⟨lw_p4, List.forall_mem_cons.mpr ⟨lw_p5, List.forall_mem_cons.mpr ⟨lw_p6, List.forall_mem_cons.mpr ⟨lw_p7, List.forall_mem_cons.mpr ⟨lw_p8, List.forall_mem_cons.mpr ⟨lw_p9, List.forall_mem_cons.mpr ⟨lw_p10, List.forall_mem_cons.mpr ⟨lw_p11, List.forall_mem_cons.mpr ⟨lw_p12, List.forall_mem_cons.mpr ⟨lw_p13, List.forall_mem_cons.mpr ⟨lw_p14, List.forall_mem_cons.mpr ⟨lw_p15, fun _ h => absurd h List.not_mem_nil⟩⟩⟩⟩⟩⟩⟩⟩⟩⟩⟩⟩⟩⟩⟩⟩
theorem lw_p16 : lw_okq (⟨"GraveOrder$Orders", "fillRow", "()V"⟩, 16) := ⟨⟨by decide +kernel, by decide +kernel⟩, List.mem_of_getElem? (i := 113) (by decide +kernel), List.mem_of_getElem? (i := 436) (by decide +kernel), List.mem_of_getElem? (i := 437) (by decide +kernel)⟩
theorem lw_p17 : lw_okq (⟨"GraveOrder$Orders", "leastNext", "(I)I"⟩, 16) := ⟨⟨by decide +kernel, by decide +kernel⟩, List.mem_of_getElem? (i := 113) (by decide +kernel), List.mem_of_getElem? (i := 440) (by decide +kernel), List.mem_of_getElem? (i := 441) (by decide +kernel)⟩
theorem lw_p18 : lw_okq (⟨"GraveOrder$Orders", "joinHalves", "(II)V"⟩, 16) := ⟨⟨by decide +kernel, by decide +kernel⟩, List.mem_of_getElem? (i := 113) (by decide +kernel), List.mem_of_getElem? (i := 481) (by decide +kernel), List.mem_of_getElem? (i := 482) (by decide +kernel)⟩
theorem lw_p19 : lw_okq (⟨"GraveOrder$Orders", "searchLeftOut", "()I"⟩, 16) := ⟨⟨by decide +kernel, by decide +kernel⟩, List.mem_of_getElem? (i := 113) (by decide +kernel), List.mem_of_getElem? (i := 520) (by decide +kernel), List.mem_of_getElem? (i := 521) (by decide +kernel)⟩
theorem lw_p20 : lw_okq (⟨"GraveOrder$Orders", "kindsWithGaps", "()I"⟩, 16) := ⟨⟨by decide +kernel, by decide +kernel⟩, List.mem_of_getElem? (i := 113) (by decide +kernel), List.mem_of_getElem? (i := 524) (by decide +kernel), List.mem_of_getElem? (i := 525) (by decide +kernel)⟩
theorem lw_p21 : lw_okq (⟨"GraveOrder$Orders", "reachesAllWithout", "(I)Z"⟩, 16) := ⟨⟨by decide +kernel, by decide +kernel⟩, List.mem_of_getElem? (i := 113) (by decide +kernel), List.mem_of_getElem? (i := 528) (by decide +kernel), List.mem_of_getElem? (i := 529) (by decide +kernel)⟩
theorem lw_p22 : lw_okq (⟨"GraveOrder$FirstRow", "hasAt", "(II)Z"⟩, 4) := ⟨⟨by decide +kernel, by decide +kernel⟩, List.mem_of_getElem? (i := 172) (by decide +kernel), List.mem_of_getElem? (i := 540) (by decide +kernel), List.mem_of_getElem? (i := 541) (by decide +kernel)⟩
theorem lw_p23 : lw_okq (⟨"GraveOrder$FirstRow", "mendingFrom", "(III)I"⟩, 4) := ⟨⟨by decide +kernel, by decide +kernel⟩, List.mem_of_getElem? (i := 172) (by decide +kernel), List.mem_of_getElem? (i := 544) (by decide +kernel), List.mem_of_getElem? (i := 545) (by decide +kernel)⟩
theorem lw_p24 : lw_okq (⟨"GraveOrder$FirstRow", "robbedAt", "(I)Z"⟩, 4) := ⟨⟨by decide +kernel, by decide +kernel⟩, List.mem_of_getElem? (i := 172) (by decide +kernel), List.mem_of_getElem? (i := 549) (by decide +kernel), List.mem_of_getElem? (i := 550) (by decide +kernel)⟩
theorem lw_p25 : lw_okq (⟨"GraveOrder$FirstRow", "isCutAhead", "(II)Z"⟩, 4) := ⟨⟨by decide +kernel, by decide +kernel⟩, List.mem_of_getElem? (i := 172) (by decide +kernel), List.mem_of_getElem? (i := 568) (by decide +kernel), List.mem_of_getElem? (i := 569) (by decide +kernel)⟩
theorem lw_p26 : lw_okq (⟨"GraveOrder$FirstRow", "placeOf", "(I)I"⟩, 4) := ⟨⟨by decide +kernel, by decide +kernel⟩, List.mem_of_getElem? (i := 172) (by decide +kernel), List.mem_of_getElem? (i := 581) (by decide +kernel), List.mem_of_getElem? (i := 582) (by decide +kernel)⟩
theorem lw_p27 : lw_okq (⟨"GraveOrder$FirstRow", "gapsWith", "(II)I"⟩, 4) := ⟨⟨by decide +kernel, by decide +kernel⟩, List.mem_of_getElem? (i := 172) (by decide +kernel), List.mem_of_getElem? (i := 607) (by decide +kernel), List.mem_of_getElem? (i := 608) (by decide +kernel)⟩
theorem lw_p28 : lw_okq (⟨"GraveOrder", "digestOfGraves", "(J)J"⟩, 8) := ⟨⟨by decide +kernel, by decide +kernel⟩, List.mem_of_getElem? (i := 13) (by decide +kernel), List.mem_of_getElem? (i := 698) (by decide +kernel), List.mem_of_getElem? (i := 699) (by decide +kernel)⟩
theorem lw_p29 : lw_okq (⟨"GraveOrder", "digestOfOrders", "(J)J"⟩, 8) := ⟨⟨by decide +kernel, by decide +kernel⟩, List.mem_of_getElem? (i := 13) (by decide +kernel), List.mem_of_getElem? (i := 707) (by decide +kernel), List.mem_of_getElem? (i := 708) (by decide +kernel)⟩
theorem lw_p30 : lw_okq (⟨"GraveOrderModel", "isGrave", "(I)Z"⟩, 40) := ⟨⟨by decide +kernel, by decide +kernel⟩, List.mem_of_getElem? (i := 717) (by decide +kernel), List.mem_of_getElem? (i := 855) (by decide +kernel), List.mem_of_getElem? (i := 856) (by decide +kernel)⟩
theorem lw_p31 : lw_okq (⟨"GraveOrderModel", "faultNow", "()I"⟩, 40) := ⟨⟨by decide +kernel, by decide +kernel⟩, List.mem_of_getElem? (i := 717) (by decide +kernel), List.mem_of_getElem? (i := 882) (by decide +kernel), List.mem_of_getElem? (i := 883) (by decide +kernel)⟩
def lw_privs_2 : List (MethodName × Nat) := [(⟨"GraveOrder$Orders", "fillRow", "()V"⟩, 16), (⟨"GraveOrder$Orders", "leastNext", "(I)I"⟩, 16), (⟨"GraveOrder$Orders", "joinHalves", "(II)V"⟩, 16), (⟨"GraveOrder$Orders", "searchLeftOut", "()I"⟩, 16), (⟨"GraveOrder$Orders", "kindsWithGaps", "()I"⟩, 16), (⟨"GraveOrder$Orders", "reachesAllWithout", "(I)Z"⟩, 16), (⟨"GraveOrder$FirstRow", "hasAt", "(II)Z"⟩, 4), (⟨"GraveOrder$FirstRow", "mendingFrom", "(III)I"⟩, 4), (⟨"GraveOrder$FirstRow", "robbedAt", "(I)Z"⟩, 4), (⟨"GraveOrder$FirstRow", "isCutAhead", "(II)Z"⟩, 4), (⟨"GraveOrder$FirstRow", "placeOf", "(I)I"⟩, 4), (⟨"GraveOrder$FirstRow", "gapsWith", "(II)I"⟩, 4), (⟨"GraveOrder", "digestOfGraves", "(J)J"⟩, 8), (⟨"GraveOrder", "digestOfOrders", "(J)J"⟩, 8), (⟨"GraveOrderModel", "isGrave", "(I)Z"⟩, 40), (⟨"GraveOrderModel", "faultNow", "()I"⟩, 40)]
theorem lw_r2 : ∀ q ∈ lw_privs_2, lw_okq q := List.forall_mem_cons.mpr ⟨lw_p16, List.forall_mem_cons.mpr ⟨lw_p17, List.forall_mem_cons.mpr ⟨lw_p18, List.forall_mem_cons.mpr ⟨lw_p19, List.forall_mem_cons.mpr ⟨lw_p20, List.forall_mem_cons.mpr ⟨lw_p21, List.forall_mem_cons.mpr ⟨lw_p22, List.forall_mem_cons.mpr ⟨lw_p23, List.forall_mem_cons.mpr ⟨lw_p24, List.forall_mem_cons.mpr ⟨lw_p25, List.forall_mem_cons.mpr ⟨lw_p26, List.forall_mem_cons.mpr ⟨lw_p27, List.forall_mem_cons.mpr ⟨lw_p28, List.forall_mem_cons.mpr ⟨lw_p29, List.forall_mem_cons.mpr ⟨lw_p30, List.forall_mem_cons.mpr ⟨lw_p31, fun _ h => absurd h List.not_mem_nil⟩⟩⟩⟩⟩⟩⟩⟩⟩⟩⟩⟩⟩⟩⟩⟩
theorem lw_p32 : lw_okq (⟨"GraveOrderModel", "byteAt", "(I)I"⟩, 40) := ⟨⟨by decide +kernel, by decide +kernel⟩, List.mem_of_getElem? (i := 717) (by decide +kernel), List.mem_of_getElem? (i := 886) (by decide +kernel), List.mem_of_getElem? (i := 887) (by decide +kernel)⟩
theorem lw_p33 : lw_okq (⟨"GraveOrderModel", "lastTime", "()I"⟩, 40) := ⟨⟨by decide +kernel, by decide +kernel⟩, List.mem_of_getElem? (i := 717) (by decide +kernel), List.mem_of_getElem? (i := 894) (by decide +kernel), List.mem_of_getElem? (i := 895) (by decide +kernel)⟩
theorem lw_p34 : lw_okq (⟨"GraveOrderModel", "tells", "(IIII)V"⟩, 40) := ⟨⟨by decide +kernel, by decide +kernel⟩, List.mem_of_getElem? (i := 717) (by decide +kernel), List.mem_of_getElem? (i := 898) (by decide +kernel), List.mem_of_getElem? (i := 899) (by decide +kernel)⟩
theorem lw_p35 : lw_okq (⟨"GraveOrderModel", "meets", "(I)I"⟩, 40) := ⟨⟨by decide +kernel, by decide +kernel⟩, List.mem_of_getElem? (i := 717) (by decide +kernel), List.mem_of_getElem? (i := 909) (by decide +kernel), List.mem_of_getElem? (i := 910) (by decide +kernel)⟩
theorem lw_p36 : lw_okq (⟨"GraveOrderModel", "lays", "()V"⟩, 40) := ⟨⟨by decide +kernel, by decide +kernel⟩, List.mem_of_getElem? (i := 717) (by decide +kernel), List.mem_of_getElem? (i := 921) (by decide +kernel), List.mem_of_getElem? (i := 922) (by decide +kernel)⟩
theorem lw_p37 : lw_okq (⟨"GraveOrderModel", "gapsNow", "()I"⟩, 40) := ⟨⟨by decide +kernel, by decide +kernel⟩, List.mem_of_getElem? (i := 717) (by decide +kernel), List.mem_of_getElem? (i := 932) (by decide +kernel), List.mem_of_getElem? (i := 933) (by decide +kernel)⟩
theorem lw_p38 : lw_okq (⟨"GraveOrderModel", "gapsOf", "(I)I"⟩, 40) := ⟨⟨by decide +kernel, by decide +kernel⟩, List.mem_of_getElem? (i := 717) (by decide +kernel), List.mem_of_getElem? (i := 936) (by decide +kernel), List.mem_of_getElem? (i := 937) (by decide +kernel)⟩
theorem lw_p39 : lw_okq (⟨"GraveOrderModel", "canBe", "()Z"⟩, 40) := ⟨⟨by decide +kernel, by decide +kernel⟩, List.mem_of_getElem? (i := 717) (by decide +kernel), List.mem_of_getElem? (i := 940) (by decide +kernel), List.mem_of_getElem? (i := 941) (by decide +kernel)⟩
theorem lw_p40 : lw_okq (⟨"GraveOrderModel", "bestNow", "(I)I"⟩, 40) := ⟨⟨by decide +kernel, by decide +kernel⟩, List.mem_of_getElem? (i := 717) (by decide +kernel), List.mem_of_getElem? (i := 948) (by decide +kernel), List.mem_of_getElem? (i := 949) (by decide +kernel)⟩
theorem lw_p41 : lw_okq (⟨"GraveOrderModel", "areAny", "()Z"⟩, 40) := ⟨⟨by decide +kernel, by decide +kernel⟩, List.mem_of_getElem? (i := 717) (by decide +kernel), List.mem_of_getElem? (i := 952) (by decide +kernel), List.mem_of_getElem? (i := 953) (by decide +kernel)⟩
theorem lw_p42 : lw_okq (⟨"GraveOrderModel", "works", "()V"⟩, 40) := ⟨⟨by decide +kernel, by decide +kernel⟩, List.mem_of_getElem? (i := 717) (by decide +kernel), List.mem_of_getElem? (i := 956) (by decide +kernel), List.mem_of_getElem? (i := 957) (by decide +kernel)⟩
theorem lw_p43 : lw_okq (⟨"GraveOrderModel", "plain", "()V"⟩, 40) := ⟨⟨by decide +kernel, by decide +kernel⟩, List.mem_of_getElem? (i := 717) (by decide +kernel), List.mem_of_getElem? (i := 961) (by decide +kernel), List.mem_of_getElem? (i := 962) (by decide +kernel)⟩
theorem lw_p44 : lw_okq (⟨"GraveOrderModel", "counts", "()V"⟩, 40) := ⟨⟨by decide +kernel, by decide +kernel⟩, List.mem_of_getElem? (i := 717) (by decide +kernel), List.mem_of_getElem? (i := 965) (by decide +kernel), List.mem_of_getElem? (i := 966) (by decide +kernel)⟩
theorem lw_p45 : lw_okq (⟨"GraveOrderModel", "turns", "()Z"⟩, 40) := ⟨⟨by decide +kernel, by decide +kernel⟩, List.mem_of_getElem? (i := 717) (by decide +kernel), List.mem_of_getElem? (i := 972) (by decide +kernel), List.mem_of_getElem? (i := 973) (by decide +kernel)⟩
theorem lw_p46 : lw_okq (⟨"GraveOrderModel", "turnedNow", "()I"⟩, 40) := ⟨⟨by decide +kernel, by decide +kernel⟩, List.mem_of_getElem? (i := 717) (by decide +kernel), List.mem_of_getElem? (i := 976) (by decide +kernel), List.mem_of_getElem? (i := 977) (by decide +kernel)⟩
theorem lw_p47 : lw_okq (⟨"GraveOrderModel", "firstNow", "(I)I"⟩, 40) := ⟨⟨by decide +kernel, by decide +kernel⟩, List.mem_of_getElem? (i := 717) (by decide +kernel), List.mem_of_getElem? (i := 984) (by decide +kernel), List.mem_of_getElem? (i := 985) (by decide +kernel)⟩
def lw_privs_3 : List (MethodName × Nat) := [(⟨"GraveOrderModel", "byteAt", "(I)I"⟩, 40), (⟨"GraveOrderModel", "lastTime", "()I"⟩, 40), (⟨"GraveOrderModel", "tells", "(IIII)V"⟩, 40), (⟨"GraveOrderModel", "meets", "(I)I"⟩, 40), (⟨"GraveOrderModel", "lays", "()V"⟩, 40), (⟨"GraveOrderModel", "gapsNow", "()I"⟩, 40), (⟨"GraveOrderModel", "gapsOf", "(I)I"⟩, 40), (⟨"GraveOrderModel", "canBe", "()Z"⟩, 40), (⟨"GraveOrderModel", "bestNow", "(I)I"⟩, 40), (⟨"GraveOrderModel", "areAny", "()Z"⟩, 40), (⟨"GraveOrderModel", "works", "()V"⟩, 40), (⟨"GraveOrderModel", "plain", "()V"⟩, 40), (⟨"GraveOrderModel", "counts", "()V"⟩, 40), (⟨"GraveOrderModel", "turns", "()Z"⟩, 40), (⟨"GraveOrderModel", "turnedNow", "()I"⟩, 40), (⟨"GraveOrderModel", "firstNow", "(I)I"⟩, 40)]
theorem lw_r3 : ∀ q ∈ lw_privs_3, lw_okq q := List.forall_mem_cons.mpr ⟨lw_p32, List.forall_mem_cons.mpr ⟨lw_p33, List.forall_mem_cons.mpr ⟨lw_p34, List.forall_mem_cons.mpr ⟨lw_p35, List.forall_mem_cons.mpr ⟨lw_p36, List.forall_mem_cons.mpr ⟨lw_p37, List.forall_mem_cons.mpr ⟨lw_p38, List.forall_mem_cons.mpr ⟨lw_p39, List.forall_mem_cons.mpr ⟨lw_p40, List.forall_mem_cons.mpr ⟨lw_p41, List.forall_mem_cons.mpr ⟨lw_p42, List.forall_mem_cons.mpr ⟨lw_p43, List.forall_mem_cons.mpr ⟨lw_p44, List.forall_mem_cons.mpr ⟨lw_p45, List.forall_mem_cons.mpr ⟨lw_p46, List.forall_mem_cons.mpr ⟨lw_p47, fun _ h => absurd h List.not_mem_nil⟩⟩⟩⟩⟩⟩⟩⟩⟩⟩⟩⟩⟩⟩⟩⟩
theorem lw_p48 : lw_okq (⟨"GraveOrderModel", "placesNow", "(I)I"⟩, 40) := ⟨⟨by decide +kernel, by decide +kernel⟩, List.mem_of_getElem? (i := 717) (by decide +kernel), List.mem_of_getElem? (i := 996) (by decide +kernel), List.mem_of_getElem? (i := 997) (by decide +kernel)⟩
theorem lw_p49 : lw_okq (⟨"GraveOrderModel", "spreadNow", "(II)I"⟩, 40) := ⟨⟨by decide +kernel, by decide +kernel⟩, List.mem_of_getElem? (i := 717) (by decide +kernel), List.mem_of_getElem? (i := 1004) (by decide +kernel), List.mem_of_getElem? (i := 1005) (by decide +kernel)⟩
theorem lw_p50 : lw_okq (⟨"GraveOrderModel", "meanNow", "(I)J"⟩, 40) := ⟨⟨by decide +kernel, by decide +kernel⟩, List.mem_of_getElem? (i := 717) (by decide +kernel), List.mem_of_getElem? (i := 1012) (by decide +kernel), List.mem_of_getElem? (i := 1013) (by decide +kernel)⟩
theorem lw_p51 : lw_okq (⟨"GraveOrderModel", "leftNow", "()I"⟩, 40) := ⟨⟨by decide +kernel, by decide +kernel⟩, List.mem_of_getElem? (i := 717) (by decide +kernel), List.mem_of_getElem? (i := 1027) (by decide +kernel), List.mem_of_getElem? (i := 1028) (by decide +kernel)⟩
theorem lw_p52 : lw_okq (⟨"GraveOrderModel", "mendedNow", "(I)I"⟩, 40) := ⟨⟨by decide +kernel, by decide +kernel⟩, List.mem_of_getElem? (i := 717) (by decide +kernel), List.mem_of_getElem? (i := 1035) (by decide +kernel), List.mem_of_getElem? (i := 1036) (by decide +kernel)⟩
theorem lw_p53 : lw_okq (⟨"GraveOrderModel", "phasesNow", "(II)I"⟩, 40) := ⟨⟨by decide +kernel, by decide +kernel⟩, List.mem_of_getElem? (i := 717) (by decide +kernel), List.mem_of_getElem? (i := 1043) (by decide +kernel), List.mem_of_getElem? (i := 1044) (by decide +kernel)⟩
theorem lw_p54 : lw_okq (⟨"GraveOrderModel", "straddles", "()I"⟩, 40) := ⟨⟨by decide +kernel, by decide +kernel⟩, List.mem_of_getElem? (i := 717) (by decide +kernel), List.mem_of_getElem? (i := 1047) (by decide +kernel), List.mem_of_getElem? (i := 1048) (by decide +kernel)⟩
theorem lw_p55 : lw_okq (⟨"GraveOrderModel", "isEarlier", "()Z"⟩, 40) := ⟨⟨by decide +kernel, by decide +kernel⟩, List.mem_of_getElem? (i := 717) (by decide +kernel), List.mem_of_getElem? (i := 1051) (by decide +kernel), List.mem_of_getElem? (i := 1052) (by decide +kernel)⟩
theorem lw_p56 : lw_okq (⟨"GraveOrderModel", "graveYear", "(II)I"⟩, 40) := ⟨⟨by decide +kernel, by decide +kernel⟩, List.mem_of_getElem? (i := 717) (by decide +kernel), List.mem_of_getElem? (i := 1059) (by decide +kernel), List.mem_of_getElem? (i := 1060) (by decide +kernel)⟩
theorem lw_p57 : lw_okq (⟨"GraveOrderModel", "yearOf", "(II)I"⟩, 40) := ⟨⟨by decide +kernel, by decide +kernel⟩, List.mem_of_getElem? (i := 717) (by decide +kernel), List.mem_of_getElem? (i := 1063) (by decide +kernel), List.mem_of_getElem? (i := 1064) (by decide +kernel)⟩
theorem lw_p58 : lw_okq (⟨"GraveOrderModel", "gapsWith", "(IIZ)I"⟩, 40) := ⟨⟨by decide +kernel, by decide +kernel⟩, List.mem_of_getElem? (i := 717) (by decide +kernel), List.mem_of_getElem? (i := 1071) (by decide +kernel), List.mem_of_getElem? (i := 1072) (by decide +kernel)⟩
theorem lw_p59 : lw_okq (⟨"GraveOrderModel", "weightOf", "(I)I"⟩, 40) := ⟨⟨by decide +kernel, by decide +kernel⟩, List.mem_of_getElem? (i := 717) (by decide +kernel), List.mem_of_getElem? (i := 1079) (by decide +kernel), List.mem_of_getElem? (i := 1080) (by decide +kernel)⟩
theorem lw_p60 : lw_okq (⟨"GraveOrderModel", "nearestNow", "(I)I"⟩, 40) := ⟨⟨by decide +kernel, by decide +kernel⟩, List.mem_of_getElem? (i := 717) (by decide +kernel), List.mem_of_getElem? (i := 1087) (by decide +kernel), List.mem_of_getElem? (i := 1088) (by decide +kernel)⟩
theorem lw_p61 : lw_okq (⟨"GraveOrderModel", "lacks", "(III)I"⟩, 40) := ⟨⟨by decide +kernel, by decide +kernel⟩, List.mem_of_getElem? (i := 717) (by decide +kernel), List.mem_of_getElem? (i := 1103) (by decide +kernel), List.mem_of_getElem? (i := 1104) (by decide +kernel)⟩
theorem lw_p62 : lw_okq (⟨"GraveOrderModel", "keep", "(III)V"⟩, 40) := ⟨⟨by decide +kernel, by decide +kernel⟩, List.mem_of_getElem? (i := 717) (by decide +kernel), List.mem_of_getElem? (i := 1107) (by decide +kernel), List.mem_of_getElem? (i := 1108) (by decide +kernel)⟩
theorem lw_p63 : lw_okq (⟨"GraveOrderModel", "countNow", "(I)I"⟩, 40) := ⟨⟨by decide +kernel, by decide +kernel⟩, List.mem_of_getElem? (i := 717) (by decide +kernel), List.mem_of_getElem? (i := 1128) (by decide +kernel), List.mem_of_getElem? (i := 1129) (by decide +kernel)⟩
def lw_privs_4 : List (MethodName × Nat) := [(⟨"GraveOrderModel", "placesNow", "(I)I"⟩, 40), (⟨"GraveOrderModel", "spreadNow", "(II)I"⟩, 40), (⟨"GraveOrderModel", "meanNow", "(I)J"⟩, 40), (⟨"GraveOrderModel", "leftNow", "()I"⟩, 40), (⟨"GraveOrderModel", "mendedNow", "(I)I"⟩, 40), (⟨"GraveOrderModel", "phasesNow", "(II)I"⟩, 40), (⟨"GraveOrderModel", "straddles", "()I"⟩, 40), (⟨"GraveOrderModel", "isEarlier", "()Z"⟩, 40), (⟨"GraveOrderModel", "graveYear", "(II)I"⟩, 40), (⟨"GraveOrderModel", "yearOf", "(II)I"⟩, 40), (⟨"GraveOrderModel", "gapsWith", "(IIZ)I"⟩, 40), (⟨"GraveOrderModel", "weightOf", "(I)I"⟩, 40), (⟨"GraveOrderModel", "nearestNow", "(I)I"⟩, 40), (⟨"GraveOrderModel", "lacks", "(III)I"⟩, 40), (⟨"GraveOrderModel", "keep", "(III)V"⟩, 40), (⟨"GraveOrderModel", "countNow", "(I)I"⟩, 40)]
theorem lw_r4 : ∀ q ∈ lw_privs_4, lw_okq q := List.forall_mem_cons.mpr ⟨lw_p48, List.forall_mem_cons.mpr ⟨lw_p49, List.forall_mem_cons.mpr ⟨lw_p50, List.forall_mem_cons.mpr ⟨lw_p51, List.forall_mem_cons.mpr ⟨lw_p52, List.forall_mem_cons.mpr ⟨lw_p53, List.forall_mem_cons.mpr ⟨lw_p54, List.forall_mem_cons.mpr ⟨lw_p55, List.forall_mem_cons.mpr ⟨lw_p56, List.forall_mem_cons.mpr ⟨lw_p57, List.forall_mem_cons.mpr ⟨lw_p58, List.forall_mem_cons.mpr ⟨lw_p59, List.forall_mem_cons.mpr ⟨lw_p60, List.forall_mem_cons.mpr ⟨lw_p61, List.forall_mem_cons.mpr ⟨lw_p62, List.forall_mem_cons.mpr ⟨lw_p63, fun _ h => absurd h List.not_mem_nil⟩⟩⟩⟩⟩⟩⟩⟩⟩⟩⟩⟩⟩⟩⟩⟩
def lw_privs : List (MethodName × Nat) := lw_privs_1 ++ (lw_privs_2 ++ (lw_privs_3 ++ (lw_privs_4)))
def lw_tbl : List Cond := k2_sels lw_privs ++ tables_1
theorem lw_privs_ok : ∀ q ∈ lw_privs, lw_okq q := by
  show ∀ q ∈ lw_privs_1 ++ (lw_privs_2 ++ (lw_privs_3 ++ (lw_privs_4))), lw_okq q
  exact List.forall_mem_append.mpr ⟨lw_r1, List.forall_mem_append.mpr ⟨lw_r2, List.forall_mem_append.mpr ⟨lw_r3, lw_r4⟩⟩⟩
-- ===== end of PART A; then your names; then what follows =====
end
section
def RX0 : String := "GraveOrder$Finds"
def TX0 : u_T := fun k => match k with
  | 0 => ("GraveOrder$Finds", "times", "[I", true)
  | 1 => ("GraveOrder$Finds", "graves", "[I", true)
  | 2 => ("GraveOrder$Finds", "kinds", "[I", true)
  | 3 => ("GraveOrder$Finds", "there", "[Z", true)
  | _ => ("GraveOrder$Finds", "size", "I", false)
def tyX0 : Nat → FieldType := fun k => match k with
  | 0 => .array .int
  | 1 => .array .int
  | 2 => .array .int
  | 3 => .array .boolean
  | _ => .int
theorem nmX0 : ∀ a, a < 5 → ∀ b, b < 5 → a ≠ b → (TX0 a).2.1 ≠ (TX0 b).2.1 := by decide +kernel
theorem tyX0_ok : ∀ k, k < 5 → parseFieldDescriptor (TX0 k).2.2.1 = some (tyX0 k) := by decide +kernel
abbrev cX0_init : ByteArray := prog_2_method_1_code
def yX0_init : MethodName := ⟨RX0, "<init>", "()V"⟩
abbrev cX0_timeBefore : ByteArray := prog_2_method_2_code
def yX0_timeBefore : MethodName := ⟨RX0, "timeBefore", "()I"⟩
abbrev cX0_keep : ByteArray := prog_2_method_3_code
def yX0_keep : MethodName := ⟨RX0, "keep", "(IIIZ)Z"⟩
abbrev cX0_layInto : ByteArray := prog_2_method_4_code
def yX0_layInto : MethodName := ⟨RX0, "layInto", "([II)V"⟩
def RX1 : String := "GraveOrder$FirstRow"
def TX1 : u_T := fun k => match k with
  | 0 => ("GraveOrder$FirstRow", "yard", "LGraveOrder$Yard;", true)
  | 1 => ("GraveOrder$FirstRow", "row", "[I", true)
  | 2 => ("GraveOrder$FirstRow", "turned", "[I", true)
  | _ => ("GraveOrder$FirstRow", "laid", "[I", true)
def tyX1 : Nat → FieldType := fun k => match k with
  | 0 => .object "GraveOrder$Yard"
  | 1 => .array .int
  | 2 => .array .int
  | _ => .array .int
theorem nmX1 : ∀ a, a < 4 → ∀ b, b < 4 → a ≠ b → (TX1 a).2.1 ≠ (TX1 b).2.1 := by decide +kernel
theorem tyX1_ok : ∀ k, k < 4 → parseFieldDescriptor (TX1 k).2.2.1 = some (tyX1 k) := by decide +kernel
abbrev cX1_init : ByteArray := prog_3_method_1_code
def yX1_init : MethodName := ⟨RX1, "<init>", "(LGraveOrder$Yard;[I)V"⟩
abbrev cX1_hasAt : ByteArray := prog_3_method_2_code
def yX1_hasAt : MethodName := ⟨RX1, "hasAt", "(II)Z"⟩
abbrev cX1_robbedAt : ByteArray := prog_3_method_3_code
def yX1_robbedAt : MethodName := ⟨RX1, "robbedAt", "(I)Z"⟩
abbrev cX1_placeOf : ByteArray := prog_3_method_4_code
def yX1_placeOf : MethodName := ⟨RX1, "placeOf", "(I)I"⟩
abbrev cX1_turnedCanBe : ByteArray := prog_3_method_5_code
def yX1_turnedCanBe : MethodName := ⟨RX1, "turnedCanBe", "()Z"⟩
abbrev cX1_gapsOfOrder : ByteArray := prog_3_method_6_code
def yX1_gapsOfOrder : MethodName := ⟨RX1, "gapsOfOrder", "([I)I"⟩
abbrev cX1_gapsAsLaid : ByteArray := prog_3_method_7_code
def yX1_gapsAsLaid : MethodName := ⟨RX1, "gapsAsLaid", "(II)I"⟩
abbrev cX1_gapsWith : ByteArray := prog_3_method_8_code
def yX1_gapsWith : MethodName := ⟨RX1, "gapsWith", "(II)I"⟩
abbrev cX1_fewestGapsWith : ByteArray := prog_3_method_9_code
def yX1_fewestGapsWith : MethodName := ⟨RX1, "fewestGapsWith", "(I)I"⟩
abbrev cX1_placesWith : ByteArray := prog_3_method_10_code
def yX1_placesWith : MethodName := ⟨RX1, "placesWith", "(II)I"⟩
abbrev cX1_mending : ByteArray := prog_3_method_11_code
def yX1_mending : MethodName := ⟨RX1, "mending", "(I)I"⟩
abbrev cX1_mendingFrom : ByteArray := prog_3_method_12_code
def yX1_mendingFrom : MethodName := ⟨RX1, "mendingFrom", "(III)I"⟩
abbrev cX1_bestCuts : ByteArray := prog_3_method_13_code
def yX1_bestCuts : MethodName := ⟨RX1, "bestCuts", "(I)I"⟩
abbrev cX1_isCutAhead : ByteArray := prog_3_method_14_code
def yX1_isCutAhead : MethodName := ⟨RX1, "isCutAhead", "(II)Z"⟩
abbrev cX1_straddles : ByteArray := prog_3_method_15_code
def yX1_straddles : MethodName := ⟨RX1, "straddles", "(I)I"⟩
abbrev cX1_partOf : ByteArray := prog_3_method_16_code
def yX1_partOf : MethodName := ⟨RX1, "partOf", "(II)I"⟩
abbrev cX1_yearOfGrave : ByteArray := prog_3_method_17_code
def yX1_yearOfGrave : MethodName := ⟨RX1, "yearOfGrave", "(II)I"⟩
abbrev cX1_yearOfKind : ByteArray := prog_3_method_18_code
def yX1_yearOfKind : MethodName := ⟨RX1, "yearOfKind", "(II)I"⟩
def RX2 : String := "GraveOrder$Line"
def TX2 : u_T := fun k => match k with
  | 0 => ("GraveOrder$Line", "bytes", "[I", true)
  | _ => ("GraveOrder$Line", "length", "I", false)
def tyX2 : Nat → FieldType := fun k => match k with
  | 0 => .array .int
  | _ => .int
theorem nmX2 : ∀ a, a < 2 → ∀ b, b < 2 → a ≠ b → (TX2 a).2.1 ≠ (TX2 b).2.1 := by decide +kernel
theorem tyX2_ok : ∀ k, k < 2 → parseFieldDescriptor (TX2 k).2.2.1 = some (tyX2 k) := by decide +kernel
abbrev cX2_init : ByteArray := prog_4_method_1_code
def yX2_init : MethodName := ⟨RX2, "<init>", "()V"⟩
abbrev cX2_follow : ByteArray := prog_4_method_2_code
def yX2_follow : MethodName := ⟨RX2, "follow", "(III)I"⟩
abbrev cX2_firstFault : ByteArray := prog_4_method_3_code
def yX2_firstFault : MethodName := ⟨RX2, "firstFault", "(I)I"⟩
def RX3 : String := "GraveOrder$Orders"
def TX3 : u_T := fun k => match k with
  | 0 => ("GraveOrder$Orders", "yard", "LGraveOrder$Yard;", true)
  | 1 => ("GraveOrder$Orders", "seen", "[I", true)
  | 2 => ("GraveOrder$Orders", "year", "[I", true)
  | 3 => ("GraveOrder$Orders", "steps", "[I", true)
  | 4 => ("GraveOrder$Orders", "ahead", "[I", true)
  | 5 => ("GraveOrder$Orders", "behind", "[I", true)
  | 6 => ("GraveOrder$Orders", "ways", "[I", true)
  | 7 => ("GraveOrder$Orders", "row", "[I", true)
  | 8 => ("GraveOrder$Orders", "withGapsRow", "[I", true)
  | 9 => ("GraveOrder$Orders", "firstHalf", "[I", true)
  | 10 => ("GraveOrder$Orders", "secondHalf", "[I", true)
  | 11 => ("GraveOrder$Orders", "reached", "[Z", true)
  | 12 => ("GraveOrder$Orders", "stale", "Z", false)
  | 13 => ("GraveOrder$Orders", "spreadStale", "Z", false)
  | 14 => ("GraveOrder$Orders", "leftOutStale", "Z", false)
  | _ => ("GraveOrder$Orders", "leftOutBits", "I", false)
def tyX3 : Nat → FieldType := fun k => match k with
  | 0 => .object "GraveOrder$Yard"
  | 1 => .array .int
  | 2 => .array .int
  | 3 => .array .int
  | 4 => .array .int
  | 5 => .array .int
  | 6 => .array .int
  | 7 => .array .int
  | 8 => .array .int
  | 9 => .array .int
  | 10 => .array .int
  | 11 => .array .boolean
  | 12 => .boolean
  | 13 => .boolean
  | 14 => .boolean
  | _ => .int
theorem nmX3 : ∀ a, a < 16 → ∀ b, b < 16 → a ≠ b → (TX3 a).2.1 ≠ (TX3 b).2.1 := by decide +kernel
theorem tyX3_ok : ∀ k, k < 16 → parseFieldDescriptor (TX3 k).2.2.1 = some (tyX3 k) := by decide +kernel
abbrev cX3_init : ByteArray := prog_5_method_1_code
def yX3_init : MethodName := ⟨RX3, "<init>", "(LGraveOrder$Yard;)V"⟩
abbrev cX3_settle : ByteArray := prog_5_method_2_code
def yX3_settle : MethodName := ⟨RX3, "settle", "()Z"⟩
abbrev cX3_allGraves : ByteArray := prog_5_method_3_code
def yX3_allGraves : MethodName := ⟨RX3, "allGraves", "()I"⟩
abbrev cX3_fillSets : ByteArray := prog_5_method_4_code
def yX3_fillSets : MethodName := ⟨RX3, "fillSets", "()V"⟩
abbrev cX3_fillSteps : ByteArray := prog_5_method_5_code
def yX3_fillSteps : MethodName := ⟨RX3, "fillSteps", "()V"⟩
abbrev cX3_canFollow : ByteArray := prog_5_method_6_code
def yX3_canFollow : MethodName := ⟨RX3, "canFollow", "(II)Z"⟩
abbrev cX3_gapsAt : ByteArray := prog_5_method_7_code
def yX3_gapsAt : MethodName := ⟨RX3, "gapsAt", "(II)I"⟩
abbrev cX3_fillAhead : ByteArray := prog_5_method_8_code
def yX3_fillAhead : MethodName := ⟨RX3, "fillAhead", "()V"⟩
abbrev cX3_fillBehind : ByteArray := prog_5_method_9_code
def yX3_fillBehind : MethodName := ⟨RX3, "fillBehind", "()V"⟩
abbrev cX3_tryNext : ByteArray := prog_5_method_10_code
def yX3_tryNext : MethodName := ⟨RX3, "tryNext", "(II)V"⟩
abbrev cX3_fillRow : ByteArray := prog_5_method_11_code
def yX3_fillRow : MethodName := ⟨RX3, "fillRow", "()V"⟩
abbrev cX3_leastNext : ByteArray := prog_5_method_12_code
def yX3_leastNext : MethodName := ⟨RX3, "leastNext", "(I)I"⟩
abbrev cX3_alwaysAhead : ByteArray := prog_5_method_13_code
def yX3_alwaysAhead : MethodName := ⟨RX3, "alwaysAhead", "(II)Z"⟩
abbrev cX3_placesInBest : ByteArray := prog_5_method_14_code
def yX3_placesInBest : MethodName := ⟨RX3, "placesInBest", "(I)I"⟩
abbrev cX3_settleSpread : ByteArray := prog_5_method_15_code
def yX3_settleSpread : MethodName := ⟨RX3, "settleSpread", "()V"⟩
abbrev cX3_gather : ByteArray := prog_5_method_16_code
def yX3_gather : MethodName := ⟨RX3, "gather", "(LGraveOrder$Orders;III[II)I"⟩
abbrev cX3_joinHalves : ByteArray := prog_5_method_17_code
def yX3_joinHalves : MethodName := ⟨RX3, "joinHalves", "(II)V"⟩
abbrev cX3_withGaps : ByteArray := prog_5_method_18_code
def yX3_withGaps : MethodName := ⟨RX3, "withGaps", "(I)I"⟩
abbrev cX3_withGapsUpTo : ByteArray := prog_5_method_19_code
def yX3_withGapsUpTo : MethodName := ⟨RX3, "withGapsUpTo", "(I)I"⟩
abbrev cX3_gapsOfAll : ByteArray := prog_5_method_20_code
def yX3_gapsOfAll : MethodName := ⟨RX3, "gapsOfAll", "()I"⟩
abbrev cX3_fewestLeftOut : ByteArray := prog_5_method_21_code
def yX3_fewestLeftOut : MethodName := ⟨RX3, "fewestLeftOut", "()I"⟩
abbrev cX3_searchLeftOut : ByteArray := prog_5_method_22_code
def yX3_searchLeftOut : MethodName := ⟨RX3, "searchLeftOut", "()I"⟩
abbrev cX3_kindsWithGaps : ByteArray := prog_5_method_23_code
def yX3_kindsWithGaps : MethodName := ⟨RX3, "kindsWithGaps", "()I"⟩
abbrev cX3_reachesAllWithout : ByteArray := prog_5_method_24_code
def yX3_reachesAllWithout : MethodName := ⟨RX3, "reachesAllWithout", "(I)Z"⟩
def RX4 : String := "GraveOrder$Sheet"
def TX4 : u_T := fun k => match k with
  | 0 => ("GraveOrder$Sheet", "items", "[I", true)
  | 1 => ("GraveOrder$Sheet", "lost", "Z", false)
  | 2 => ("GraveOrder$Sheet", "form", "I", false)
  | _ => ("GraveOrder$Sheet", "size", "I", false)
def tyX4 : Nat → FieldType := fun k => match k with
  | 0 => .array .int
  | 1 => .boolean
  | 2 => .int
  | _ => .int
theorem nmX4 : ∀ a, a < 4 → ∀ b, b < 4 → a ≠ b → (TX4 a).2.1 ≠ (TX4 b).2.1 := by decide +kernel
theorem tyX4_ok : ∀ k, k < 4 → parseFieldDescriptor (TX4 k).2.2.1 = some (tyX4 k) := by decide +kernel
abbrev cX4_init : ByteArray := prog_6_method_1_code
def yX4_init : MethodName := ⟨RX4, "<init>", "()V"⟩
abbrev cX4_renew : ByteArray := prog_6_method_2_code
def yX4_renew : MethodName := ⟨RX4, "renew", "(II)V"⟩
abbrev cX4_findingAt : ByteArray := prog_6_method_3_code
def yX4_findingAt : MethodName := ⟨RX4, "findingAt", "(II)I"⟩
abbrev cX4_holdsRun : ByteArray := prog_6_method_4_code
def yX4_holdsRun : MethodName := ⟨RX4, "holdsRun", "(II)Z"⟩
abbrev cX4_store : ByteArray := prog_6_method_5_code
def yX4_store : MethodName := ⟨RX4, "store", "(II)V"⟩
def RX5 : String := "GraveOrder$Yard"
def TX5 : u_T := fun k => match k with
  | 0 => ("GraveOrder$Yard", "from", "[I", true)
  | 1 => ("GraveOrder$Yard", "to", "[I", true)
  | 2 => ("GraveOrder$Yard", "below", "[I", true)
  | 3 => ("GraveOrder$Yard", "kinds", "[I", true)
  | 4 => ("GraveOrder$Yard", "graves", "I", false)
  | 5 => ("GraveOrder$Yard", "robbedBits", "I", false)
  | 6 => ("GraveOrder$Yard", "overs", "I", false)
  | 7 => ("GraveOrder$Yard", "weightOnes", "I", false)
  | _ => ("GraveOrder$Yard", "weightTwos", "I", false)
def tyX5 : Nat → FieldType := fun k => match k with
  | 0 => .array .int
  | 1 => .array .int
  | 2 => .array .int
  | 3 => .array .int
  | 4 => .int
  | 5 => .int
  | 6 => .int
  | 7 => .int
  | _ => .int
theorem nmX5 : ∀ a, a < 9 → ∀ b, b < 9 → a ≠ b → (TX5 a).2.1 ≠ (TX5 b).2.1 := by decide +kernel
theorem tyX5_ok : ∀ k, k < 9 → parseFieldDescriptor (TX5 k).2.2.1 = some (tyX5 k) := by decide +kernel
abbrev cX5_init : ByteArray := prog_7_method_1_code
def yX5_init : MethodName := ⟨RX5, "<init>", "()V"⟩
abbrev cX5_dig : ByteArray := prog_7_method_2_code
def yX5_dig : MethodName := ⟨RX5, "dig", "(II)I"⟩
abbrev cX5_reweigh : ByteArray := prog_7_method_3_code
def yX5_reweigh : MethodName := ⟨RX5, "reweigh", "(II)I"⟩
abbrev cX5_weigh : ByteArray := prog_7_method_4_code
def yX5_weigh : MethodName := ⟨RX5, "weigh", "(I)I"⟩
abbrev cX5_kindsOfAll : ByteArray := prog_7_method_5_code
def yX5_kindsOfAll : MethodName := ⟨RX5, "kindsOfAll", "()I"⟩
abbrev cX5_allFinds : ByteArray := prog_7_method_6_code
def yX5_allFinds : MethodName := ⟨RX5, "allFinds", "()I"⟩
abbrev cX5_isOrder : ByteArray := prog_7_method_7_code
def yX5_isOrder : MethodName := ⟨RX5, "isOrder", "([II)Z"⟩
abbrev cX5_canBe : ByteArray := prog_7_method_8_code
def yX5_canBe : MethodName := ⟨RX5, "canBe", "([I)Z"⟩
abbrev cX5_weightOfBoth : ByteArray := prog_7_method_9_code
def yX5_weightOfBoth : MethodName := ⟨RX5, "weightOfBoth", "(II)I"⟩
abbrev cX5_weightOfEither : ByteArray := prog_7_method_10_code
def yX5_weightOfEither : MethodName := ⟨RX5, "weightOfEither", "(II)I"⟩
abbrev cX5_mostAlike : ByteArray := prog_7_method_11_code
def yX5_mostAlike : MethodName := ⟨RX5, "mostAlike", "(I)I"⟩
def RX6 : String := "GraveOrder"
def TX6 : u_T := fun k => match k with
  | 0 => ("GraveOrder", "yard", "LGraveOrder$Yard;", true)
  | 1 => ("GraveOrder", "line", "LGraveOrder$Line;", true)
  | 2 => ("GraveOrder", "finds", "LGraveOrder$Finds;", true)
  | 3 => ("GraveOrder", "orders", "LGraveOrder$Orders;", true)
  | 4 => ("GraveOrder", "firstRow", "LGraveOrder$FirstRow;", true)
  | 5 => ("GraveOrder", "sheets", "[LGraveOrder$Sheet;", true)
  | 6 => ("GraveOrder", "asOfTime", "I", false)
  | _ => ("GraveOrder", "latestFinding", "I", false)
def tyX6 : Nat → FieldType := fun k => match k with
  | 0 => .object "GraveOrder$Yard"
  | 1 => .object "GraveOrder$Line"
  | 2 => .object "GraveOrder$Finds"
  | 3 => .object "GraveOrder$Orders"
  | 4 => .object "GraveOrder$FirstRow"
  | 5 => .array (.object "GraveOrder$Sheet")
  | 6 => .int
  | _ => .int
theorem nmX6 : ∀ a, a < 8 → ∀ b, b < 8 → a ≠ b → (TX6 a).2.1 ≠ (TX6 b).2.1 := by decide +kernel
theorem tyX6_ok : ∀ k, k < 8 → parseFieldDescriptor (TX6 k).2.2.1 = some (tyX6 k) := by decide +kernel
abbrev cX6_init : ByteArray := prog_1_method_1_code
def yX6_init : MethodName := ⟨RX6, "<init>", "()V"⟩
abbrev cX6_grave : ByteArray := prog_1_method_2_code
def yX6_grave : MethodName := ⟨RX6, "grave", "(II)I"⟩
abbrev cX6_robbed : ByteArray := prog_1_method_3_code
def yX6_robbed : MethodName := ⟨RX6, "robbed", "(II)I"⟩
abbrev cX6_weight : ByteArray := prog_1_method_4_code
def yX6_weight : MethodName := ⟨RX6, "weight", "(II)I"⟩
abbrev cX6_over : ByteArray := prog_1_method_5_code
def yX6_over : MethodName := ⟨RX6, "over", "(II)I"⟩
abbrev cX6_type : ByteArray := prog_1_method_6_code
def yX6_type : MethodName := ⟨RX6, "type", "(I)I"⟩
abbrev cX6_wipe : ByteArray := prog_1_method_7_code
def yX6_wipe : MethodName := ⟨RX6, "wipe", "()I"⟩
abbrev cX6_fault : ByteArray := prog_1_method_8_code
def yX6_fault : MethodName := ⟨RX6, "fault", "()I"⟩
abbrev cX6_tell : ByteArray := prog_1_method_9_code
def yX6_tell : MethodName := ⟨RX6, "tell", "(I)I"⟩
abbrev cX6_read : ByteArray := prog_1_method_10_code
def yX6_read : MethodName := ⟨RX6, "read", "(III)I"⟩
abbrev cX6_asOf : ByteArray := prog_1_method_11_code
def yX6_asOf : MethodName := ⟨RX6, "asOf", "(I)I"⟩
abbrev cX6_has : ByteArray := prog_1_method_12_code
def yX6_has : MethodName := ⟨RX6, "has", "(I)I"⟩
abbrev cX6_gaps : ByteArray := prog_1_method_13_code
def yX6_gaps : MethodName := ⟨RX6, "gaps", "(II)I"⟩
abbrev cX6_best : ByteArray := prog_1_method_14_code
def yX6_best : MethodName := ⟨RX6, "best", "(I)I"⟩
abbrev cX6_first : ByteArray := prog_1_method_15_code
def yX6_first : MethodName := ⟨RX6, "first", "(I)I"⟩
abbrev cX6_sure : ByteArray := prog_1_method_16_code
def yX6_sure : MethodName := ⟨RX6, "sure", "(II)I"⟩
abbrev cX6_places : ByteArray := prog_1_method_17_code
def yX6_places : MethodName := ⟨RX6, "places", "(I)I"⟩
abbrev cX6_spread : ByteArray := prog_1_method_18_code
def yX6_spread : MethodName := ⟨RX6, "spread", "(II)I"⟩
abbrev cX6_mean : ByteArray := prog_1_method_19_code
def yX6_mean : MethodName := ⟨RX6, "mean", "(I)J"⟩
abbrev cX6_leftOut : ByteArray := prog_1_method_20_code
def yX6_leftOut : MethodName := ⟨RX6, "leftOut", "()I"⟩
abbrev cX6_mended : ByteArray := prog_1_method_21_code
def yX6_mended : MethodName := ⟨RX6, "mended", "(I)I"⟩
abbrev cX6_phases : ByteArray := prog_1_method_22_code
def yX6_phases : MethodName := ⟨RX6, "phases", "(II)I"⟩
abbrev cX6_years : ByteArray := prog_1_method_23_code
def yX6_years : MethodName := ⟨RX6, "years", "(III)I"⟩
abbrev cX6_fresh : ByteArray := prog_1_method_24_code
def yX6_fresh : MethodName := ⟨RX6, "fresh", "(II)I"⟩
abbrev cX6_alike : ByteArray := prog_1_method_25_code
def yX6_alike : MethodName := ⟨RX6, "alike", "(III)J"⟩
abbrev cX6_nearest : ByteArray := prog_1_method_26_code
def yX6_nearest : MethodName := ⟨RX6, "nearest", "(I)I"⟩
abbrev cX6_sheet : ByteArray := prog_1_method_27_code
def yX6_sheet : MethodName := ⟨RX6, "sheet", "(III)I"⟩
abbrev cX6_lose : ByteArray := prog_1_method_28_code
def yX6_lose : MethodName := ⟨RX6, "lose", "(I)I"⟩
abbrev cX6_put : ByteArray := prog_1_method_29_code
def yX6_put : MethodName := ⟨RX6, "put", "(IIII)I"⟩
abbrev cX6_get : ByteArray := prog_1_method_30_code
def yX6_get : MethodName := ⟨RX6, "get", "(III)I"⟩
abbrev cX6_copy : ByteArray := prog_1_method_31_code
def yX6_copy : MethodName := ⟨RX6, "copy", "(IIIII)I"⟩
abbrev cX6_write : ByteArray := prog_1_method_32_code
def yX6_write : MethodName := ⟨RX6, "write", "(I)I"⟩
abbrev cX6_count : ByteArray := prog_1_method_33_code
def yX6_count : MethodName := ⟨RX6, "count", "(I)I"⟩
abbrev cX6_digest : ByteArray := prog_1_method_34_code
def yX6_digest : MethodName := ⟨RX6, "digest", "()J"⟩
abbrev cX6_digestOfGraves : ByteArray := prog_1_method_35_code
def yX6_digestOfGraves : MethodName := ⟨RX6, "digestOfGraves", "(J)J"⟩
abbrev cX6_digestOfOrders : ByteArray := prog_1_method_36_code
def yX6_digestOfOrders : MethodName := ⟨RX6, "digestOfOrders", "(J)J"⟩
abbrev cX6_within : ByteArray := prog_1_method_37_code
def yX6_within : MethodName := ⟨RX6, "within", "(III)Z"⟩
abbrev cX6_bit : ByteArray := prog_1_method_38_code
def yX6_bit : MethodName := ⟨RX6, "bit", "(Z)I"⟩
abbrev cX6_longRefusal : ByteArray := prog_1_method_39_code
def yX6_longRefusal : MethodName := ⟨RX6, "longRefusal", "(I)J"⟩
abbrev cX6_inLowestTerms : ByteArray := prog_1_method_40_code
def yX6_inLowestTerms : MethodName := ⟨RX6, "inLowestTerms", "(III)J"⟩
abbrev cX6_commonDivisor : ByteArray := prog_1_method_41_code
def yX6_commonDivisor : MethodName := ⟨RX6, "commonDivisor", "(II)I"⟩
abbrev cX6_isGrave : ByteArray := prog_1_method_42_code
def yX6_isGrave : MethodName := ⟨RX6, "isGrave", "(I)Z"⟩
abbrev cX6_isPair : ByteArray := prog_1_method_43_code
def yX6_isPair : MethodName := ⟨RX6, "isPair", "(II)Z"⟩
abbrev cX6_isKind : ByteArray := prog_1_method_44_code
def yX6_isKind : MethodName := ⟨RX6, "isKind", "(I)Z"⟩
abbrev cX6_isSheet : ByteArray := prog_1_method_45_code
def yX6_isSheet : MethodName := ⟨RX6, "isSheet", "(I)Z"⟩
abbrev cX6_canTellAt : ByteArray := prog_1_method_46_code
def yX6_canTellAt : MethodName := ⟨RX6, "canTellAt", "(I)Z"⟩
abbrev cX6_finding : ByteArray := prog_1_method_47_code
def yX6_finding : MethodName := ⟨RX6, "finding", "(I)I"⟩
abbrev cX6_findsChanged : ByteArray := prog_1_method_48_code
def yX6_findsChanged : MethodName := ⟨RX6, "findsChanged", "()V"⟩
abbrev cX6_tellLine : ByteArray := prog_1_method_49_code
def yX6_tellLine : MethodName := ⟨RX6, "tellLine", "(I)I"⟩
abbrev cX6_tellSheet : ByteArray := prog_1_method_50_code
def yX6_tellSheet : MethodName := ⟨RX6, "tellSheet", "(LGraveOrder$Sheet;II)I"⟩
def RX7 : String := "GraveOrderModel"
def TX7 : u_T := fun k => match k with
  | 0 => ("GraveOrderModel", "graves", "I", false)
  | 1 => ("GraveOrderModel", "from", "[I", true)
  | 2 => ("GraveOrderModel", "to", "[I", true)
  | 3 => ("GraveOrderModel", "robbers", "I", false)
  | 4 => ("GraveOrderModel", "weights", "[I", true)
  | 5 => ("GraveOrderModel", "overs", "I", false)
  | 6 => ("GraveOrderModel", "upper", "[I", true)
  | 7 => ("GraveOrderModel", "lower", "[I", true)
  | 8 => ("GraveOrderModel", "tellings", "I", false)
  | 9 => ("GraveOrderModel", "toldGrave", "[I", true)
  | 10 => ("GraveOrderModel", "toldKind", "[I", true)
  | 11 => ("GraveOrderModel", "toldHas", "[I", true)
  | 12 => ("GraveOrderModel", "toldTime", "[I", true)
  | 13 => ("GraveOrderModel", "knownTo", "I", false)
  | 14 => ("GraveOrderModel", "isWorked", "Z", false)
  | 15 => ("GraveOrderModel", "typed", "I", false)
  | 16 => ("GraveOrderModel", "text", "[I", true)
  | 17 => ("GraveOrderModel", "said", "I", false)
  | 18 => ("GraveOrderModel", "saidGrave", "[I", true)
  | 19 => ("GraveOrderModel", "saidKind", "[I", true)
  | 20 => ("GraveOrderModel", "saidHas", "[I", true)
  | 21 => ("GraveOrderModel", "have", "[I", true)
  | 22 => ("GraveOrderModel", "order", "[I", true)
  | 23 => ("GraveOrderModel", "fewest", "I", false)
  | 24 => ("GraveOrderModel", "bestMany", "I", false)
  | 25 => ("GraveOrderModel", "canMany", "I", false)
  | 26 => ("GraveOrderModel", "gapSum", "J", false)
  | 27 => ("GraveOrderModel", "spreads", "[I", true)
  | 28 => ("GraveOrderModel", "firstOrder", "[I", true)
  | 29 => ("GraveOrderModel", "ahead", "[I", true)
  | 30 => ("GraveOrderModel", "placesOf", "[I", true)
  | 31 => ("GraveOrderModel", "out", "I", false)
  | 32 => ("GraveOrderModel", "partAt", "[I", true)
  | 33 => ("GraveOrderModel", "bestPart", "[I", true)
  | 34 => ("GraveOrderModel", "isThere", "[Z", true)
  | 35 => ("GraveOrderModel", "forms", "[I", true)
  | 36 => ("GraveOrderModel", "sizes", "[I", true)
  | 37 => ("GraveOrderModel", "items", "[I", true)
  | 38 => ("GraveOrderModel", "moved", "[I", true)
  | _ => ("GraveOrderModel", "finding", "I", false)
def tyX7 : Nat → FieldType := fun k => match k with
  | 0 => .int
  | 1 => .array .int
  | 2 => .array .int
  | 3 => .int
  | 4 => .array .int
  | 5 => .int
  | 6 => .array .int
  | 7 => .array .int
  | 8 => .int
  | 9 => .array .int
  | 10 => .array .int
  | 11 => .array .int
  | 12 => .array .int
  | 13 => .int
  | 14 => .boolean
  | 15 => .int
  | 16 => .array .int
  | 17 => .int
  | 18 => .array .int
  | 19 => .array .int
  | 20 => .array .int
  | 21 => .array .int
  | 22 => .array .int
  | 23 => .int
  | 24 => .int
  | 25 => .int
  | 26 => .long
  | 27 => .array .int
  | 28 => .array .int
  | 29 => .array .int
  | 30 => .array .int
  | 31 => .int
  | 32 => .array .int
  | 33 => .array .int
  | 34 => .array .boolean
  | 35 => .array .int
  | 36 => .array .int
  | 37 => .array .int
  | 38 => .array .int
  | _ => .int
theorem nmX7 : ∀ a, a < 40 → ∀ b, b < 40 → a ≠ b → (TX7 a).2.1 ≠ (TX7 b).2.1 := by decide +kernel
theorem tyX7_ok : ∀ k, k < 40 → parseFieldDescriptor (TX7 k).2.2.1 = some (tyX7 k) := by decide +kernel
abbrev cX7_init : ByteArray := prog_9_method_1_code
def yX7_init : MethodName := ⟨RX7, "<init>", "()V"⟩
abbrev cX7_in : ByteArray := prog_9_method_3_code
def yX7_in : MethodName := ⟨RX7, "in", "(III)Z"⟩
abbrev cX7_is : ByteArray := prog_9_method_4_code
def yX7_is : MethodName := ⟨RX7, "is", "(II)Z"⟩
abbrev cX7_ones : ByteArray := prog_9_method_5_code
def yX7_ones : MethodName := ⟨RX7, "ones", "(I)I"⟩
abbrev cX7_no : ByteArray := prog_9_method_6_code
def yX7_no : MethodName := ⟨RX7, "no", "(I)J"⟩
abbrev cX7_lowest : ByteArray := prog_9_method_7_code
def yX7_lowest : MethodName := ⟨RX7, "lowest", "(JJI)J"⟩
abbrev cX7_isGrave : ByteArray := prog_9_method_8_code
def yX7_isGrave : MethodName := ⟨RX7, "isGrave", "(I)Z"⟩
abbrev cX7_isKind : ByteArray := prog_9_method_9_code
def yX7_isKind : MethodName := ⟨RX7, "isKind", "(I)Z"⟩
abbrev cX7_grave : ByteArray := prog_9_method_10_code
def yX7_grave : MethodName := ⟨RX7, "grave", "(II)I"⟩
abbrev cX7_robbed : ByteArray := prog_9_method_11_code
def yX7_robbed : MethodName := ⟨RX7, "robbed", "(II)I"⟩
abbrev cX7_weight : ByteArray := prog_9_method_12_code
def yX7_weight : MethodName := ⟨RX7, "weight", "(II)I"⟩
abbrev cX7_over : ByteArray := prog_9_method_13_code
def yX7_over : MethodName := ⟨RX7, "over", "(II)I"⟩
abbrev cX7_type : ByteArray := prog_9_method_14_code
def yX7_type : MethodName := ⟨RX7, "type", "(I)I"⟩
abbrev cX7_wipe : ByteArray := prog_9_method_15_code
def yX7_wipe : MethodName := ⟨RX7, "wipe", "()I"⟩
abbrev cX7_byteAt : ByteArray := prog_9_method_16_code
def yX7_byteAt : MethodName := ⟨RX7, "byteAt", "(I)I"⟩
abbrev cX7_faultNow : ByteArray := prog_9_method_17_code
def yX7_faultNow : MethodName := ⟨RX7, "faultNow", "()I"⟩
abbrev cX7_fault : ByteArray := prog_9_method_18_code
def yX7_fault : MethodName := ⟨RX7, "fault", "()I"⟩
abbrev cX7_lastTime : ByteArray := prog_9_method_19_code
def yX7_lastTime : MethodName := ⟨RX7, "lastTime", "()I"⟩
abbrev cX7_tells : ByteArray := prog_9_method_20_code
def yX7_tells : MethodName := ⟨RX7, "tells", "(IIII)V"⟩
abbrev cX7_tell : ByteArray := prog_9_method_21_code
def yX7_tell : MethodName := ⟨RX7, "tell", "(I)I"⟩
abbrev cX7_read : ByteArray := prog_9_method_22_code
def yX7_read : MethodName := ⟨RX7, "read", "(III)I"⟩
abbrev cX7_asOf : ByteArray := prog_9_method_23_code
def yX7_asOf : MethodName := ⟨RX7, "asOf", "(I)I"⟩
abbrev cX7_lays : ByteArray := prog_9_method_24_code
def yX7_lays : MethodName := ⟨RX7, "lays", "()V"⟩
abbrev cX7_has : ByteArray := prog_9_method_25_code
def yX7_has : MethodName := ⟨RX7, "has", "(I)I"⟩
abbrev cX7_gapsOf : ByteArray := prog_9_method_26_code
def yX7_gapsOf : MethodName := ⟨RX7, "gapsOf", "(I)I"⟩
abbrev cX7_gapsNow : ByteArray := prog_9_method_27_code
def yX7_gapsNow : MethodName := ⟨RX7, "gapsNow", "()I"⟩
abbrev cX7_canBe : ByteArray := prog_9_method_28_code
def yX7_canBe : MethodName := ⟨RX7, "canBe", "()Z"⟩
abbrev cX7_turns : ByteArray := prog_9_method_29_code
def yX7_turns : MethodName := ⟨RX7, "turns", "()Z"⟩
abbrev cX7_plain : ByteArray := prog_9_method_30_code
def yX7_plain : MethodName := ⟨RX7, "plain", "()V"⟩
abbrev cX7_works : ByteArray := prog_9_method_31_code
def yX7_works : MethodName := ⟨RX7, "works", "()V"⟩
abbrev cX7_counts : ByteArray := prog_9_method_32_code
def yX7_counts : MethodName := ⟨RX7, "counts", "()V"⟩
abbrev cX7_areAny : ByteArray := prog_9_method_33_code
def yX7_areAny : MethodName := ⟨RX7, "areAny", "()Z"⟩
abbrev cX7_gaps : ByteArray := prog_9_method_34_code
def yX7_gaps : MethodName := ⟨RX7, "gaps", "(II)I"⟩
abbrev cX7_turnedNow : ByteArray := prog_9_method_35_code
def yX7_turnedNow : MethodName := ⟨RX7, "turnedNow", "()I"⟩
abbrev cX7_bestNow : ByteArray := prog_9_method_36_code
def yX7_bestNow : MethodName := ⟨RX7, "bestNow", "(I)I"⟩
abbrev cX7_best : ByteArray := prog_9_method_37_code
def yX7_best : MethodName := ⟨RX7, "best", "(I)I"⟩
abbrev cX7_firstNow : ByteArray := prog_9_method_38_code
def yX7_firstNow : MethodName := ⟨RX7, "firstNow", "(I)I"⟩
abbrev cX7_first : ByteArray := prog_9_method_39_code
def yX7_first : MethodName := ⟨RX7, "first", "(I)I"⟩
abbrev cX7_sure : ByteArray := prog_9_method_40_code
def yX7_sure : MethodName := ⟨RX7, "sure", "(II)I"⟩
abbrev cX7_placesNow : ByteArray := prog_9_method_41_code
def yX7_placesNow : MethodName := ⟨RX7, "placesNow", "(I)I"⟩
abbrev cX7_places : ByteArray := prog_9_method_42_code
def yX7_places : MethodName := ⟨RX7, "places", "(I)I"⟩
abbrev cX7_spreadNow : ByteArray := prog_9_method_43_code
def yX7_spreadNow : MethodName := ⟨RX7, "spreadNow", "(II)I"⟩
abbrev cX7_spread : ByteArray := prog_9_method_44_code
def yX7_spread : MethodName := ⟨RX7, "spread", "(II)I"⟩
abbrev cX7_meanNow : ByteArray := prog_9_method_45_code
def yX7_meanNow : MethodName := ⟨RX7, "meanNow", "(I)J"⟩
abbrev cX7_mean : ByteArray := prog_9_method_46_code
def yX7_mean : MethodName := ⟨RX7, "mean", "(I)J"⟩
abbrev cX7_leftNow : ByteArray := prog_9_method_47_code
def yX7_leftNow : MethodName := ⟨RX7, "leftNow", "()I"⟩
abbrev cX7_leftOut : ByteArray := prog_9_method_48_code
def yX7_leftOut : MethodName := ⟨RX7, "leftOut", "()I"⟩
abbrev cX7_mendedNow : ByteArray := prog_9_method_49_code
def yX7_mendedNow : MethodName := ⟨RX7, "mendedNow", "(I)I"⟩
abbrev cX7_mended : ByteArray := prog_9_method_50_code
def yX7_mended : MethodName := ⟨RX7, "mended", "(I)I"⟩
abbrev cX7_straddles : ByteArray := prog_9_method_51_code
def yX7_straddles : MethodName := ⟨RX7, "straddles", "()I"⟩
abbrev cX7_isEarlier : ByteArray := prog_9_method_52_code
def yX7_isEarlier : MethodName := ⟨RX7, "isEarlier", "()Z"⟩
abbrev cX7_phasesNow : ByteArray := prog_9_method_53_code
def yX7_phasesNow : MethodName := ⟨RX7, "phasesNow", "(II)I"⟩
abbrev cX7_phases : ByteArray := prog_9_method_54_code
def yX7_phases : MethodName := ⟨RX7, "phases", "(II)I"⟩
abbrev cX7_yearOf : ByteArray := prog_9_method_55_code
def yX7_yearOf : MethodName := ⟨RX7, "yearOf", "(II)I"⟩
abbrev cX7_graveYear : ByteArray := prog_9_method_56_code
def yX7_graveYear : MethodName := ⟨RX7, "graveYear", "(II)I"⟩
abbrev cX7_years : ByteArray := prog_9_method_57_code
def yX7_years : MethodName := ⟨RX7, "years", "(III)I"⟩
abbrev cX7_gapsWith : ByteArray := prog_9_method_58_code
def yX7_gapsWith : MethodName := ⟨RX7, "gapsWith", "(IIZ)I"⟩
abbrev cX7_fresh : ByteArray := prog_9_method_59_code
def yX7_fresh : MethodName := ⟨RX7, "fresh", "(II)I"⟩
abbrev cX7_weightOf : ByteArray := prog_9_method_60_code
def yX7_weightOf : MethodName := ⟨RX7, "weightOf", "(I)I"⟩
abbrev cX7_alike : ByteArray := prog_9_method_61_code
def yX7_alike : MethodName := ⟨RX7, "alike", "(III)J"⟩
abbrev cX7_nearestNow : ByteArray := prog_9_method_62_code
def yX7_nearestNow : MethodName := ⟨RX7, "nearestNow", "(I)I"⟩
abbrev cX7_nearest : ByteArray := prog_9_method_63_code
def yX7_nearest : MethodName := ⟨RX7, "nearest", "(I)I"⟩
abbrev cX7_meets : ByteArray := prog_9_method_64_code
def yX7_meets : MethodName := ⟨RX7, "meets", "(I)I"⟩
abbrev cX7_isSheet : ByteArray := prog_9_method_65_code
def yX7_isSheet : MethodName := ⟨RX7, "isSheet", "(I)Z"⟩
abbrev cX7_sheet : ByteArray := prog_9_method_66_code
def yX7_sheet : MethodName := ⟨RX7, "sheet", "(III)I"⟩
abbrev cX7_lose : ByteArray := prog_9_method_67_code
def yX7_lose : MethodName := ⟨RX7, "lose", "(I)I"⟩
abbrev cX7_lacks : ByteArray := prog_9_method_68_code
def yX7_lacks : MethodName := ⟨RX7, "lacks", "(III)I"⟩
abbrev cX7_keep : ByteArray := prog_9_method_69_code
def yX7_keep : MethodName := ⟨RX7, "keep", "(III)V"⟩
abbrev cX7_put : ByteArray := prog_9_method_70_code
def yX7_put : MethodName := ⟨RX7, "put", "(IIII)I"⟩
abbrev cX7_get : ByteArray := prog_9_method_71_code
def yX7_get : MethodName := ⟨RX7, "get", "(III)I"⟩
abbrev cX7_copy : ByteArray := prog_9_method_72_code
def yX7_copy : MethodName := ⟨RX7, "copy", "(IIIII)I"⟩
abbrev cX7_write : ByteArray := prog_9_method_73_code
def yX7_write : MethodName := ⟨RX7, "write", "(I)I"⟩
abbrev cX7_countNow : ByteArray := prog_9_method_74_code
def yX7_countNow : MethodName := ⟨RX7, "countNow", "(I)I"⟩
abbrev cX7_count : ByteArray := prog_9_method_75_code
def yX7_count : MethodName := ⟨RX7, "count", "(I)I"⟩
abbrev cX7_digest : ByteArray := prog_9_method_76_code
def yX7_digest : MethodName := ⟨RX7, "digest", "()J"⟩
def RJ6 : String := "java/lang/Integer"
def TJ6 : u_T := fun k => match k with
  | _ => ("", "", "", false)
def tyJ6 : Nat → FieldType := fun k => match k with
  | _ => .int
theorem nmJ6 : ∀ a, a < 0 → ∀ b, b < 0 → a ≠ b → (TJ6 a).2.1 ≠ (TJ6 b).2.1 := by decide +kernel
theorem tyJ6_ok : ∀ k, k < 0 → parseFieldDescriptor (TJ6 k).2.2.1 = some (tyJ6 k) := by decide +kernel
abbrev cJ6_numberOfTrailingZeros_0f7a4 : ByteArray := prog_10_method_48_code
def yJ6_numberOfTrailingZeros_0f7a4 : MethodName := ⟨RJ6, "numberOfTrailingZeros", "(I)I"⟩
abbrev cJ6_bitCount_0f7a4 : ByteArray := prog_10_method_49_code
def yJ6_bitCount_0f7a4 : MethodName := ⟨RJ6, "bitCount", "(I)I"⟩
def RJ9 : String := "java/lang/Math"
def TJ9 : u_T := fun k => match k with
  | _ => ("", "", "", false)
def tyJ9 : Nat → FieldType := fun k => match k with
  | _ => .int
theorem nmJ9 : ∀ a, a < 0 → ∀ b, b < 0 → a ≠ b → (TJ9 a).2.1 ≠ (TJ9 b).2.1 := by decide +kernel
theorem tyJ9_ok : ∀ k, k < 0 → parseFieldDescriptor (TJ9 k).2.2.1 = some (tyJ9 k) := by decide +kernel
abbrev cJ9_max_7cf53 : ByteArray := prog_11_method_65_code
def yJ9_max_7cf53 : MethodName := ⟨RJ9, "max", "(II)I"⟩
abbrev cJ9_min_7cf53 : ByteArray := prog_11_method_69_code
def yJ9_min_7cf53 : MethodName := ⟨RJ9, "min", "(II)I"⟩
def RJ10 : String := "java/lang/System"
def TJ10 : u_T := fun k => match k with
  | _ => ("", "", "", false)
def tyJ10 : Nat → FieldType := fun k => match k with
  | _ => .int
theorem nmJ10 : ∀ a, a < 0 → ∀ b, b < 0 → a ≠ b → (TJ10 a).2.1 ≠ (TJ10 b).2.1 := by decide +kernel
theorem tyJ10_ok : ∀ k, k < 0 → parseFieldDescriptor (TJ10 k).2.2.1 = some (tyJ10 k) := by decide +kernel
def RL : String := "GraveOrderLaw"
def yL_law : MethodName := ⟨RL, "law", "([I)Z"⟩
abbrev vwCl : List vw_C := [(RX0, TX0, 5), (RX1, TX1, 4), (RX2, TX2, 2), (RX3, TX3, 16), (RX4, TX4, 4), (RX5, TX5, 9), (RX6, TX6, 8), (RX7, TX7, 40)]
end
section
/-! ENGINE: a walk at the level of 'what is on the locals, the stack and the store', over any world that is a function of a store -/
abbrev XSt : Type := Nat → Nat → Int32
def xst (S : XSt) (q i : Nat) (v : Int32) : XSt := fun q' => if q' = q then upd (S q) i v else S q'
abbrev XSr : Type := XSt × Int64
def xsr (S : XSr) (q i : Nat) (v : Int32) : XSr := (xst S.1 q i v, S.2)
def xsl (S : XSr) (v : Int64) : XSr := (S.1, v)
def xlet {α β : Type} (e : α) (F : α → β) : β := F e
def xin (i : Int32) (n : Nat) : Bool := !(decide (i < 0) || decide (n ≤ i.toNatClampNeg))
def xbool (v : Int32) : Bool := decide (v = 0) || decide (v = 1)
abbrev xti (i : Int32) : Nat := i.toNatClampNeg
theorem xin_in {i : Int32} {n : Nat} (h : xin i n = true) : vp_in i n := by
  intro hc
  simp only [xin, Bool.not_eq_true', Bool.or_eq_false_iff, decide_eq_false_iff_not] at h
  rcases hc with hc | hc
  · exact h.1 hc
  · exact h.2 hc
theorem xif_some {α : Type} {c : Prop} [Decidable c] {A : Option α} {o : α} (h : (if c then A else none) = some o) : c ∧ A = some o := by
  by_cases hc : c
  · rw [if_pos hc] at h; exact ⟨hc, h⟩
  · rw [if_neg hc] at h; cases h
theorem xbind_some {α β : Type} {x : Option α} {F : α → Option β} {o : β} (h : x.bind F = some o) : ∃ q, x = some q ∧ F q = some o := by
  cases x with
  | none => cases h
  | some q => exact ⟨q, rfl, h⟩
def xloop {τ ρ : Type} (body : (τ → Option ρ) → τ → Option ρ) : Nat → τ → Option ρ
  | 0, _ => none
  | n + 1, t => body (xloop body n) t
def xlp {τ ε ρ : Type} (Bd : (ε → Option ρ) → (τ → Option ρ) → τ → Option ρ) (k : ε → Option ρ) (n : Nat) (t : τ) : Option ρ := xloop (Bd k) n t
def XFU : Nat := 100000
theorem x_loop {τ ε ρ : Type} {Bd : (ε → Option ρ) → (τ → Option ρ) → τ → Option ρ} {k : ε → Option ρ} {o : ρ} {n : Nat} {t : τ} (E : ε → Prop) (P : τ → Prop) (h : xlp Bd k n t = some o) (hk : ∀ e, k e = some o → E e)
    (hb : ∀ (k' : ε → Option ρ) (rc : τ → Option ρ) (t : τ), (∀ e, k' e = some o → E e) → (∀ t', rc t' = some o → P t') → Bd k' rc t = some o → P t) : P t := by
  unfold xlp at h
  induction n generalizing t with
  | zero => cases h
  | succ n ih => exact hb k (xloop (Bd k) n) t hk (fun t' h' => ih h') h
theorem x_join {τ ρ : Type} {o : ρ} {J : τ → ρ} {F : (τ → ρ) → ρ} {G : Prop} (P : τ → Prop) (h : xlet J F = o) (hJ : ∀ t, J t = o → P t) (k : ∀ j : τ → ρ, (∀ t, j t = o → P t) → F j = o → G) : G := k J hJ h
def xtb : List Cond := lw_tbl.filter goodWord
theorem xtb_in {w : Cond} (i : Nat) (h : lw_tbl[i]? = some w) (g : goodWord w = true) : w ∈ xtb := List.mem_filter.mpr ⟨List.mem_of_getElem? h, g⟩
theorem xtb_ws (ws : List Cond) (ps : List Nat) (hp : ws = ps.filterMap (fun i => lw_tbl[i]?)) (h : ws.all goodWord = true) : ∀ w ∈ ws, w ∈ xtb := by
  intro w hw
  have h1 := List.all_eq_true.mp h w hw
  rw [hp] at hw
  obtain ⟨i, -, hi⟩ := List.mem_filterMap.mp hw
  exact xtb_in i hi h1
theorem xnar {v : Int32} (hz : xbool v = true) : narrow .boolean (.int v) = .int v := by
  simp only [xbool, Bool.or_eq_true, decide_eq_true_eq] at hz
  rcases hz with rfl | rfl <;> rfl
theorem xfit {v : Int32} (hz : xbool v = true) : fits .boolean (.int v) = true := by
  simp only [xbool, Bool.or_eq_true, decide_eq_true_eq] at hz
  rcases hz with rfl | rfl <;> rfl
theorem xtb_good {w c0 : Cond} (h : w ∈ xtb) : w ∈ c0 :: xtb ∧ ((w.onTables && w.keeps) = true ∨ ∃ ty, w = .arrayClass ty) := ⟨List.mem_cons_of_mem _ h, good_of_word (List.mem_filter.mp h).2⟩
abbrev XK : Type := Program × Env × State × MethodId × Array Value × List Frame × Method × Code
abbrev XW (σ : Type) : Type := va_G × (Nat → Prop) × List (ClassId × FieldType) × (σ → va_W)
abbrev XG (σ : Type) : Type := Launch × Room × XK × Nat × (Option Value × σ)
def xWd {σ : Type} (ω : XW σ) (S : σ) (U : State) : Prop := va_P ω.1 vwCl (ω.2.2.2 S) U.heap ∧ va_K ω.1 vwCl ω.2.2.1 U ∧ va_D ω.2.1 (ω.2.2.2 S)
def xQ {σ : Type} (ω : XW σ) (out : Option Value × σ) : Array Value → State → Outcome → State → Prop := fun _ st oc t => oc = .returned out.1 ∧ xWd ω out.2 t ∧ va_F ω.2.1 st t
def XAt {σ : Type} (ω : XW σ) (Γ : XG σ) (pc : Nat) (lv : List (Nat × Value)) (vs : List Value) (S : σ) : Prop := match Γ with
  | (l, R, (p, e, s, m, args, below, meth, c), nL, out) => ∀ (H : Heap) (locs : List Loc) (ls : Array Slot), va_P ω.1 vwCl (ω.2.2.2 S) H → va_D ω.2.1 (ω.2.2.2 S) → va_S ω.2.1 s.heap H locs → lv_has ls nL lv →
    W p l e R s m args below meth c H locs 0 0 (MQ below (xQ ω out) args s 0 0 ω.2.1) (F0 m pc ls vs)
def Cx {σ : Type} (ω : XW σ) (Γ : XG σ) (cc : ByteArray) (own : String) (ret : Option FieldType) (l0 : Launch) (rm : Room) (nL0 : Nat) (out0 : Option Value × σ) : Prop := match Γ with
  | (l, R, (p, _, s, m, args, _, meth, c), nL, out) => (p.tables.exec = Jvm.exec ∧ c.code = cc ∧ c.maxLocals = nL ∧ s.vm.findClass own = some m.cls ∧ (∀ w ∈ xtb, w.before args s = true)) ∧ meth.locks = false ∧ meth.sig.returnType = ret ∧ va_K ω.1 vwCl ω.2.2.1 s ∧ l = l0 ∧ R = rm ∧ nL = nL0 ∧ out = out0
/-- a method's contract: from the store S to the answer and the store of out -/
def xM {σ : Type} (l : Launch) (ω : XW σ) (y : MethodName) (cc : ByteArray) (n : Nat) (ret : Option FieldType) (rm : Room) (av : List Value) (S : σ) (out : Option Value × σ) : Prop :=
  Met l y (.code y cc n ret :: xtb) rm (va_Pc av (xWd ω S)) (xQ ω out) 0 0 ω.2.1
theorem xM_of {σ : Type} {l : Launch} {ω : XW σ} {y : MethodName} {cc : ByteArray} {n : Nat} {ret : Option FieldType} {rm : Room} {av : List Value} {S : σ} {out : Option Value × σ} {own : String} (hy : plainName y.cls = true) (ho : y.cls = own) (hn : (lg_sl av).length ≤ n)
    (k : ∀ Γ : XG σ, Cx ω Γ cc own ret l rm n out → XAt ω Γ 0 (lv_args 0 av) [] S) : xM l ω y cc n ret rm av S out := by
  refine Met.ofW (cc := cc) (maxL := n) (ret := ret) hy rfl ?_
  intro p e s m args below meth c s₁ B hml hv
  obtain ⟨rfl, hP, hK, hD⟩ := hv
  have hts := atoms_spec (ws := .code y cc n ret :: xtb) B.pre
  have hown : s.vm.findClass own = some m.cls := by rw [← ho]; exact findClass_of_methodNamed B.named
  have hl := lv_entry av (n := n) hn
  rw [lg_entry_eq]
  exact k (l, rm, (p, e, s, m, av.toArray, below, meth, c), n, out) ⟨⟨B.exec, B.bytes, hml, hown, fun w hw => hts w (List.mem_cons_of_mem _ hw)⟩, B.notSynchronized, B.returns, hK, rfl, rfl, rfl, rfl⟩ s.heap [] _ hP hD va_S.rf hl
section XR
variable {σ : Type} {ω : XW σ} {Γ : XG σ} {cc : ByteArray} {own : String} {ret : Option FieldType} {l0 : Launch} {rm : Room} {nL0 : Nat} {out0 : Option Value × σ} {lv : List (Nat × Value)} {vs : List Value} {S : σ}
theorem x_sub (pc : Nat) {lv' : List (Nat × Value)} (ks : List Nat) (hl : lv_pick lv ks = lv') (k : XAt ω Γ pc lv' vs S) : XAt ω Γ pc lv vs S := by
  obtain ⟨l, R, ⟨p, e, s, m, args, below, meth, c⟩, nL, out⟩ := Γ
  exact fun H locs ls hP hD hS hv => k H locs ls hP hD hS (lv_sub hv ks hl)
theorem x_top {ρ : Type} {o : ρ} {x : Int32} {F : Int32 → ρ} {pc : Nat} (h : xlet x F = o) (k : ∀ y : Int32, F y = o → XAt ω Γ pc lv (.int y :: vs) S) : XAt ω Γ pc lv (.int x :: vs) S := k x h
theorem x_topS {ρ : Type} {o : ρ} {x : σ} {F : σ → ρ} {pc : Nat} (h : xlet x F = o) (k : ∀ y : σ, F y = o → XAt ω Γ pc lv vs y) : XAt ω Γ pc lv vs x := k x h
theorem x_topl {ρ : Type} {o : ρ} {x : Int64} {F : Int64 → ρ} {pc : Nat} (h : xlet x F = o) (k : ∀ y : Int64, F y = o → XAt ω Γ pc lv (.long y :: vs) S) : XAt ω Γ pc lv (.long x :: vs) S := k x h
theorem x_iconst (pc : Nat) (C : Cx ω Γ cc own ret l0 rm nL0 out0) {n : Int} {v : Int32} (hd : decode cc pc = .ok (.iconst n, 1)) (hv : Int32.ofInt n = v) (k : XAt ω Γ (pc + 1) lv (.int v :: vs) S) : XAt ω Γ pc lv vs S := by
  obtain ⟨l, R, ⟨p, e, s, m, args, below, meth, c⟩, nL, out⟩ := Γ
  exact fun H locs ls hP hD hS hl => lv_iconst C.1.1 C.1.2.1 hd hv (k H locs ls hP hD hS hl)
theorem x_bipush (pc : Nat) (C : Cx ω Γ cc own ret l0 rm nL0 out0) {n : Int} {v : Int32} (hd : decode cc pc = .ok (.bipush n, 2)) (hv : (Int8.ofInt n).toInt32 = v) (k : XAt ω Γ (pc + 2) lv (.int v :: vs) S) : XAt ω Γ pc lv vs S := by
  obtain ⟨l, R, ⟨p, e, s, m, args, below, meth, c⟩, nL, out⟩ := Γ
  exact fun H locs ls hP hD hS hl => lv_bipush C.1.1 C.1.2.1 hd hv (k H locs ls hP hD hS hl)
theorem x_sipush (pc : Nat) (C : Cx ω Γ cc own ret l0 rm nL0 out0) {n : Int} {v : Int32} (hd : decode cc pc = .ok (.sipush n, 3)) (hv : (Int16.ofInt n).toInt32 = v) (k : XAt ω Γ (pc + 3) lv (.int v :: vs) S) : XAt ω Γ pc lv vs S := by
  obtain ⟨l, R, ⟨p, e, s, m, args, below, meth, c⟩, nL, out⟩ := Γ
  exact fun H locs ls hP hD hS hl => lv_sipush C.1.1 C.1.2.1 hd hv (k H locs ls hP hD hS hl)
theorem x_lconst (pc : Nat) (C : Cx ω Γ cc own ret l0 rm nL0 out0) {n : Fin 2} {v : Int64} (hd : decode cc pc = .ok (.lconst n, 1)) (hv : Int64.ofNat (n : Nat) = v) (k : XAt ω Γ (pc + 1) lv (.long v :: vs) S) : XAt ω Γ pc lv vs S := by
  obtain ⟨l, R, ⟨p, e, s, m, args, below, meth, c⟩, nL, out⟩ := Γ
  exact fun H locs ls hP hD hS hl => lv_lconst C.1.1 C.1.2.1 hd hv (k H locs ls hP hD hS hl)
theorem x_ldc (pc : Nat) (C : Cx ω Γ cc own ret l0 rm nL0 out0) {index : Nat} {v : Int32} (hw : Cond.constant own index v ∈ xtb) (hd : decode cc pc = .ok (.ldc index, 2)) (k : XAt ω Γ (pc + 2) lv (.int v :: vs) S) : XAt ω Γ pc lv vs S := by
  obtain ⟨l, R, ⟨p, e, s, m, args, below, meth, c⟩, nL, out⟩ := Γ
  exact fun H locs ls hP hD hS hl => lv_ldc C.1.1 C.1.2.1 C.1.2.2.2.1 (C.1.2.2.2.2 _ hw) hd (k H locs ls hP hD hS hl)
theorem x_ldcw (pc : Nat) (C : Cx ω Γ cc own ret l0 rm nL0 out0) {index : Nat} {v : Int32} (hw : Cond.constant own index v ∈ xtb) (hd : decode cc pc = .ok (.ldc_w index, 3)) (k : XAt ω Γ (pc + 3) lv (.int v :: vs) S) : XAt ω Γ pc lv vs S := by
  obtain ⟨l, R, ⟨p, e, s, m, args, below, meth, c⟩, nL, out⟩ := Γ
  exact fun H locs ls hP hD hS hl => lv_ldcw C.1.1 C.1.2.1 C.1.2.2.2.1 (C.1.2.2.2.2 _ hw) hd (k H locs ls hP hD hS hl)
theorem x_ldc2 (pc : Nat) (C : Cx ω Γ cc own ret l0 rm nL0 out0) {index : Nat} {v : Int64} (hw : Cond.constantLong own index v ∈ xtb) (hd : decode cc pc = .ok (.ldc2_w index, 3)) (k : XAt ω Γ (pc + 3) lv (.long v :: vs) S) : XAt ω Γ pc lv vs S := by
  obtain ⟨l, R, ⟨p, e, s, m, args, below, meth, c⟩, nL, out⟩ := Γ
  exact fun H locs ls hP hD hS hl => lv_ldc2 C.1.1 C.1.2.1 C.1.2.2.2.1 (C.1.2.2.2.2 _ hw) hd (k H locs ls hP hD hS hl)
theorem x_iload_n (pc : Nat) (C : Cx ω Γ cc own ret l0 rm nL0 out0) {n : Fin 4} {i : Nat} {x : Int32} (hd : decode cc pc = .ok (.iload_n n, 1)) (hi : (n : Nat) = i) (j : Nat) (hj : lv[j]? = some (i, .int x)) (k : XAt ω Γ (pc + 1) lv (.int x :: vs) S) : XAt ω Γ pc lv vs S := by
  obtain ⟨l, R, ⟨p, e, s, m, args, below, meth, c⟩, nL, out⟩ := Γ
  exact fun H locs ls hP hD hS hl => lv_iload_n C.1.1 C.1.2.1 hd hi (lv_at hl j hj) (k H locs ls hP hD hS hl)
theorem x_iload (pc : Nat) (C : Cx ω Γ cc own ret l0 rm nL0 out0) {i : Nat} {x : Int32} (hd : decode cc pc = .ok (.iload i, 2)) (j : Nat) (hj : lv[j]? = some (i, .int x)) (k : XAt ω Γ (pc + 2) lv (.int x :: vs) S) : XAt ω Γ pc lv vs S := by
  obtain ⟨l, R, ⟨p, e, s, m, args, below, meth, c⟩, nL, out⟩ := Γ
  exact fun H locs ls hP hD hS hl => lv_iload C.1.1 C.1.2.1 hd (lv_at hl j hj) (k H locs ls hP hD hS hl)
theorem x_lload_n (pc : Nat) (C : Cx ω Γ cc own ret l0 rm nL0 out0) {n : Fin 4} {i : Nat} {x : Int64} (hd : decode cc pc = .ok (.lload_n n, 1)) (hi : (n : Nat) = i) (j : Nat) (hj : lv[j]? = some (i, .long x)) (k : XAt ω Γ (pc + 1) lv (.long x :: vs) S) : XAt ω Γ pc lv vs S := by
  obtain ⟨l, R, ⟨p, e, s, m, args, below, meth, c⟩, nL, out⟩ := Γ
  exact fun H locs ls hP hD hS hl => lv_lload_n C.1.1 C.1.2.1 hd hi (lv_at hl j hj) (k H locs ls hP hD hS hl)
theorem x_lload (pc : Nat) (C : Cx ω Γ cc own ret l0 rm nL0 out0) {i : Nat} {x : Int64} (hd : decode cc pc = .ok (.lload i, 2)) (j : Nat) (hj : lv[j]? = some (i, .long x)) (k : XAt ω Γ (pc + 2) lv (.long x :: vs) S) : XAt ω Γ pc lv vs S := by
  obtain ⟨l, R, ⟨p, e, s, m, args, below, meth, c⟩, nL, out⟩ := Γ
  exact fun H locs ls hP hD hS hl => lv_lload C.1.1 C.1.2.1 hd (lv_at hl j hj) (k H locs ls hP hD hS hl)
theorem x_aload_n (pc : Nat) (C : Cx ω Γ cc own ret l0 rm nL0 out0) {n : Fin 4} {i : Nat} {x : Nat} (hd : decode cc pc = .ok (.aload_n n, 1)) (hi : (n : Nat) = i) (j : Nat) (hj : lv[j]? = some (i, .ref x)) (k : XAt ω Γ (pc + 1) lv (.ref x :: vs) S) : XAt ω Γ pc lv vs S := by
  obtain ⟨l, R, ⟨p, e, s, m, args, below, meth, c⟩, nL, out⟩ := Γ
  exact fun H locs ls hP hD hS hl => lv_aload_n C.1.1 C.1.2.1 hd hi (lv_at hl j hj) (k H locs ls hP hD hS hl)
theorem x_aload (pc : Nat) (C : Cx ω Γ cc own ret l0 rm nL0 out0) {i : Nat} {x : Nat} (hd : decode cc pc = .ok (.aload i, 2)) (j : Nat) (hj : lv[j]? = some (i, .ref x)) (k : XAt ω Γ (pc + 2) lv (.ref x :: vs) S) : XAt ω Γ pc lv vs S := by
  obtain ⟨l, R, ⟨p, e, s, m, args, below, meth, c⟩, nL, out⟩ := Γ
  exact fun H locs ls hP hD hS hl => lv_aload C.1.1 C.1.2.1 hd (lv_at hl j hj) (k H locs ls hP hD hS hl)
/-- the locals behind a store of one word, of two words -/
def xl1 (lv : List (Nat × Value)) (i : Nat) (v : Value) : List (Nat × Value) := (i, v) :: lv.filter (fun q => !(q.1 == i) && !(q.1 + 1 == i && q.2.category == 2))
def xl2 (lv : List (Nat × Value)) (i : Nat) (v : Value) : List (Nat × Value) := (i, v) :: lv.filter (fun q => !(q.1 == i) && (!(q.1 == i + 1) && !(q.1 + 1 == i && q.2.category == 2)))
theorem x_istore_n (pc : Nat) (C : Cx ω Γ cc own ret l0 rm nL0 out0) {n : Fin 4} {i : Nat} {x : Int32} {lv' : List (Nat × Value)} (hd : decode cc pc = .ok (.istore_n n, 1)) (hi : (n : Nat) = i) (hn : i < nL0) (ks : List Nat) (hl' : lv_pick (xl1 lv i (.int x)) ks = lv') (k : XAt ω Γ (pc + 1) lv' vs S) : XAt ω Γ pc lv (.int x :: vs) S := by
  obtain ⟨l, R, ⟨p, e, s, m, args, below, meth, c⟩, nL, out⟩ := Γ
  exact fun H locs ls hP hD hS hl => lv_istore_n C.1.1 C.1.2.1 hd hi hl (by rw [C.2.2.2.2.2.2.1]; exact hn) rfl (fun ls hl => k H locs ls hP hD hS (lv_sub hl ks hl'))
theorem x_istore (pc : Nat) (C : Cx ω Γ cc own ret l0 rm nL0 out0) {i : Nat} {x : Int32} {lv' : List (Nat × Value)} (hd : decode cc pc = .ok (.istore i, 2)) (hn : i < nL0) (ks : List Nat) (hl' : lv_pick (xl1 lv i (.int x)) ks = lv') (k : XAt ω Γ (pc + 2) lv' vs S) : XAt ω Γ pc lv (.int x :: vs) S := by
  obtain ⟨l, R, ⟨p, e, s, m, args, below, meth, c⟩, nL, out⟩ := Γ
  exact fun H locs ls hP hD hS hl => lv_istore C.1.1 C.1.2.1 hd hl (by rw [C.2.2.2.2.2.2.1]; exact hn) rfl (fun ls hl => k H locs ls hP hD hS (lv_sub hl ks hl'))
theorem x_lstore_n (pc : Nat) (C : Cx ω Γ cc own ret l0 rm nL0 out0) {n : Fin 4} {i : Nat} {x : Int64} {lv' : List (Nat × Value)} (hd : decode cc pc = .ok (.lstore_n n, 1)) (hi : (n : Nat) = i) (hn : i + 1 < nL0) (ks : List Nat) (hl' : lv_pick (xl2 lv i (.long x)) ks = lv') (k : XAt ω Γ (pc + 1) lv' vs S) : XAt ω Γ pc lv (.long x :: vs) S := by
  obtain ⟨l, R, ⟨p, e, s, m, args, below, meth, c⟩, nL, out⟩ := Γ
  exact fun H locs ls hP hD hS hl => lv_lstore_n C.1.1 C.1.2.1 hd hi hl (by rw [C.2.2.2.2.2.2.1]; exact hn) rfl (fun ls hl => k H locs ls hP hD hS (lv_sub hl ks hl'))
theorem x_lstore (pc : Nat) (C : Cx ω Γ cc own ret l0 rm nL0 out0) {i : Nat} {x : Int64} {lv' : List (Nat × Value)} (hd : decode cc pc = .ok (.lstore i, 2)) (hn : i + 1 < nL0) (ks : List Nat) (hl' : lv_pick (xl2 lv i (.long x)) ks = lv') (k : XAt ω Γ (pc + 2) lv' vs S) : XAt ω Γ pc lv (.long x :: vs) S := by
  obtain ⟨l, R, ⟨p, e, s, m, args, below, meth, c⟩, nL, out⟩ := Γ
  exact fun H locs ls hP hD hS hl => lv_lstore C.1.1 C.1.2.1 hd hl (by rw [C.2.2.2.2.2.2.1]; exact hn) rfl (fun ls hl => k H locs ls hP hD hS (lv_sub hl ks hl'))
theorem x_iinc {ρ : Type} {o : ρ} {F : Int32 → ρ} (pc : Nat) (C : Cx ω Γ cc own ret l0 rm nL0 out0) {i : Nat} {n : Int} {x w : Int32} {L : Int32 → List (Nat × Value)} (hd : decode cc pc = .ok (.iinc i n, 3)) (j : Nat) (hj : lv[j]? = some (i, .int x)) (hw : Int32.ofInt n = w) (hn : i < nL0) (ks : List Nat) (hl' : ∀ v, lv_pick (xl1 lv i (.int v)) ks = L v) (h : xlet (x + w) F = o) (k : ∀ v, F v = o → XAt ω Γ (pc + 3) (L v) vs S) : XAt ω Γ pc lv vs S := by
  obtain ⟨l, R, ⟨p, e, s, m, args, below, meth, c⟩, nL, out⟩ := Γ
  exact fun H locs ls hP hD hS hl => lv_iinc C.1.1 C.1.2.1 (v := x + w) hd hl hj (by rw [hw]) (by rw [C.2.2.2.2.2.2.1]; exact hn) rfl (fun ls hl => k _ h H locs ls hP hD hS (lv_sub hl ks (hl' _)))
end XR
end
section
section XR2
variable {σ : Type} {ω : XW σ} {Γ : XG σ} {cc : ByteArray} {own : String} {ret : Option FieldType} {l0 : Launch} {rm : Room} {nL0 : Nat} {out0 : Option Value × σ} {lv : List (Nat × Value)} {vs : List Value} {S : σ}
theorem x_iadd (pc : Nat) (C : Cx ω Γ cc own ret l0 rm nL0 out0) {x y : Int32} (hd : decode cc pc = .ok (.iadd, 1)) (k : XAt ω Γ (pc + 1) lv (.int (x + y) :: vs) S) : XAt ω Γ pc lv (.int y :: .int x :: vs) S := by
  obtain ⟨l, R, ⟨p, e, s, m, args, below, meth, c⟩, nL, out⟩ := Γ
  exact fun H locs ls hP hD hS hl => lv_iadd C.1.1 C.1.2.1 hd (k H locs ls hP hD hS hl)
theorem x_isub (pc : Nat) (C : Cx ω Γ cc own ret l0 rm nL0 out0) {x y : Int32} (hd : decode cc pc = .ok (.isub, 1)) (k : XAt ω Γ (pc + 1) lv (.int (x - y) :: vs) S) : XAt ω Γ pc lv (.int y :: .int x :: vs) S := by
  obtain ⟨l, R, ⟨p, e, s, m, args, below, meth, c⟩, nL, out⟩ := Γ
  exact fun H locs ls hP hD hS hl => lv_isub C.1.1 C.1.2.1 hd (k H locs ls hP hD hS hl)
theorem x_imul (pc : Nat) (C : Cx ω Γ cc own ret l0 rm nL0 out0) {x y : Int32} (hd : decode cc pc = .ok (.imul, 1)) (k : XAt ω Γ (pc + 1) lv (.int (x * y) :: vs) S) : XAt ω Γ pc lv (.int y :: .int x :: vs) S := by
  obtain ⟨l, R, ⟨p, e, s, m, args, below, meth, c⟩, nL, out⟩ := Γ
  exact fun H locs ls hP hD hS hl => lv_imul C.1.1 C.1.2.1 hd (k H locs ls hP hD hS hl)
theorem x_iand (pc : Nat) (C : Cx ω Γ cc own ret l0 rm nL0 out0) {x y : Int32} (hd : decode cc pc = .ok (.iand, 1)) (k : XAt ω Γ (pc + 1) lv (.int (x &&& y) :: vs) S) : XAt ω Γ pc lv (.int y :: .int x :: vs) S := by
  obtain ⟨l, R, ⟨p, e, s, m, args, below, meth, c⟩, nL, out⟩ := Γ
  exact fun H locs ls hP hD hS hl => lv_iand C.1.1 C.1.2.1 hd (k H locs ls hP hD hS hl)
theorem x_ior (pc : Nat) (C : Cx ω Γ cc own ret l0 rm nL0 out0) {x y : Int32} (hd : decode cc pc = .ok (.ior, 1)) (k : XAt ω Γ (pc + 1) lv (.int (x ||| y) :: vs) S) : XAt ω Γ pc lv (.int y :: .int x :: vs) S := by
  obtain ⟨l, R, ⟨p, e, s, m, args, below, meth, c⟩, nL, out⟩ := Γ
  exact fun H locs ls hP hD hS hl => lv_ior C.1.1 C.1.2.1 hd (k H locs ls hP hD hS hl)
theorem x_ixor (pc : Nat) (C : Cx ω Γ cc own ret l0 rm nL0 out0) {x y : Int32} (hd : decode cc pc = .ok (.ixor, 1)) (k : XAt ω Γ (pc + 1) lv (.int (x ^^^ y) :: vs) S) : XAt ω Γ pc lv (.int y :: .int x :: vs) S := by
  obtain ⟨l, R, ⟨p, e, s, m, args, below, meth, c⟩, nL, out⟩ := Γ
  exact fun H locs ls hP hD hS hl => lv_ixor C.1.1 C.1.2.1 hd (k H locs ls hP hD hS hl)
theorem x_ishl (pc : Nat) (C : Cx ω Γ cc own ret l0 rm nL0 out0) {x y : Int32} (hd : decode cc pc = .ok (.ishl, 1)) (k : XAt ω Γ (pc + 1) lv (.int (x <<< (y &&& 31)) :: vs) S) : XAt ω Γ pc lv (.int y :: .int x :: vs) S := by
  obtain ⟨l, R, ⟨p, e, s, m, args, below, meth, c⟩, nL, out⟩ := Γ
  exact fun H locs ls hP hD hS hl => lv_ishl C.1.1 C.1.2.1 hd (k H locs ls hP hD hS hl)
theorem x_ishr (pc : Nat) (C : Cx ω Γ cc own ret l0 rm nL0 out0) {x y : Int32} (hd : decode cc pc = .ok (.ishr, 1)) (k : XAt ω Γ (pc + 1) lv (.int (x >>> (y &&& 31)) :: vs) S) : XAt ω Γ pc lv (.int y :: .int x :: vs) S := by
  obtain ⟨l, R, ⟨p, e, s, m, args, below, meth, c⟩, nL, out⟩ := Γ
  exact fun H locs ls hP hD hS hl => lv_ishr C.1.1 C.1.2.1 hd (k H locs ls hP hD hS hl)
theorem x_ladd (pc : Nat) (C : Cx ω Γ cc own ret l0 rm nL0 out0) {x y : Int64} (hd : decode cc pc = .ok (.ladd, 1)) (k : XAt ω Γ (pc + 1) lv (.long (x + y) :: vs) S) : XAt ω Γ pc lv (.long y :: .long x :: vs) S := by
  obtain ⟨l, R, ⟨p, e, s, m, args, below, meth, c⟩, nL, out⟩ := Γ
  exact fun H locs ls hP hD hS hl => lv_ladd C.1.1 C.1.2.1 hd (k H locs ls hP hD hS hl)
theorem x_lsub (pc : Nat) (C : Cx ω Γ cc own ret l0 rm nL0 out0) {x y : Int64} (hd : decode cc pc = .ok (.lsub, 1)) (k : XAt ω Γ (pc + 1) lv (.long (x - y) :: vs) S) : XAt ω Γ pc lv (.long y :: .long x :: vs) S := by
  obtain ⟨l, R, ⟨p, e, s, m, args, below, meth, c⟩, nL, out⟩ := Γ
  exact fun H locs ls hP hD hS hl => lv_lsub C.1.1 C.1.2.1 hd (k H locs ls hP hD hS hl)
theorem x_lmul (pc : Nat) (C : Cx ω Γ cc own ret l0 rm nL0 out0) {x y : Int64} (hd : decode cc pc = .ok (.lmul, 1)) (k : XAt ω Γ (pc + 1) lv (.long (x * y) :: vs) S) : XAt ω Γ pc lv (.long y :: .long x :: vs) S := by
  obtain ⟨l, R, ⟨p, e, s, m, args, below, meth, c⟩, nL, out⟩ := Γ
  exact fun H locs ls hP hD hS hl => lv_lmul C.1.1 C.1.2.1 hd (k H locs ls hP hD hS hl)
theorem x_idiv (pc : Nat) (C : Cx ω Γ cc own ret l0 rm nL0 out0) {x y : Int32} (hne : ¬ y = 0) (hd : decode cc pc = .ok (.idiv, 1)) (k : XAt ω Γ (pc + 1) lv (.int (x / y) :: vs) S) : XAt ω Γ pc lv (.int y :: .int x :: vs) S := by
  obtain ⟨l, R, ⟨p, e, s, m, args, below, meth, c⟩, nL, out⟩ := Γ
  exact fun H locs ls hP hD hS hl => lv_idiv C.1.1 C.1.2.1 hd hne (k H locs ls hP hD hS hl)
theorem x_irem (pc : Nat) (C : Cx ω Γ cc own ret l0 rm nL0 out0) {x y : Int32} (hne : ¬ y = 0) (hd : decode cc pc = .ok (.irem, 1)) (k : XAt ω Γ (pc + 1) lv (.int (x - x / y * y) :: vs) S) : XAt ω Γ pc lv (.int y :: .int x :: vs) S := by
  obtain ⟨l, R, ⟨p, e, s, m, args, below, meth, c⟩, nL, out⟩ := Γ
  exact fun H locs ls hP hD hS hl => lv_irem C.1.1 C.1.2.1 hd hne (k H locs ls hP hD hS hl)
theorem x_ldiv (pc : Nat) (C : Cx ω Γ cc own ret l0 rm nL0 out0) {x y : Int64} (hne : ¬ y = 0) (hd : decode cc pc = .ok (.ldiv, 1)) (k : XAt ω Γ (pc + 1) lv (.long (x / y) :: vs) S) : XAt ω Γ pc lv (.long y :: .long x :: vs) S := by
  obtain ⟨l, R, ⟨p, e, s, m, args, below, meth, c⟩, nL, out⟩ := Γ
  exact fun H locs ls hP hD hS hl => lv_ldiv C.1.1 C.1.2.1 hd hne (k H locs ls hP hD hS hl)
theorem x_lrem (pc : Nat) (C : Cx ω Γ cc own ret l0 rm nL0 out0) {x y : Int64} (hne : ¬ y = 0) (hd : decode cc pc = .ok (.lrem, 1)) (k : XAt ω Γ (pc + 1) lv (.long (x - x / y * y) :: vs) S) : XAt ω Γ pc lv (.long y :: .long x :: vs) S := by
  obtain ⟨l, R, ⟨p, e, s, m, args, below, meth, c⟩, nL, out⟩ := Γ
  exact fun H locs ls hP hD hS hl => lv_lrem C.1.1 C.1.2.1 hd hne (k H locs ls hP hD hS hl)
def xushr (x y : Int32) : Int32 := (x.toUInt32 >>> (y.toUInt32 &&& Int32.toUInt32 31)).toInt32
theorem x_iushr (pc : Nat) (C : Cx ω Γ cc own ret l0 rm nL0 out0) {x y : Int32} (hd : decode cc pc = .ok (.iushr, 1)) (k : XAt ω Γ (pc + 1) lv (.int (xushr x y) :: vs) S) : XAt ω Γ pc lv (.int y :: .int x :: vs) S := by
  obtain ⟨l, R, ⟨p, e, s, m, args, below, meth, c⟩, nL, out⟩ := Γ
  exact fun H locs ls hP hD hS hl => lv_iushr C.1.1 C.1.2.1 hd rfl (k H locs ls hP hD hS hl)
theorem x_ineg (pc : Nat) (C : Cx ω Γ cc own ret l0 rm nL0 out0) {x : Int32} (hd : decode cc pc = .ok (.ineg, 1)) (k : XAt ω Γ (pc + 1) lv (.int (-x) :: vs) S) : XAt ω Γ pc lv (.int x :: vs) S := by
  obtain ⟨l, R, ⟨p, e, s, m, args, below, meth, c⟩, nL, out⟩ := Γ
  exact fun H locs ls hP hD hS hl => lv_ineg C.1.1 C.1.2.1 hd (k H locs ls hP hD hS hl)
theorem x_i2l (pc : Nat) (C : Cx ω Γ cc own ret l0 rm nL0 out0) {x : Int32} (hd : decode cc pc = .ok (.i2l, 1)) (k : XAt ω Γ (pc + 1) lv (.long (x.toInt64) :: vs) S) : XAt ω Γ pc lv (.int x :: vs) S := by
  obtain ⟨l, R, ⟨p, e, s, m, args, below, meth, c⟩, nL, out⟩ := Γ
  exact fun H locs ls hP hD hS hl => lv_i2l C.1.1 C.1.2.1 hd rfl (k H locs ls hP hD hS hl)
theorem x_l2i (pc : Nat) (C : Cx ω Γ cc own ret l0 rm nL0 out0) {x : Int64} (hd : decode cc pc = .ok (.l2i, 1)) (k : XAt ω Γ (pc + 1) lv (.int (x.toInt32) :: vs) S) : XAt ω Γ pc lv (.long x :: vs) S := by
  obtain ⟨l, R, ⟨p, e, s, m, args, below, meth, c⟩, nL, out⟩ := Γ
  exact fun H locs ls hP hD hS hl => lv_l2i C.1.1 C.1.2.1 hd rfl (k H locs ls hP hD hS hl)
theorem x_i2b (pc : Nat) (C : Cx ω Γ cc own ret l0 rm nL0 out0) {x : Int32} (hd : decode cc pc = .ok (.i2b, 1)) (k : XAt ω Γ (pc + 1) lv (.int (x.toInt8.toInt32) :: vs) S) : XAt ω Γ pc lv (.int x :: vs) S := by
  obtain ⟨l, R, ⟨p, e, s, m, args, below, meth, c⟩, nL, out⟩ := Γ
  exact fun H locs ls hP hD hS hl => lv_i2b C.1.1 C.1.2.1 hd rfl (k H locs ls hP hD hS hl)
theorem x_i2s (pc : Nat) (C : Cx ω Γ cc own ret l0 rm nL0 out0) {x : Int32} (hd : decode cc pc = .ok (.i2s, 1)) (k : XAt ω Γ (pc + 1) lv (.int (x.toInt16.toInt32) :: vs) S) : XAt ω Γ pc lv (.int x :: vs) S := by
  obtain ⟨l, R, ⟨p, e, s, m, args, below, meth, c⟩, nL, out⟩ := Γ
  exact fun H locs ls hP hD hS hl => lv_i2s C.1.1 C.1.2.1 hd rfl (k H locs ls hP hD hS hl)
theorem x_lcmp (pc : Nat) (C : Cx ω Γ cc own ret l0 rm nL0 out0) {x y : Int64} (hd : decode cc pc = .ok (.lcmp, 1)) (k : XAt ω Γ (pc + 1) lv (.int (lg_cmp x y) :: vs) S) : XAt ω Γ pc lv (.long y :: .long x :: vs) S := by
  obtain ⟨l, R, ⟨p, e, s, m, args, below, meth, c⟩, nL, out⟩ := Γ
  exact fun H locs ls hP hD hS hl => W.lcmp C.1.1 C.1.2.1 hd (k H locs ls hP hD hS hl)
theorem x_dup (pc : Nat) (C : Cx ω Γ cc own ret l0 rm nL0 out0) {v : Value} (hd : decode cc pc = .ok (.dup, 1)) (h1 : v.category = 1) (k : XAt ω Γ (pc + 1) lv (v :: v :: vs) S) : XAt ω Γ pc lv (v :: vs) S := by
  obtain ⟨l, R, ⟨p, e, s, m, args, below, meth, c⟩, nL, out⟩ := Γ
  exact fun H locs ls hP hD hS hl => lv_dup C.1.1 C.1.2.1 hd h1 (k H locs ls hP hD hS hl)
theorem x_pop (pc : Nat) (C : Cx ω Γ cc own ret l0 rm nL0 out0) {v : Value} (hd : decode cc pc = .ok (.pop, 1)) (h1 : v.category = 1) (k : XAt ω Γ (pc + 1) lv vs S) : XAt ω Γ pc lv (v :: vs) S := by
  obtain ⟨l, R, ⟨p, e, s, m, args, below, meth, c⟩, nL, out⟩ := Γ
  exact fun H locs ls hP hD hS hl => lv_pop C.1.1 C.1.2.1 hd h1 (k H locs ls hP hD hS hl)
theorem x_dup2 (pc : Nat) (C : Cx ω Γ cc own ret l0 rm nL0 out0) {v w : Value} (hd : decode cc pc = .ok (.dup2, 1)) (h1 : v.category = 1) (h2 : w.category = 1) (k : XAt ω Γ (pc + 1) lv (v :: w :: v :: w :: vs) S) : XAt ω Γ pc lv (v :: w :: vs) S := by
  obtain ⟨l, R, ⟨p, e, s, m, args, below, meth, c⟩, nL, out⟩ := Γ
  exact fun H locs ls hP hD hS hl => lv_dup2_11 C.1.1 C.1.2.1 hd h1 h2 (k H locs ls hP hD hS hl)
theorem x_goto (pc : Nat) (C : Cx ω Γ cc own ret l0 rm nL0 out0) {off : Int} (tgt : Nat) (hd : decode cc pc = .ok (.goto off, 3)) (ht : (pc : Int) + off = (tgt : Int)) (k : XAt ω Γ tgt lv vs S) : XAt ω Γ pc lv vs S := by
  obtain ⟨l, R, ⟨p, e, s, m, args, below, meth, c⟩, nL, out⟩ := Γ
  exact fun H locs ls hP hD hS hl => lv_goto C.1.1 C.1.2.1 hd ht (k H locs ls hP hD hS hl)
theorem x_if_eq {ρ : Type} {o A B : ρ} (pc : Nat) (C : Cx ω Γ cc own ret l0 rm nL0 out0) {x : Int32} {off : Int} (tgt : Nat) (hd : decode cc pc = .ok (.ifCond .eq off, 3)) (ht : (pc : Int) + off = (tgt : Int)) (h : (if x = 0 then A else B) = o) (kt : A = o → XAt ω Γ tgt lv vs S) (kf : B = o → XAt ω Γ (pc + 3) lv vs S) : XAt ω Γ pc lv (.int x :: vs) S := by
  obtain ⟨l, R, ⟨p, e, s, m, args, below, meth, c⟩, nL, out⟩ := Γ
  exact fun H locs ls hP hD hS hl => lv_if_eq C.1.1 C.1.2.1 hd ht (fun q => kt ((if_pos q).symm.trans h) H locs ls hP hD hS hl) (fun q => kf ((if_neg q).symm.trans h) H locs ls hP hD hS hl)
theorem x_icmp_eq {ρ : Type} {o A B : ρ} (pc : Nat) (C : Cx ω Γ cc own ret l0 rm nL0 out0) {x y : Int32} {off : Int} (tgt : Nat) (hd : decode cc pc = .ok (.if_icmp .eq off, 3)) (ht : (pc : Int) + off = (tgt : Int)) (h : (if x = y then A else B) = o) (kt : A = o → XAt ω Γ tgt lv vs S) (kf : B = o → XAt ω Γ (pc + 3) lv vs S) : XAt ω Γ pc lv (.int y :: .int x :: vs) S := by
  obtain ⟨l, R, ⟨p, e, s, m, args, below, meth, c⟩, nL, out⟩ := Γ
  exact fun H locs ls hP hD hS hl => lv_icmp_eq C.1.1 C.1.2.1 hd ht (fun q => kt ((if_pos q).symm.trans h) H locs ls hP hD hS hl) (fun q => kf ((if_neg q).symm.trans h) H locs ls hP hD hS hl)
theorem x_if_ne {ρ : Type} {o A B : ρ} (pc : Nat) (C : Cx ω Γ cc own ret l0 rm nL0 out0) {x : Int32} {off : Int} (tgt : Nat) (hd : decode cc pc = .ok (.ifCond .ne off, 3)) (ht : (pc : Int) + off = (tgt : Int)) (h : (if x = 0 then B else A) = o) (kt : A = o → XAt ω Γ tgt lv vs S) (kf : B = o → XAt ω Γ (pc + 3) lv vs S) : XAt ω Γ pc lv (.int x :: vs) S := by
  obtain ⟨l, R, ⟨p, e, s, m, args, below, meth, c⟩, nL, out⟩ := Γ
  exact fun H locs ls hP hD hS hl => lv_if_ne C.1.1 C.1.2.1 hd ht (fun q => kt ((if_neg q).symm.trans h) H locs ls hP hD hS hl) (fun q => kf ((if_pos q).symm.trans h) H locs ls hP hD hS hl)
theorem x_icmp_ne {ρ : Type} {o A B : ρ} (pc : Nat) (C : Cx ω Γ cc own ret l0 rm nL0 out0) {x y : Int32} {off : Int} (tgt : Nat) (hd : decode cc pc = .ok (.if_icmp .ne off, 3)) (ht : (pc : Int) + off = (tgt : Int)) (h : (if x = y then B else A) = o) (kt : A = o → XAt ω Γ tgt lv vs S) (kf : B = o → XAt ω Γ (pc + 3) lv vs S) : XAt ω Γ pc lv (.int y :: .int x :: vs) S := by
  obtain ⟨l, R, ⟨p, e, s, m, args, below, meth, c⟩, nL, out⟩ := Γ
  exact fun H locs ls hP hD hS hl => lv_icmp_ne C.1.1 C.1.2.1 hd ht (fun q => kt ((if_neg q).symm.trans h) H locs ls hP hD hS hl) (fun q => kf ((if_pos q).symm.trans h) H locs ls hP hD hS hl)
theorem x_if_lt {ρ : Type} {o A B : ρ} (pc : Nat) (C : Cx ω Γ cc own ret l0 rm nL0 out0) {x : Int32} {off : Int} (tgt : Nat) (hd : decode cc pc = .ok (.ifCond .lt off, 3)) (ht : (pc : Int) + off = (tgt : Int)) (h : (if x < 0 then A else B) = o) (kt : A = o → XAt ω Γ tgt lv vs S) (kf : B = o → XAt ω Γ (pc + 3) lv vs S) : XAt ω Γ pc lv (.int x :: vs) S := by
  obtain ⟨l, R, ⟨p, e, s, m, args, below, meth, c⟩, nL, out⟩ := Γ
  exact fun H locs ls hP hD hS hl => lv_if_lt C.1.1 C.1.2.1 hd ht (fun q => kt ((if_pos q).symm.trans h) H locs ls hP hD hS hl) (fun q => kf ((if_neg q).symm.trans h) H locs ls hP hD hS hl)
theorem x_icmp_lt {ρ : Type} {o A B : ρ} (pc : Nat) (C : Cx ω Γ cc own ret l0 rm nL0 out0) {x y : Int32} {off : Int} (tgt : Nat) (hd : decode cc pc = .ok (.if_icmp .lt off, 3)) (ht : (pc : Int) + off = (tgt : Int)) (h : (if x < y then A else B) = o) (kt : A = o → XAt ω Γ tgt lv vs S) (kf : B = o → XAt ω Γ (pc + 3) lv vs S) : XAt ω Γ pc lv (.int y :: .int x :: vs) S := by
  obtain ⟨l, R, ⟨p, e, s, m, args, below, meth, c⟩, nL, out⟩ := Γ
  exact fun H locs ls hP hD hS hl => lv_icmp_lt C.1.1 C.1.2.1 hd ht (fun q => kt ((if_pos q).symm.trans h) H locs ls hP hD hS hl) (fun q => kf ((if_neg q).symm.trans h) H locs ls hP hD hS hl)
theorem x_if_ge {ρ : Type} {o A B : ρ} (pc : Nat) (C : Cx ω Γ cc own ret l0 rm nL0 out0) {x : Int32} {off : Int} (tgt : Nat) (hd : decode cc pc = .ok (.ifCond .ge off, 3)) (ht : (pc : Int) + off = (tgt : Int)) (h : (if 0 ≤ x then A else B) = o) (kt : A = o → XAt ω Γ tgt lv vs S) (kf : B = o → XAt ω Γ (pc + 3) lv vs S) : XAt ω Γ pc lv (.int x :: vs) S := by
  obtain ⟨l, R, ⟨p, e, s, m, args, below, meth, c⟩, nL, out⟩ := Γ
  exact fun H locs ls hP hD hS hl => lv_if_ge C.1.1 C.1.2.1 hd ht (fun q => kt ((if_pos q).symm.trans h) H locs ls hP hD hS hl) (fun q => kf ((if_neg q).symm.trans h) H locs ls hP hD hS hl)
theorem x_icmp_ge {ρ : Type} {o A B : ρ} (pc : Nat) (C : Cx ω Γ cc own ret l0 rm nL0 out0) {x y : Int32} {off : Int} (tgt : Nat) (hd : decode cc pc = .ok (.if_icmp .ge off, 3)) (ht : (pc : Int) + off = (tgt : Int)) (h : (if y ≤ x then A else B) = o) (kt : A = o → XAt ω Γ tgt lv vs S) (kf : B = o → XAt ω Γ (pc + 3) lv vs S) : XAt ω Γ pc lv (.int y :: .int x :: vs) S := by
  obtain ⟨l, R, ⟨p, e, s, m, args, below, meth, c⟩, nL, out⟩ := Γ
  exact fun H locs ls hP hD hS hl => lv_icmp_ge C.1.1 C.1.2.1 hd ht (fun q => kt ((if_pos q).symm.trans h) H locs ls hP hD hS hl) (fun q => kf ((if_neg q).symm.trans h) H locs ls hP hD hS hl)
theorem x_if_gt {ρ : Type} {o A B : ρ} (pc : Nat) (C : Cx ω Γ cc own ret l0 rm nL0 out0) {x : Int32} {off : Int} (tgt : Nat) (hd : decode cc pc = .ok (.ifCond .gt off, 3)) (ht : (pc : Int) + off = (tgt : Int)) (h : (if 0 < x then A else B) = o) (kt : A = o → XAt ω Γ tgt lv vs S) (kf : B = o → XAt ω Γ (pc + 3) lv vs S) : XAt ω Γ pc lv (.int x :: vs) S := by
  obtain ⟨l, R, ⟨p, e, s, m, args, below, meth, c⟩, nL, out⟩ := Γ
  exact fun H locs ls hP hD hS hl => lv_if_gt C.1.1 C.1.2.1 hd ht (fun q => kt ((if_pos q).symm.trans h) H locs ls hP hD hS hl) (fun q => kf ((if_neg q).symm.trans h) H locs ls hP hD hS hl)
theorem x_icmp_gt {ρ : Type} {o A B : ρ} (pc : Nat) (C : Cx ω Γ cc own ret l0 rm nL0 out0) {x y : Int32} {off : Int} (tgt : Nat) (hd : decode cc pc = .ok (.if_icmp .gt off, 3)) (ht : (pc : Int) + off = (tgt : Int)) (h : (if y < x then A else B) = o) (kt : A = o → XAt ω Γ tgt lv vs S) (kf : B = o → XAt ω Γ (pc + 3) lv vs S) : XAt ω Γ pc lv (.int y :: .int x :: vs) S := by
  obtain ⟨l, R, ⟨p, e, s, m, args, below, meth, c⟩, nL, out⟩ := Γ
  exact fun H locs ls hP hD hS hl => lv_icmp_gt C.1.1 C.1.2.1 hd ht (fun q => kt ((if_pos q).symm.trans h) H locs ls hP hD hS hl) (fun q => kf ((if_neg q).symm.trans h) H locs ls hP hD hS hl)
theorem x_if_le {ρ : Type} {o A B : ρ} (pc : Nat) (C : Cx ω Γ cc own ret l0 rm nL0 out0) {x : Int32} {off : Int} (tgt : Nat) (hd : decode cc pc = .ok (.ifCond .le off, 3)) (ht : (pc : Int) + off = (tgt : Int)) (h : (if x ≤ 0 then A else B) = o) (kt : A = o → XAt ω Γ tgt lv vs S) (kf : B = o → XAt ω Γ (pc + 3) lv vs S) : XAt ω Γ pc lv (.int x :: vs) S := by
  obtain ⟨l, R, ⟨p, e, s, m, args, below, meth, c⟩, nL, out⟩ := Γ
  exact fun H locs ls hP hD hS hl => lv_if_le C.1.1 C.1.2.1 hd ht (fun q => kt ((if_pos q).symm.trans h) H locs ls hP hD hS hl) (fun q => kf ((if_neg q).symm.trans h) H locs ls hP hD hS hl)
theorem x_icmp_le {ρ : Type} {o A B : ρ} (pc : Nat) (C : Cx ω Γ cc own ret l0 rm nL0 out0) {x y : Int32} {off : Int} (tgt : Nat) (hd : decode cc pc = .ok (.if_icmp .le off, 3)) (ht : (pc : Int) + off = (tgt : Int)) (h : (if x ≤ y then A else B) = o) (kt : A = o → XAt ω Γ tgt lv vs S) (kf : B = o → XAt ω Γ (pc + 3) lv vs S) : XAt ω Γ pc lv (.int y :: .int x :: vs) S := by
  obtain ⟨l, R, ⟨p, e, s, m, args, below, meth, c⟩, nL, out⟩ := Γ
  exact fun H locs ls hP hD hS hl => lv_icmp_le C.1.1 C.1.2.1 hd ht (fun q => kt ((if_pos q).symm.trans h) H locs ls hP hD hS hl) (fun q => kf ((if_neg q).symm.trans h) H locs ls hP hD hS hl)
theorem x_iret (pc : Nat) {v r : Int32} {S' : σ} (C : Cx ω Γ cc own (some .int) l0 rm nL0 (some (.int r), S')) (hd : decode cc pc = .ok (.ireturn, 1)) (h : v = r) (hS' : S = S') : XAt ω Γ pc lv [.int v] S := by
  obtain ⟨l, R, ⟨p, e, s, m, args, below, meth, c⟩, nL, out⟩ := Γ
  obtain ⟨⟨hx, hb, -⟩, hlk, hr, hK, -, -, -, ho⟩ := C
  subst ho; subst h; subst hS'
  exact fun H locs ls hP hD hS hl => W.iret (v := v) hx hb hr (fun t ht hW => ⟨rfl, ⟨by rw [ht]; exact hP, va_K.moved hW.alike hK, hD⟩, hS.F ht⟩) hS.2.2 hd hlk
theorem x_lret (pc : Nat) {v r : Int64} {S' : σ} (C : Cx ω Γ cc own (some .long) l0 rm nL0 (some (.long r), S')) (hd : decode cc pc = .ok (.lreturn, 1)) (h : v = r) (hS' : S = S') : XAt ω Γ pc lv [.long v] S := by
  obtain ⟨l, R, ⟨p, e, s, m, args, below, meth, c⟩, nL, out⟩ := Γ
  obtain ⟨⟨hx, hb, -⟩, hlk, hr, hK, -, -, -, ho⟩ := C
  subst ho; subst h; subst hS'
  exact fun H locs ls hP hD hS hl => W.lret (v := v) hx hb hr (fun t ht hW => ⟨rfl, ⟨by rw [ht]; exact hP, va_K.moved hW.alike hK, hD⟩, hS.F ht⟩) hS.2.2 hd hlk
theorem x_zret (pc : Nat) {v r : Int32} {S' : σ} (C : Cx ω Γ cc own (some .boolean) l0 rm nL0 (some (.int r), S')) (hd : decode cc pc = .ok (.ireturn, 1)) (hz : xbool v = true) (h : v = r) (hS' : S = S') : XAt ω Γ pc lv [.int v] S := by
  obtain ⟨l, R, ⟨p, e, s, m, args, below, meth, c⟩, nL, out⟩ := Γ
  obtain ⟨⟨hx, hb, -⟩, hlk, hr, hK, -, -, -, ho⟩ := C
  subst ho; subst h; subst hS'
  have hn : narrow .boolean (.int v) = .int v := by
    simp only [xbool, Bool.or_eq_true, decide_eq_true_eq] at hz
    rcases hz with rfl | rfl <;> rfl
  exact fun H locs ls hP hD hS hl => W.zret (v := v) hx hb hr hn (fun t ht hW => ⟨rfl, ⟨by rw [ht]; exact hP, va_K.moved hW.alike hK, hD⟩, hS.F ht⟩) hS.2.2 hd hlk
theorem x_vret (pc : Nat) {S' : σ} (C : Cx ω Γ cc own none l0 rm nL0 (none, S')) (hd : decode cc pc = .ok (.return_, 1)) (hS' : S = S') : XAt ω Γ pc lv [] S := by
  obtain ⟨l, R, ⟨p, e, s, m, args, below, meth, c⟩, nL, out⟩ := Γ
  obtain ⟨⟨hx, hb, -⟩, hlk, hr, hK, -, -, -, ho⟩ := C
  subst ho; subst hS'
  exact fun H locs ls hP hD hS hl => W.vret hx hb hr (fun t ht hW => ⟨rfl, ⟨by rw [ht]; exact hP, va_K.moved hW.alike hK, hD⟩, hS.F ht⟩) hS.2.2 hd hlk
theorem xPc_blind (av : List Value) (S : σ) : FrameBlind (va_Pc av (xWd ω S)) := by
  intro a U g mk q
  obtain ⟨q0, qP, qK, qD⟩ := q
  exact ⟨q0, qP, va_K.moved (u := U) (U := U.calling g mk a) (Vm.Alike.refl U.vm) qK, qD⟩
theorem x_goodV {c0 : Cond} {own C : String} {index : Nat} {y : MethodName} {bytes : ByteArray} {maxL : Nat} {ret : Option FieldType} (h1 : Cond.methodLink own index y ∈ xtb) (h2 : Cond.instanceMethod y ∈ xtb) (h3 : Cond.selects C y y ∈ xtb) (h4 : Cond.initialized C ∈ xtb) (h5 : Cond.code y bytes maxL ret ∈ xtb) : GoodIn (c0 :: xtb) (wsV own index C y (.code y bytes maxL ret :: xtb)) := by
  intro w hw
  rcases List.mem_append.mp hw with h | h
  · simp only [List.mem_cons, List.not_mem_nil, or_false] at h
    rcases h with rfl | rfl | rfl | rfl
    · exact xtb_good h1
    · exact xtb_good h2
    · exact xtb_good h3
    · exact xtb_good h4
  · rcases List.mem_cons.mp h with rfl | h
    · exact xtb_good h5
    · exact xtb_good h
theorem x_goodS {c0 : Cond} {y : MethodName} {bytes : ByteArray} {maxL : Nat} {ret : Option FieldType} (h5 : Cond.code y bytes maxL ret ∈ xtb) : GoodIn (c0 :: xtb) (.code y bytes maxL ret :: xtb) := by
  intro w hw
  rcases List.mem_cons.mp hw with rfl | h
  · exact xtb_good h5
  · exact xtb_good h
/-- what stays of a call: the callee's end, at the caller -/
theorem x_back {l : Launch} {p : Program} {e : Env} {R : Room} {s : State} {m : MethodId} {args : Array Value} {below : List Frame} {meth : Method} {c : Code} {nL pc : Nat} {ls : Array Slot} {out : Option Value × σ} {o1 : Option Value} {S1 : σ} {a : Array Value} {H : Heap} {locs : List Loc} {rest st0 : List Value}
    (hr : va_Run p l e R s m args below meth c H locs 0 0 0 0 (F0 m pc ls st0) rest (xQ ω (o1, S1) a) ω.2.1) (hS : va_S ω.2.1 s.heap H locs) (hl : lv_has ls nL lv)
    (k : ∀ (H : Heap) (locs : List Loc) (ls : Array Slot), va_P ω.1 vwCl (ω.2.2.2 S1) H → va_D ω.2.1 (ω.2.2.2 S1) → va_S ω.2.1 s.heap H locs → lv_has ls nL lv → W p l e R s m args below meth c H locs 0 0 (MQ below (xQ ω out) args s 0 0 ω.2.1) (F0 m (pc + 3) ls (o1.toList ++ rest))) :
    W p l e R s m args below meth c H locs 0 0 (MQ below (xQ ω out) args s 0 0 ω.2.1) (F0 m pc ls st0) := by
  intro T hT X
  obtain ⟨v, st₀, t, T', L, h0, X', hL, e1, e2, ⟨hv, ⟨qP, qK, qD⟩, hz, hk⟩, st⟩ := hr T hT X
  have hv := Outcome.returned.inj hv
  subst hv
  rw [h0] at hz hk
  obtain ⟨t2, a1, b1⟩ := k T'.heap (locs ++ L) ls (by rw [e1]; exact qP) qD ⟨Nat.le_trans hS.1 (by rw [e1]; exact hz), fun q h1 h2 => by rw [e1, hk q (Nat.lt_of_lt_of_le h1 hS.1) h2]; exact hS.2.1 q h1 h2, fun q hq => by
      rcases List.mem_append.mp hq with h | h
      · exact hS.2.2 q h
      · exact hL q h⟩ hl T' rfl X'
  exact ⟨t2, st t2 a1, b1⟩
theorem x_callV (pc : Nat) (C : Cx ω Γ cc own ret l0 rm nL0 out0) {y : MethodName} {bytes : ByteArray} {maxL index : Nat} {ret1 : Option FieldType} {rm1 : Room} {As rest : List Value} {b q0 ci : Nat} {fs : List Value} {T : u_T} {N : Nat} {Cl : String} {o1 : Option Value} {S1 : σ} (n : Nat)
    (hM : xM l0 ω y bytes maxL ret1 rm1 (.ref b :: As) S (o1, S1)) (he : (ω.2.2.2 S)[q0]? = some (b, .inr (ci, fs))) (hc : vwCl[ci]? = some (Cl, T, N))
    (h1 : Cond.methodLink own index y ∈ xtb) (h2 : Cond.instanceMethod y ∈ xtb ∧ Cond.selects Cl y y ∈ xtb ∧ Cond.initialized Cl ∈ xtb ∧ Cond.code y bytes maxL ret1 ∈ xtb)
    (hd : y.cls = Cl ∧ y.cls ≠ "java/lang/invoke/MethodHandle" ∧ y.cls ≠ "java/lang/invoke/VarHandle" ∧ (parseMethodDescriptor y.desc).map (fun d => d.parameters.length) = some n) (hcs : rm1.cells = 0 ∧ rm1.slots = 0) (hR : rm1.frames + 1 ≤ rm.frames ∧ 8 + (maxL + 11) + rm1.locals ≤ rm.locals)
    (hn : As.length = n) (hst : vs = As.reverse ++ .ref b :: rest) (hW : (rest.map fun v => v.category).sum ≤ 8) (hdg : decode cc pc = .ok (.invokevirtual index, 3)) (k : XAt ω Γ (pc + 3) lv (o1.toList ++ rest) S1) : XAt ω Γ pc lv vs S := by
  obtain ⟨l, R, ⟨p, e, s, m, args, below, meth, c⟩, nL, out⟩ := Γ
  obtain ⟨hF, hlk, hr, hK, e1, e2, e3, e4⟩ := C
  subst e1; subst e2; subst hst
  intro H locs ls hP hD hS hl
  have hts : ∀ w ∈ (Cond.initialized Cl :: xtb), w.before args s = true := fun w h => by
    rcases List.mem_cons.mp h with rfl | h
    · exact hF.2.2.2.2 _ h2.2.2.1
    · exact hF.2.2.2.2 _ h
  refine x_back (va_runV (As := As) (rest := rest) hF hM (cwV n hts (x_goodV h1 h2.1 h2.2.1 h2.2.2.1 h2.2.2.2) rfl hcs.1 hcs.2 hd hR) ⟨xPc_blind _ _, va_recv hK hP hc he, fun U hU hW => ⟨rfl, by rw [hU]; exact hP, va_K.moved hW.alike hK, hD⟩⟩ rfl hn hl.1 rfl (lv_room hW) hdg ⟨Nat.zero_le _, Nat.zero_le _⟩) hS hl k
theorem x_callS (pc : Nat) (C : Cx ω Γ cc own ret l0 rm nL0 out0) {y : MethodName} {bytes : ByteArray} {maxL index : Nat} {ret1 : Option FieldType} {rm1 : Room} {As rest : List Value} {o1 : Option Value} {S1 : σ} (n : Nat)
    (hM : xM l0 ω y bytes maxL ret1 rm1 As S (o1, S1))
    (h1 : Cond.methodLink own index y ∈ xtb) (h2 : Cond.static y ∈ xtb ∧ Cond.initialized y.cls ∈ xtb ∧ Cond.code y bytes maxL ret1 ∈ xtb)
    (hd : y.cls ≠ "java/lang/invoke/MethodHandle" ∧ y.cls ≠ "java/lang/invoke/VarHandle" ∧ (parseMethodDescriptor y.desc).map (fun d => d.parameters.length) = some n) (hcs : rm1.cells = 0 ∧ rm1.slots = 0) (hR : rm1.frames + 1 ≤ rm.frames ∧ 8 + (maxL + 11) + rm1.locals ≤ rm.locals)
    (hn : As.length = n) (hst : vs = As.reverse ++ rest) (hW : (rest.map fun v => v.category).sum ≤ 8) (hdg : decode cc pc = .ok (.invokestatic index, 3)) (k : XAt ω Γ (pc + 3) lv (o1.toList ++ rest) S1) : XAt ω Γ pc lv vs S := by
  obtain ⟨l, R, ⟨p, e, s, m, args, below, meth, c⟩, nL, out⟩ := Γ
  obtain ⟨hF, hlk, hr, hK, e1, e2, e3, e4⟩ := C
  subst e1; subst e2; subst hst
  intro H locs ls hP hD hS hl
  have hts : ∀ w ∈ (Cond.initialized y.cls :: xtb), w.before args s = true := fun w h => by
    rcases List.mem_cons.mp h with rfl | h
    · exact hF.2.2.2.2 _ h2.2.1
    · exact hF.2.2.2.2 _ h
  refine x_back (va_runS (As := As) (rest := rest) hF hM ⟨callB_of n hts (x_goodS h2.2.2) rfl hcs.1 hcs.2 (hF.2.2.2.2 _ h2.2.1) (hF.2.2.2.2 _ h1) hd hR, hF.2.2.2.2 _ h2.1⟩ ⟨xPc_blind _ _, fun U hU hW => ⟨rfl, by rw [hU]; exact hP, va_K.moved hW.alike hK, hD⟩⟩ rfl hn hl.1 rfl (lv_room hW) hdg ⟨Nat.zero_le _, Nat.zero_le _⟩) hS hl k
theorem x_mmax (pc : Nat) (C : Cx ω Γ cc own ret l0 rm nL0 out0) {index : Nat} {x y : Int32} (h1 : Cond.methodLink own index Lib.Math.max.name ∈ xtb) (h2 : Cond.static Lib.Math.max.name ∈ xtb) (h3 : Cond.initialized "java/lang/Math" ∈ xtb) (h4 : Cond.code Lib.Math.max.name Lib.Math.max.code 2 (some .int) ∈ xtb) (hf : 1 ≤ rm.frames) (hlo : (vs.map fun v => v.category).sum + 13 ≤ rm.locals) (hd : decode cc pc = .ok (.invokestatic index, 3)) (k : XAt ω Γ (pc + 3) lv (.int (if x < y then y else x) :: vs) S) : XAt ω Γ pc lv (.int y :: .int x :: vs) S := by
  obtain ⟨l, R, ⟨p, e, s, m, args, below, meth, c⟩, nL, out⟩ := Γ
  obtain ⟨hF, hlk, hr, hK, e1, e2, e3, e4⟩ := C
  subst e2
  exact fun H locs ls hP hD hS hl => va_mmax hF.1 hF.2.1 (by rw [hF.2.2.1, hl.1]) hF.2.2.2.1 (hF.2.2.2.2 _ h1) (hF.2.2.2.2 _ h2) (hF.2.2.2.2 _ h3) (hF.2.2.2.2 _ h4) hf hlo (Nat.zero_le _) (Nat.zero_le _) hd (k H locs ls hP hD hS hl)
theorem x_mmin (pc : Nat) (C : Cx ω Γ cc own ret l0 rm nL0 out0) {index : Nat} {x y : Int32} (h1 : Cond.methodLink own index Lib.Math.min.name ∈ xtb) (h2 : Cond.static Lib.Math.min.name ∈ xtb) (h3 : Cond.initialized "java/lang/Math" ∈ xtb) (h4 : Cond.code Lib.Math.min.name Lib.Math.min.code 2 (some .int) ∈ xtb) (hf : 1 ≤ rm.frames) (hlo : (vs.map fun v => v.category).sum + 13 ≤ rm.locals) (hd : decode cc pc = .ok (.invokestatic index, 3)) (k : XAt ω Γ (pc + 3) lv (.int (if y < x then y else x) :: vs) S) : XAt ω Γ pc lv (.int y :: .int x :: vs) S := by
  obtain ⟨l, R, ⟨p, e, s, m, args, below, meth, c⟩, nL, out⟩ := Γ
  obtain ⟨hF, hlk, hr, hK, e1, e2, e3, e4⟩ := C
  subst e2
  exact fun H locs ls hP hD hS hl => va_mmin hF.1 hF.2.1 (by rw [hF.2.2.1, hl.1]) hF.2.2.2.1 (hF.2.2.2.2 _ h1) (hF.2.2.2.2 _ h2) (hF.2.2.2.2 _ h3) (hF.2.2.2.2 _ h4) hf hlo (Nat.zero_le _) (Nat.zero_le _) hd (k H locs ls hP hD hS hl)
theorem x_iald (pc : Nat) (C : Cx ω Γ cc own ret l0 rm nL0 out0) {q t n a : Nat} {cA : ClassId} {f : Nat → Int32} {i : Int32} (ha : (ω.2.2.2 S)[q]? = some (a, .inl (cA, n, .inl f))) (ht : ω.2.2.1[t]? = some (cA, .int)) (hin : xin i n = true) (hd : decode cc pc = .ok (.iaload, 1)) (k : XAt ω Γ (pc + 1) lv (.int (f (xti i)) :: vs) S) : XAt ω Γ pc lv (.int i :: .ref a :: vs) S := by
  obtain ⟨l, R, ⟨p, e, s, m, args, below, meth, c⟩, nL, out⟩ := Γ
  exact fun H locs ls hP hD hS hl => va_iald C.1.1 C.1.2.1 C.2.2.2.1 hP q t ha ht (xin_in hin) hd (k H locs ls hP hD hS hl)
theorem x_zald (pc : Nat) (C : Cx ω Γ cc own ret l0 rm nL0 out0) {q t n a : Nat} {cA : ClassId} {f : Nat → Int32} {i : Int32} (ha : (ω.2.2.2 S)[q]? = some (a, .inl (cA, n, .inl f))) (ht : ω.2.2.1[t]? = some (cA, .boolean)) (hin : xin i n = true) (hd : decode cc pc = .ok (.baload, 1)) (k : XAt ω Γ (pc + 1) lv (.int (f (xti i)) :: vs) S) : XAt ω Γ pc lv (.int i :: .ref a :: vs) S := by
  obtain ⟨l, R, ⟨p, e, s, m, args, below, meth, c⟩, nL, out⟩ := Γ
  exact fun H locs ls hP hD hS hl => va_zald C.1.1 C.1.2.1 C.2.2.2.1 hP q t ha ht (xin_in hin) hd (k H locs ls hP hD hS hl)
theorem x_iast (pc : Nat) (C : Cx ω Γ cc own ret l0 rm nL0 out0) {q t n a : Nat} {cA : ClassId} {f : Nat → Int32} {i x : Int32} {S1 : σ} (ha : (ω.2.2.2 S)[q]? = some (a, .inl (cA, n, .inl f))) (ht : ω.2.2.1[t]? = some (cA, .int)) (hin : xin i n = true) (hs : (ω.2.2.2 S).set q (a, .inl (cA, n, .inl (upd f (xti i) x))) = ω.2.2.2 S1) (hd : decode cc pc = .ok (.iastore, 1)) (k : XAt ω Γ (pc + 1) lv vs S1) : XAt ω Γ pc lv (.int x :: .int i :: .ref a :: vs) S := by
  obtain ⟨l, R, ⟨p, e, s, m, args, below, meth, c⟩, nL, out⟩ := Γ
  exact fun H locs ls hP hD hS hl => va_iast C.1.1 C.1.2.1 C.2.2.2.1 hP hD hS q t ha ht (xin_in hin) hd (fun H1 locs1 hP hD hS => k H1 locs1 ls (by rw [← hs]; exact hP) (by rw [← hs]; exact hD) hS hl)
theorem x_zast (pc : Nat) (C : Cx ω Γ cc own ret l0 rm nL0 out0) {q t n a : Nat} {cA : ClassId} {f : Nat → Int32} {i x : Int32} {S1 : σ} (ha : (ω.2.2.2 S)[q]? = some (a, .inl (cA, n, .inl f))) (ht : ω.2.2.1[t]? = some (cA, .boolean)) (hin : xin i n = true) (hs : (ω.2.2.2 S).set q (a, .inl (cA, n, .inl (upd f (xti i) (vp_nar .boolean x)))) = ω.2.2.2 S1) (hd : decode cc pc = .ok (.bastore, 1)) (k : XAt ω Γ (pc + 1) lv vs S1) : XAt ω Γ pc lv (.int x :: .int i :: .ref a :: vs) S := by
  obtain ⟨l, R, ⟨p, e, s, m, args, below, meth, c⟩, nL, out⟩ := Γ
  exact fun H locs ls hP hD hS hl => va_zast C.1.1 C.1.2.1 C.2.2.2.1 hP hD hS q t ha ht (xin_in hin) hd (fun H1 locs1 hP hD hS => k H1 locs1 ls (by rw [← hs]; exact hP) (by rw [← hs]; exact hD) hS hl)
theorem x_alen (pc : Nat) (C : Cx ω Γ cc own ret l0 rm nL0 out0) {q t a : Nat} {cA : ClassId} {x : vp_A} {ty : FieldType} {v : Int32} (ha : (ω.2.2.2 S)[q]? = some (a, .inl (cA, x))) (ht : ω.2.2.1[t]? = some (cA, ty)) (hv : Int32.ofNat x.1 = v) (hd : decode cc pc = .ok (.arraylength, 1)) (k : XAt ω Γ (pc + 1) lv (.int v :: vs) S) : XAt ω Γ pc lv (.ref a :: vs) S := by
  obtain ⟨l, R, ⟨p, e, s, m, args, below, meth, c⟩, nL, out⟩ := Γ
  exact fun H locs ls hP hD hS hl => va_alen C.1.1 C.1.2.1 C.2.2.2.1 hP q t ha ht hv hd (k H locs ls hP hD hS hl)
theorem x_aald (pc : Nat) (C : Cx ω Γ cc own ret l0 rm nL0 out0) {q t n a : Nat} {cA : ClassId} {E : String} {f : Nat → Option Nat} {i : Int32} {r : Nat} (ha : (ω.2.2.2 S)[q]? = some (a, .inl (cA, n, .inr (.inr (.inr (.inr f)))))) (ht : ω.2.2.1[t]? = some (cA, .object E)) (hin : xin i n = true) (hf : va_rf (f (xti i)) = .ref r) (hd : decode cc pc = .ok (.aaload, 1)) (k : XAt ω Γ (pc + 1) lv (.ref r :: vs) S) : XAt ω Γ pc lv (.int i :: .ref a :: vs) S := by
  obtain ⟨l, R, ⟨p, e, s, m, args, below, meth, c⟩, nL, out⟩ := Γ
  exact fun H locs ls hP hD hS hl => va_aldq C.1.1 C.1.2.1 C.2.2.2.1 hP q t ha ht (xin_in hin) hd (by rw [hf]; exact (k H locs ls hP hD hS hl))
theorem x_get (pc : Nat) (C : Cx ω Γ cc own ret l0 rm nL0 out0) {q a ci index k0 N : Nat} {fs : List Value} {Cl fr fn fd : String} {T : u_T} {v : Value} (he : (ω.2.2.2 S)[q]? = some (a, .inr (ci, fs))) (hc : vwCl[ci]? = some (Cl, T, N)) (hin : ∀ w ∈ u_ws Cl T N, w ∈ xtb) (hk : k0 < N) (hT : T k0 = (fr, fn, fd, (T k0).2.2.2)) (hl0 : Cond.fieldLink own index fr fn fd ∈ xtb) (hv : fs[k0]? = some v) (hd : decode cc pc = .ok (.getfield index, 3)) (k : XAt ω Γ (pc + 3) lv (v :: vs) S) : XAt ω Γ pc lv (.ref a :: vs) S := by
  obtain ⟨l, R, ⟨p, e, s, m, args, below, meth, c⟩, nL, out⟩ := Γ
  refine fun H locs ls hP hD hS hl => va_get (ref := fr) C.1.1 C.1.2.1 C.1.2.2.2.2 hin C.1.2.2.2.1 C.2.2.2.1 hP q he hc k0 hk ?_ (fun x h => ?_) hv hd (k H locs ls hP hD hS hl)
  · rw [hT]; exact C.1.2.2.2.2 _ hl0
  · rw [hT] at h ⊢; exact h
theorem x_put (pc : Nat) (C : Cx ω Γ cc own ret l0 rm nL0 out0) {q a ci index k0 N : Nat} {fs : List Value} {Cl fr fn fd : String} {T : u_T} {v : Value} {ty0 : Nat → FieldType} {ty : FieldType} {S1 : σ} (he : (ω.2.2.2 S)[q]? = some (a, .inr (ci, fs))) (hc : vwCl[ci]? = some (Cl, T, N)) (hin : ∀ w ∈ u_ws Cl T N, w ∈ xtb) (hty : ∀ k, k < N → parseFieldDescriptor (T k).2.2.1 = some (ty0 k)) (hnm : ∀ a, a < N → ∀ b, b < N → a ≠ b → (T a).2.1 ≠ (T b).2.1) (hk : k0 < N) (hT : T k0 = (fr, fn, fd, false)) (hty0 : ty0 k0 = ty) (hn : narrow ty v = v) (hfit : fits ty v = true) (hlen : k0 < fs.length) (hs : (ω.2.2.2 S).set q (a, .inr (ci, fs.set k0 v)) = ω.2.2.2 S1) (hl0 : Cond.fieldLink own index fr fn fd ∈ xtb) (hd : decode cc pc = .ok (.putfield index, 3)) (k : XAt ω Γ (pc + 3) lv vs S1) : XAt ω Γ pc lv (v :: .ref a :: vs) S := by
  obtain ⟨l, R, ⟨p, e, s, m, args, below, meth, c⟩, nL, out⟩ := Γ
  refine fun H locs ls hP hD hS hl => va_put (ref := fr) (ty := ty) C.1.1 C.1.2.1 C.1.2.2.2.2 hin ty0 hty hnm C.1.2.2.2.1 C.2.2.2.1 hP hD hS q he hc k0 hk ?_ (fun x h => ?_) (by rw [hT]) (by rw [← hty0]; exact hty k0 hk) hn hfit hlen hd (fun H1 locs1 hP hD hS => k H1 locs1 ls (by rw [← hs]; exact hP) (by rw [← hs]; exact hD) hS hl)
  · rw [hT]; exact C.1.2.2.2.2 _ hl0
  · rw [hT] at h ⊢; exact h
end XR2
end
section
theorem wiX0 : ∀ w ∈ u_ws RX0 TX0 5, w ∈ xtb := xtb_ws _ [164, 166, 168, 170, 172] (by decide +kernel) (by decide +kernel)
theorem wiX1 : ∀ w ∈ u_ws RX1 TX1 4, w ∈ xtb := xtb_ws _ [245, 247, 249, 251] (by decide +kernel) (by decide +kernel)
theorem wiX2 : ∀ w ∈ u_ws RX2 TX2 2, w ∈ xtb := xtb_ws _ [147, 149] (by decide +kernel) (by decide +kernel)
theorem wiX3 : ∀ w ∈ u_ws RX3 TX3 16, w ∈ xtb := xtb_ws _ [202, 204, 206, 208, 210, 212, 214, 216, 218, 220, 222, 224, 226, 228, 230, 232] (by decide +kernel) (by decide +kernel)
theorem wiX4 : ∀ w ∈ u_ws RX4 TX4 4, w ∈ xtb := xtb_ws _ [269, 271, 273, 275] (by decide +kernel) (by decide +kernel)
theorem wiX5 : ∀ w ∈ u_ws RX5 TX5 9, w ∈ xtb := xtb_ws _ [117, 119, 121, 123, 125, 127, 129, 131, 133] (by decide +kernel) (by decide +kernel)
theorem wiX6 : ∀ w ∈ u_ws RX6 TX6 8, w ∈ xtb := xtb_ws _ [286, 288, 290, 292, 294, 296, 298, 300] (by decide +kernel) (by decide +kernel)
theorem wiX7 : ∀ w ∈ u_ws RX7 TX7 40, w ∈ xtb := xtb_ws _ [826, 828, 830, 832, 834, 836, 838, 840, 842, 844, 846, 848, 850, 852, 854, 856, 858, 860, 862, 864, 866, 868, 870, 872, 874, 876, 878, 880, 882, 884, 886, 888, 890, 892, 894, 896, 898, 900, 902, 904] (by decide +kernel) (by decide +kernel)
def wC (a : Nat → Nat) (b : Nat → ClassId) (S : XSt) : va_W := [(a 0, .inr (6, [.ref (a 1), .ref (a 2), .ref (a 3), .ref (a 4), .ref (a 5), .ref (a 6), .int (S 0 6), .int (S 0 7)])),
  (a 1, .inr (5, [.ref (a 7), .ref (a 8), .ref (a 9), .ref (a 10), .int (S 1 4), .int (S 1 5), .int (S 1 6), .int (S 1 7), .int (S 1 8)])),
  (a 2, .inr (2, [.ref (a 11), .int (S 2 1)])),
  (a 3, .inr (0, [.ref (a 12), .ref (a 13), .ref (a 14), .ref (a 15), .int (S 3 4)])),
  (a 4, .inr (3, [.ref (a 1), .ref (a 16), .ref (a 17), .ref (a 18), .ref (a 19), .ref (a 20), .ref (a 21), .ref (a 22), .ref (a 23), .ref (a 24), .ref (a 25), .ref (a 26), .int (S 4 12), .int (S 4 13), .int (S 4 14), .int (S 4 15)])),
  (a 5, .inr (1, [.ref (a 1), .ref (a 22), .ref (a 27), .ref (a 28)])),
  (a 6, .inl (b 6, 4, .inr (.inr (.inr (.inr (fun i => some (a (29 + i)))))))),
  (a 7, .inl (b 7, 8, .inl (S 7))),
  (a 8, .inl (b 8, 8, .inl (S 8))),
  (a 9, .inl (b 9, 8, .inl (S 9))),
  (a 10, .inl (b 10, 8, .inl (S 10))),
  (a 11, .inl (b 11, 40, .inl (S 11))),
  (a 12, .inl (b 12, 60, .inl (S 12))),
  (a 13, .inl (b 13, 60, .inl (S 13))),
  (a 14, .inl (b 14, 60, .inl (S 14))),
  (a 15, .inl (b 15, 60, .inl (S 15))),
  (a 16, .inl (b 16, 256, .inl (S 16))),
  (a 17, .inl (b 17, 256, .inl (S 17))),
  (a 18, .inl (b 18, 2048, .inl (S 18))),
  (a 19, .inl (b 19, 256, .inl (S 19))),
  (a 20, .inl (b 20, 256, .inl (S 20))),
  (a 21, .inl (b 21, 256, .inl (S 21))),
  (a 22, .inl (b 22, 8, .inl (S 22))),
  (a 23, .inl (b 23, 181, .inl (S 23))),
  (a 24, .inl (b 24, 24, .inl (S 24))),
  (a 25, .inl (b 25, 24, .inl (S 25))),
  (a 26, .inl (b 26, 256, .inl (S 26))),
  (a 27, .inl (b 27, 8, .inl (S 27))),
  (a 28, .inl (b 28, 9, .inl (S 28))),
  (a 29, .inr (4, [.ref (a 33), .int (S 29 1), .int (S 29 2), .int (S 29 3)])),
  (a 30, .inr (4, [.ref (a 34), .int (S 30 1), .int (S 30 2), .int (S 30 3)])),
  (a 31, .inr (4, [.ref (a 35), .int (S 31 1), .int (S 31 2), .int (S 31 3)])),
  (a 32, .inr (4, [.ref (a 36), .int (S 32 1), .int (S 32 2), .int (S 32 3)])),
  (a 33, .inl (b 33, 40, .inl (S 33))),
  (a 34, .inl (b 34, 40, .inl (S 34))),
  (a 35, .inl (b 35, 40, .inl (S 35))),
  (a 36, .inl (b 36, 40, .inl (S 36)))]
def tyC (b : Nat → ClassId) : List (ClassId × FieldType) := [(b 6, .object "GraveOrder$Sheet"), (b 7, .int), (b 8, .int), (b 9, .int), (b 10, .int), (b 11, .int), (b 12, .int), (b 13, .int), (b 14, .int), (b 15, .boolean), (b 16, .int), (b 17, .int), (b 18, .int), (b 19, .int), (b 20, .int), (b 21, .int), (b 22, .int), (b 23, .int), (b 24, .int), (b 25, .int), (b 26, .boolean), (b 27, .int), (b 28, .int), (b 33, .int), (b 34, .int), (b 35, .int), (b 36, .int)]
def aC (a : Nat → Nat) : Nat → Prop := fun q => ∃ k, k < 37 ∧ q = a k
def ωC (D : va_G) (a : Nat → Nat) (b : Nat → ClassId) : XW XSt := (D, aC a, tyC b, wC a b)
def iaC (q n : Nat) : Bool := decide ((q, n) ∈ ([(7, 8), (8, 8), (9, 8), (10, 8), (11, 40), (12, 60), (13, 60), (14, 60), (16, 256), (17, 256), (18, 2048), (19, 256), (20, 256), (21, 256), (22, 8), (23, 181), (24, 24), (25, 24), (27, 8), (28, 9), (33, 40), (34, 40), (35, 40), (36, 40)] : List (Nat × Nat)))
def tpC (q : Nat) : Nat := if q < 29 then q - 6 else q - 10
theorem iaC_all {p : Nat → Nat → Prop} (h : ∀ q n, (q, n) ∈ ([(7, 8), (8, 8), (9, 8), (10, 8), (11, 40), (12, 60), (13, 60), (14, 60), (16, 256), (17, 256), (18, 2048), (19, 256), (20, 256), (21, 256), (22, 8), (23, 181), (24, 24), (25, 24), (27, 8), (28, 9), (33, 40), (34, 40), (35, 40), (36, 40)] : List (Nat × Nat)) → p q n) {q n : Nat} (hq : iaC q n = true) : p q n := h q n (of_decide_eq_true hq)
theorem wC_ia {a : Nat → Nat} {b : Nat → ClassId} {S : XSt} {q n : Nat} (hq : iaC q n = true) : (wC a b S)[q]? = some (a q, .inl (b q, n, .inl (S q))) := by
  have h := of_decide_eq_true hq
  simp only [List.mem_cons, Prod.mk.injEq, List.not_mem_nil, or_false] at h
  rcases h with ⟨rfl, rfl⟩ | ⟨rfl, rfl⟩ | ⟨rfl, rfl⟩ | ⟨rfl, rfl⟩ | ⟨rfl, rfl⟩ | ⟨rfl, rfl⟩ | ⟨rfl, rfl⟩ | ⟨rfl, rfl⟩ | ⟨rfl, rfl⟩ | ⟨rfl, rfl⟩ | ⟨rfl, rfl⟩ | ⟨rfl, rfl⟩ | ⟨rfl, rfl⟩ | ⟨rfl, rfl⟩ | ⟨rfl, rfl⟩ | ⟨rfl, rfl⟩ | ⟨rfl, rfl⟩ | ⟨rfl, rfl⟩ | ⟨rfl, rfl⟩ | ⟨rfl, rfl⟩ | ⟨rfl, rfl⟩ | ⟨rfl, rfl⟩ | ⟨rfl, rfl⟩ | ⟨rfl, rfl⟩ <;> rfl
theorem wC_ty {b : Nat → ClassId} {q n : Nat} (hq : iaC q n = true) : (tyC b)[tpC q]? = some (b q, .int) := by
  have h := of_decide_eq_true hq
  simp only [List.mem_cons, Prod.mk.injEq, List.not_mem_nil, or_false] at h
  rcases h with ⟨rfl, rfl⟩ | ⟨rfl, rfl⟩ | ⟨rfl, rfl⟩ | ⟨rfl, rfl⟩ | ⟨rfl, rfl⟩ | ⟨rfl, rfl⟩ | ⟨rfl, rfl⟩ | ⟨rfl, rfl⟩ | ⟨rfl, rfl⟩ | ⟨rfl, rfl⟩ | ⟨rfl, rfl⟩ | ⟨rfl, rfl⟩ | ⟨rfl, rfl⟩ | ⟨rfl, rfl⟩ | ⟨rfl, rfl⟩ | ⟨rfl, rfl⟩ | ⟨rfl, rfl⟩ | ⟨rfl, rfl⟩ | ⟨rfl, rfl⟩ | ⟨rfl, rfl⟩ | ⟨rfl, rfl⟩ | ⟨rfl, rfl⟩ | ⟨rfl, rfl⟩ | ⟨rfl, rfl⟩ <;> rfl
theorem wC_set {a : Nat → Nat} {b : Nat → ClassId} {S : XSt} {q n i : Nat} {x : Int32} (hq : iaC q n = true) : (wC a b S).set q (a q, .inl (b q, n, .inl (upd (S q) i x))) = wC a b (xst S q i x) := by
  have h := of_decide_eq_true hq
  simp only [List.mem_cons, Prod.mk.injEq, List.not_mem_nil, or_false] at h
  rcases h with ⟨rfl, rfl⟩ | ⟨rfl, rfl⟩ | ⟨rfl, rfl⟩ | ⟨rfl, rfl⟩ | ⟨rfl, rfl⟩ | ⟨rfl, rfl⟩ | ⟨rfl, rfl⟩ | ⟨rfl, rfl⟩ | ⟨rfl, rfl⟩ | ⟨rfl, rfl⟩ | ⟨rfl, rfl⟩ | ⟨rfl, rfl⟩ | ⟨rfl, rfl⟩ | ⟨rfl, rfl⟩ | ⟨rfl, rfl⟩ | ⟨rfl, rfl⟩ | ⟨rfl, rfl⟩ | ⟨rfl, rfl⟩ | ⟨rfl, rfl⟩ | ⟨rfl, rfl⟩ | ⟨rfl, rfl⟩ | ⟨rfl, rfl⟩ | ⟨rfl, rfl⟩ | ⟨rfl, rfl⟩ <;> rfl
def shC (q : Nat) : Bool := decide (q ∈ ([29, 30, 31, 32] : List Nat))
theorem shC_items {q : Nat} (h : shC q = true) : iaC (q + 4) 40 = true := by
  have h := of_decide_eq_true h
  simp only [List.mem_cons, List.not_mem_nil, or_false] at h
  rcases h with rfl | rfl | rfl | rfl <;> rfl
theorem shC_of {i : Int32} (h : xin i 4 = true) : shC (29 + xti i) = true := by
  have h := xin_in h
  have h4 : i.toNatClampNeg < 4 := Nat.not_le.mp fun q => h (Or.inr q)
  unfold xti
  generalize i.toNatClampNeg = n at h4 ⊢
  have h5 : n = 0 ∨ n = 1 ∨ n = 2 ∨ n = 3 := by omega
  rcases h5 with rfl | rfl | rfl | rfl <;> rfl
theorem wC_sh {a : Nat → Nat} {b : Nat → ClassId} {S : XSt} {q : Nat} (h : shC q = true) : (wC a b S)[q]? = some (a q, .inr (4, [.ref (a (q + 4)), .int (S q 1), .int (S q 2), .int (S q 3)])) := by
  have h := of_decide_eq_true h
  simp only [List.mem_cons, List.not_mem_nil, or_false] at h
  rcases h with rfl | rfl | rfl | rfl <;> rfl
theorem wC_shset1 {a : Nat → Nat} {b : Nat → ClassId} {S : XSt} {q : Nat} {v : Int32} (h : shC q = true) : (wC a b S).set q (a q, .inr (4, ([.ref (a (q + 4)), .int (S q 1), .int (S q 2), .int (S q 3)] : List Value).set 1 (.int v))) = wC a b (xst S q 1 v) := by
  have h := of_decide_eq_true h
  simp only [List.mem_cons, List.not_mem_nil, or_false] at h
  rcases h with rfl | rfl | rfl | rfl <;> rfl
theorem wC_shset2 {a : Nat → Nat} {b : Nat → ClassId} {S : XSt} {q : Nat} {v : Int32} (h : shC q = true) : (wC a b S).set q (a q, .inr (4, ([.ref (a (q + 4)), .int (S q 1), .int (S q 2), .int (S q 3)] : List Value).set 2 (.int v))) = wC a b (xst S q 2 v) := by
  have h := of_decide_eq_true h
  simp only [List.mem_cons, List.not_mem_nil, or_false] at h
  rcases h with rfl | rfl | rfl | rfl <;> rfl
theorem wC_shset3 {a : Nat → Nat} {b : Nat → ClassId} {S : XSt} {q : Nat} {v : Int32} (h : shC q = true) : (wC a b S).set q (a q, .inr (4, ([.ref (a (q + 4)), .int (S q 1), .int (S q 2), .int (S q 3)] : List Value).set 3 (.int v))) = wC a b (xst S q 3 v) := by
  have h := of_decide_eq_true h
  simp only [List.mem_cons, List.not_mem_nil, or_false] at h
  rcases h with rfl | rfl | rfl | rfl <;> rfl
section XWC
variable {D : va_G} {a : Nat → Nat} {b : Nat → ClassId} {Γ : XG XSt} {cc : ByteArray} {own : String} {ret : Option FieldType} {l0 : Launch} {rm : Room} {nL0 : Nat} {out0 : Option Value × XSt} {lv : List (Nat × Value)} {vs : List Value} {S : XSt}
theorem c_iald (pc : Nat) (C : Cx (ωC D a b) Γ cc own ret l0 rm nL0 out0) {q n : Nat} {i : Int32} (hq : iaC q n = true) (hin : xin i n = true) (hd : decode cc pc = .ok (.iaload, 1)) (k : XAt (ωC D a b) Γ (pc + 1) lv (.int (S q (xti i)) :: vs) S) : XAt (ωC D a b) Γ pc lv (.int i :: .ref (a q) :: vs) S := x_iald pc C (wC_ia hq) (wC_ty hq) hin hd k
theorem c_iast (pc : Nat) (C : Cx (ωC D a b) Γ cc own ret l0 rm nL0 out0) {q n : Nat} {i x : Int32} (hq : iaC q n = true) (hin : xin i n = true) (hd : decode cc pc = .ok (.iastore, 1)) (k : XAt (ωC D a b) Γ (pc + 1) lv vs (xst S q (xti i) x)) : XAt (ωC D a b) Γ pc lv (.int x :: .int i :: .ref (a q) :: vs) S := x_iast pc C (wC_ia hq) (wC_ty hq) hin (wC_set hq) hd k
theorem c_alen (pc : Nat) (C : Cx (ωC D a b) Γ cc own ret l0 rm nL0 out0) {q n : Nat} (hq : iaC q n = true) (hd : decode cc pc = .ok (.arraylength, 1)) (k : XAt (ωC D a b) Γ (pc + 1) lv (.int (Int32.ofNat n) :: vs) S) : XAt (ωC D a b) Γ pc lv (.ref (a q) :: vs) S := x_alen pc C (wC_ia hq) (wC_ty hq) rfl hd k
theorem c_zald15 (pc : Nat) (C : Cx (ωC D a b) Γ cc own ret l0 rm nL0 out0) {i : Int32} (hin : xin i 60 = true) (hd : decode cc pc = .ok (.baload, 1)) (k : XAt (ωC D a b) Γ (pc + 1) lv (.int (S 15 (xti i)) :: vs) S) : XAt (ωC D a b) Γ pc lv (.int i :: .ref (a 15) :: vs) S := x_zald (q := 15) (t := 9) pc C rfl rfl hin hd k
theorem c_zast15 (pc : Nat) (C : Cx (ωC D a b) Γ cc own ret l0 rm nL0 out0) {i x : Int32} (hin : xin i 60 = true) (hd : decode cc pc = .ok (.bastore, 1)) (k : XAt (ωC D a b) Γ (pc + 1) lv vs (xst S 15 (xti i) (vp_nar .boolean x))) : XAt (ωC D a b) Γ pc lv (.int x :: .int i :: .ref (a 15) :: vs) S := x_zast (q := 15) (t := 9) pc C rfl rfl hin rfl hd k
theorem c_zald26 (pc : Nat) (C : Cx (ωC D a b) Γ cc own ret l0 rm nL0 out0) {i : Int32} (hin : xin i 256 = true) (hd : decode cc pc = .ok (.baload, 1)) (k : XAt (ωC D a b) Γ (pc + 1) lv (.int (S 26 (xti i)) :: vs) S) : XAt (ωC D a b) Γ pc lv (.int i :: .ref (a 26) :: vs) S := x_zald (q := 26) (t := 20) pc C rfl rfl hin hd k
theorem c_zast26 (pc : Nat) (C : Cx (ωC D a b) Γ cc own ret l0 rm nL0 out0) {i x : Int32} (hin : xin i 256 = true) (hd : decode cc pc = .ok (.bastore, 1)) (k : XAt (ωC D a b) Γ (pc + 1) lv vs (xst S 26 (xti i) (vp_nar .boolean x))) : XAt (ωC D a b) Γ pc lv (.int x :: .int i :: .ref (a 26) :: vs) S := x_zast (q := 26) (t := 20) pc C rfl rfl hin rfl hd k
theorem c_aald (pc : Nat) (C : Cx (ωC D a b) Γ cc own ret l0 rm nL0 out0) {i : Int32} (hin : xin i 4 = true) (hd : decode cc pc = .ok (.aaload, 1)) (k : XAt (ωC D a b) Γ (pc + 1) lv (.ref (a (29 + xti i)) :: vs) S) : XAt (ωC D a b) Γ pc lv (.int i :: .ref (a 6) :: vs) S := x_aald (q := 6) (t := 0) pc C rfl rfl hin rfl hd k
theorem gX6_yard (pc : Nat) (C : Cx (ωC D a b) Γ cc own ret l0 rm nL0 out0) {index : Nat} (hl0 : Cond.fieldLink own index "GraveOrder" "yard" "LGraveOrder$Yard;" ∈ xtb) (hd : decode cc pc = .ok (.getfield index, 3)) (k : XAt (ωC D a b) Γ (pc + 3) lv (.ref (a 1) :: vs) S) : XAt (ωC D a b) Γ pc lv (.ref (a 0) :: vs) S := x_get (q := 0) (ci := 6) (k0 := 0) (T := TX6) (N := 8) pc C rfl rfl wiX6 (by decide) rfl hl0 rfl hd k
theorem gX6_line (pc : Nat) (C : Cx (ωC D a b) Γ cc own ret l0 rm nL0 out0) {index : Nat} (hl0 : Cond.fieldLink own index "GraveOrder" "line" "LGraveOrder$Line;" ∈ xtb) (hd : decode cc pc = .ok (.getfield index, 3)) (k : XAt (ωC D a b) Γ (pc + 3) lv (.ref (a 2) :: vs) S) : XAt (ωC D a b) Γ pc lv (.ref (a 0) :: vs) S := x_get (q := 0) (ci := 6) (k0 := 1) (T := TX6) (N := 8) pc C rfl rfl wiX6 (by decide) rfl hl0 rfl hd k
theorem gX6_finds (pc : Nat) (C : Cx (ωC D a b) Γ cc own ret l0 rm nL0 out0) {index : Nat} (hl0 : Cond.fieldLink own index "GraveOrder" "finds" "LGraveOrder$Finds;" ∈ xtb) (hd : decode cc pc = .ok (.getfield index, 3)) (k : XAt (ωC D a b) Γ (pc + 3) lv (.ref (a 3) :: vs) S) : XAt (ωC D a b) Γ pc lv (.ref (a 0) :: vs) S := x_get (q := 0) (ci := 6) (k0 := 2) (T := TX6) (N := 8) pc C rfl rfl wiX6 (by decide) rfl hl0 rfl hd k
theorem gX6_orders (pc : Nat) (C : Cx (ωC D a b) Γ cc own ret l0 rm nL0 out0) {index : Nat} (hl0 : Cond.fieldLink own index "GraveOrder" "orders" "LGraveOrder$Orders;" ∈ xtb) (hd : decode cc pc = .ok (.getfield index, 3)) (k : XAt (ωC D a b) Γ (pc + 3) lv (.ref (a 4) :: vs) S) : XAt (ωC D a b) Γ pc lv (.ref (a 0) :: vs) S := x_get (q := 0) (ci := 6) (k0 := 3) (T := TX6) (N := 8) pc C rfl rfl wiX6 (by decide) rfl hl0 rfl hd k
theorem gX6_firstRow (pc : Nat) (C : Cx (ωC D a b) Γ cc own ret l0 rm nL0 out0) {index : Nat} (hl0 : Cond.fieldLink own index "GraveOrder" "firstRow" "LGraveOrder$FirstRow;" ∈ xtb) (hd : decode cc pc = .ok (.getfield index, 3)) (k : XAt (ωC D a b) Γ (pc + 3) lv (.ref (a 5) :: vs) S) : XAt (ωC D a b) Γ pc lv (.ref (a 0) :: vs) S := x_get (q := 0) (ci := 6) (k0 := 4) (T := TX6) (N := 8) pc C rfl rfl wiX6 (by decide) rfl hl0 rfl hd k
theorem gX6_sheets (pc : Nat) (C : Cx (ωC D a b) Γ cc own ret l0 rm nL0 out0) {index : Nat} (hl0 : Cond.fieldLink own index "GraveOrder" "sheets" "[LGraveOrder$Sheet;" ∈ xtb) (hd : decode cc pc = .ok (.getfield index, 3)) (k : XAt (ωC D a b) Γ (pc + 3) lv (.ref (a 6) :: vs) S) : XAt (ωC D a b) Γ pc lv (.ref (a 0) :: vs) S := x_get (q := 0) (ci := 6) (k0 := 5) (T := TX6) (N := 8) pc C rfl rfl wiX6 (by decide) rfl hl0 rfl hd k
theorem gX6_asOfTime (pc : Nat) (C : Cx (ωC D a b) Γ cc own ret l0 rm nL0 out0) {index : Nat} (hl0 : Cond.fieldLink own index "GraveOrder" "asOfTime" "I" ∈ xtb) (hd : decode cc pc = .ok (.getfield index, 3)) (k : XAt (ωC D a b) Γ (pc + 3) lv (.int (S 0 6) :: vs) S) : XAt (ωC D a b) Γ pc lv (.ref (a 0) :: vs) S := x_get (q := 0) (ci := 6) (k0 := 6) (T := TX6) (N := 8) pc C rfl rfl wiX6 (by decide) rfl hl0 rfl hd k
theorem pX6_asOfTime (pc : Nat) (C : Cx (ωC D a b) Γ cc own ret l0 rm nL0 out0) {index : Nat} {v : Int32} (hl0 : Cond.fieldLink own index "GraveOrder" "asOfTime" "I" ∈ xtb) (hd : decode cc pc = .ok (.putfield index, 3)) (k : XAt (ωC D a b) Γ (pc + 3) lv vs (xst S 0 6 v)) : XAt (ωC D a b) Γ pc lv (.int v :: .ref (a 0) :: vs) S := x_put (q := 0) (ci := 6) (k0 := 6) (T := TX6) (N := 8) (ty0 := tyX6) (ty := .int) pc C rfl rfl wiX6 tyX6_ok nmX6 (by decide) rfl rfl rfl rfl (by simp) rfl hl0 hd k
theorem gX6_latestFinding (pc : Nat) (C : Cx (ωC D a b) Γ cc own ret l0 rm nL0 out0) {index : Nat} (hl0 : Cond.fieldLink own index "GraveOrder" "latestFinding" "I" ∈ xtb) (hd : decode cc pc = .ok (.getfield index, 3)) (k : XAt (ωC D a b) Γ (pc + 3) lv (.int (S 0 7) :: vs) S) : XAt (ωC D a b) Γ pc lv (.ref (a 0) :: vs) S := x_get (q := 0) (ci := 6) (k0 := 7) (T := TX6) (N := 8) pc C rfl rfl wiX6 (by decide) rfl hl0 rfl hd k
theorem pX6_latestFinding (pc : Nat) (C : Cx (ωC D a b) Γ cc own ret l0 rm nL0 out0) {index : Nat} {v : Int32} (hl0 : Cond.fieldLink own index "GraveOrder" "latestFinding" "I" ∈ xtb) (hd : decode cc pc = .ok (.putfield index, 3)) (k : XAt (ωC D a b) Γ (pc + 3) lv vs (xst S 0 7 v)) : XAt (ωC D a b) Γ pc lv (.int v :: .ref (a 0) :: vs) S := x_put (q := 0) (ci := 6) (k0 := 7) (T := TX6) (N := 8) (ty0 := tyX6) (ty := .int) pc C rfl rfl wiX6 tyX6_ok nmX6 (by decide) rfl rfl rfl rfl (by simp) rfl hl0 hd k
theorem gX5_from (pc : Nat) (C : Cx (ωC D a b) Γ cc own ret l0 rm nL0 out0) {index : Nat} (hl0 : Cond.fieldLink own index "GraveOrder$Yard" "from" "[I" ∈ xtb) (hd : decode cc pc = .ok (.getfield index, 3)) (k : XAt (ωC D a b) Γ (pc + 3) lv (.ref (a 7) :: vs) S) : XAt (ωC D a b) Γ pc lv (.ref (a 1) :: vs) S := x_get (q := 1) (ci := 5) (k0 := 0) (T := TX5) (N := 9) pc C rfl rfl wiX5 (by decide) rfl hl0 rfl hd k
theorem gX5_to (pc : Nat) (C : Cx (ωC D a b) Γ cc own ret l0 rm nL0 out0) {index : Nat} (hl0 : Cond.fieldLink own index "GraveOrder$Yard" "to" "[I" ∈ xtb) (hd : decode cc pc = .ok (.getfield index, 3)) (k : XAt (ωC D a b) Γ (pc + 3) lv (.ref (a 8) :: vs) S) : XAt (ωC D a b) Γ pc lv (.ref (a 1) :: vs) S := x_get (q := 1) (ci := 5) (k0 := 1) (T := TX5) (N := 9) pc C rfl rfl wiX5 (by decide) rfl hl0 rfl hd k
theorem gX5_below (pc : Nat) (C : Cx (ωC D a b) Γ cc own ret l0 rm nL0 out0) {index : Nat} (hl0 : Cond.fieldLink own index "GraveOrder$Yard" "below" "[I" ∈ xtb) (hd : decode cc pc = .ok (.getfield index, 3)) (k : XAt (ωC D a b) Γ (pc + 3) lv (.ref (a 9) :: vs) S) : XAt (ωC D a b) Γ pc lv (.ref (a 1) :: vs) S := x_get (q := 1) (ci := 5) (k0 := 2) (T := TX5) (N := 9) pc C rfl rfl wiX5 (by decide) rfl hl0 rfl hd k
theorem gX5_kinds (pc : Nat) (C : Cx (ωC D a b) Γ cc own ret l0 rm nL0 out0) {index : Nat} (hl0 : Cond.fieldLink own index "GraveOrder$Yard" "kinds" "[I" ∈ xtb) (hd : decode cc pc = .ok (.getfield index, 3)) (k : XAt (ωC D a b) Γ (pc + 3) lv (.ref (a 10) :: vs) S) : XAt (ωC D a b) Γ pc lv (.ref (a 1) :: vs) S := x_get (q := 1) (ci := 5) (k0 := 3) (T := TX5) (N := 9) pc C rfl rfl wiX5 (by decide) rfl hl0 rfl hd k
theorem gX5_graves (pc : Nat) (C : Cx (ωC D a b) Γ cc own ret l0 rm nL0 out0) {index : Nat} (hl0 : Cond.fieldLink own index "GraveOrder$Yard" "graves" "I" ∈ xtb) (hd : decode cc pc = .ok (.getfield index, 3)) (k : XAt (ωC D a b) Γ (pc + 3) lv (.int (S 1 4) :: vs) S) : XAt (ωC D a b) Γ pc lv (.ref (a 1) :: vs) S := x_get (q := 1) (ci := 5) (k0 := 4) (T := TX5) (N := 9) pc C rfl rfl wiX5 (by decide) rfl hl0 rfl hd k
theorem pX5_graves (pc : Nat) (C : Cx (ωC D a b) Γ cc own ret l0 rm nL0 out0) {index : Nat} {v : Int32} (hl0 : Cond.fieldLink own index "GraveOrder$Yard" "graves" "I" ∈ xtb) (hd : decode cc pc = .ok (.putfield index, 3)) (k : XAt (ωC D a b) Γ (pc + 3) lv vs (xst S 1 4 v)) : XAt (ωC D a b) Γ pc lv (.int v :: .ref (a 1) :: vs) S := x_put (q := 1) (ci := 5) (k0 := 4) (T := TX5) (N := 9) (ty0 := tyX5) (ty := .int) pc C rfl rfl wiX5 tyX5_ok nmX5 (by decide) rfl rfl rfl rfl (by simp) rfl hl0 hd k
theorem gX5_robbedBits (pc : Nat) (C : Cx (ωC D a b) Γ cc own ret l0 rm nL0 out0) {index : Nat} (hl0 : Cond.fieldLink own index "GraveOrder$Yard" "robbedBits" "I" ∈ xtb) (hd : decode cc pc = .ok (.getfield index, 3)) (k : XAt (ωC D a b) Γ (pc + 3) lv (.int (S 1 5) :: vs) S) : XAt (ωC D a b) Γ pc lv (.ref (a 1) :: vs) S := x_get (q := 1) (ci := 5) (k0 := 5) (T := TX5) (N := 9) pc C rfl rfl wiX5 (by decide) rfl hl0 rfl hd k
theorem pX5_robbedBits (pc : Nat) (C : Cx (ωC D a b) Γ cc own ret l0 rm nL0 out0) {index : Nat} {v : Int32} (hl0 : Cond.fieldLink own index "GraveOrder$Yard" "robbedBits" "I" ∈ xtb) (hd : decode cc pc = .ok (.putfield index, 3)) (k : XAt (ωC D a b) Γ (pc + 3) lv vs (xst S 1 5 v)) : XAt (ωC D a b) Γ pc lv (.int v :: .ref (a 1) :: vs) S := x_put (q := 1) (ci := 5) (k0 := 5) (T := TX5) (N := 9) (ty0 := tyX5) (ty := .int) pc C rfl rfl wiX5 tyX5_ok nmX5 (by decide) rfl rfl rfl rfl (by simp) rfl hl0 hd k
theorem gX5_overs (pc : Nat) (C : Cx (ωC D a b) Γ cc own ret l0 rm nL0 out0) {index : Nat} (hl0 : Cond.fieldLink own index "GraveOrder$Yard" "overs" "I" ∈ xtb) (hd : decode cc pc = .ok (.getfield index, 3)) (k : XAt (ωC D a b) Γ (pc + 3) lv (.int (S 1 6) :: vs) S) : XAt (ωC D a b) Γ pc lv (.ref (a 1) :: vs) S := x_get (q := 1) (ci := 5) (k0 := 6) (T := TX5) (N := 9) pc C rfl rfl wiX5 (by decide) rfl hl0 rfl hd k
theorem pX5_overs (pc : Nat) (C : Cx (ωC D a b) Γ cc own ret l0 rm nL0 out0) {index : Nat} {v : Int32} (hl0 : Cond.fieldLink own index "GraveOrder$Yard" "overs" "I" ∈ xtb) (hd : decode cc pc = .ok (.putfield index, 3)) (k : XAt (ωC D a b) Γ (pc + 3) lv vs (xst S 1 6 v)) : XAt (ωC D a b) Γ pc lv (.int v :: .ref (a 1) :: vs) S := x_put (q := 1) (ci := 5) (k0 := 6) (T := TX5) (N := 9) (ty0 := tyX5) (ty := .int) pc C rfl rfl wiX5 tyX5_ok nmX5 (by decide) rfl rfl rfl rfl (by simp) rfl hl0 hd k
theorem gX5_weightOnes (pc : Nat) (C : Cx (ωC D a b) Γ cc own ret l0 rm nL0 out0) {index : Nat} (hl0 : Cond.fieldLink own index "GraveOrder$Yard" "weightOnes" "I" ∈ xtb) (hd : decode cc pc = .ok (.getfield index, 3)) (k : XAt (ωC D a b) Γ (pc + 3) lv (.int (S 1 7) :: vs) S) : XAt (ωC D a b) Γ pc lv (.ref (a 1) :: vs) S := x_get (q := 1) (ci := 5) (k0 := 7) (T := TX5) (N := 9) pc C rfl rfl wiX5 (by decide) rfl hl0 rfl hd k
theorem pX5_weightOnes (pc : Nat) (C : Cx (ωC D a b) Γ cc own ret l0 rm nL0 out0) {index : Nat} {v : Int32} (hl0 : Cond.fieldLink own index "GraveOrder$Yard" "weightOnes" "I" ∈ xtb) (hd : decode cc pc = .ok (.putfield index, 3)) (k : XAt (ωC D a b) Γ (pc + 3) lv vs (xst S 1 7 v)) : XAt (ωC D a b) Γ pc lv (.int v :: .ref (a 1) :: vs) S := x_put (q := 1) (ci := 5) (k0 := 7) (T := TX5) (N := 9) (ty0 := tyX5) (ty := .int) pc C rfl rfl wiX5 tyX5_ok nmX5 (by decide) rfl rfl rfl rfl (by simp) rfl hl0 hd k
theorem gX5_weightTwos (pc : Nat) (C : Cx (ωC D a b) Γ cc own ret l0 rm nL0 out0) {index : Nat} (hl0 : Cond.fieldLink own index "GraveOrder$Yard" "weightTwos" "I" ∈ xtb) (hd : decode cc pc = .ok (.getfield index, 3)) (k : XAt (ωC D a b) Γ (pc + 3) lv (.int (S 1 8) :: vs) S) : XAt (ωC D a b) Γ pc lv (.ref (a 1) :: vs) S := x_get (q := 1) (ci := 5) (k0 := 8) (T := TX5) (N := 9) pc C rfl rfl wiX5 (by decide) rfl hl0 rfl hd k
theorem pX5_weightTwos (pc : Nat) (C : Cx (ωC D a b) Γ cc own ret l0 rm nL0 out0) {index : Nat} {v : Int32} (hl0 : Cond.fieldLink own index "GraveOrder$Yard" "weightTwos" "I" ∈ xtb) (hd : decode cc pc = .ok (.putfield index, 3)) (k : XAt (ωC D a b) Γ (pc + 3) lv vs (xst S 1 8 v)) : XAt (ωC D a b) Γ pc lv (.int v :: .ref (a 1) :: vs) S := x_put (q := 1) (ci := 5) (k0 := 8) (T := TX5) (N := 9) (ty0 := tyX5) (ty := .int) pc C rfl rfl wiX5 tyX5_ok nmX5 (by decide) rfl rfl rfl rfl (by simp) rfl hl0 hd k
theorem gX2_bytes (pc : Nat) (C : Cx (ωC D a b) Γ cc own ret l0 rm nL0 out0) {index : Nat} (hl0 : Cond.fieldLink own index "GraveOrder$Line" "bytes" "[I" ∈ xtb) (hd : decode cc pc = .ok (.getfield index, 3)) (k : XAt (ωC D a b) Γ (pc + 3) lv (.ref (a 11) :: vs) S) : XAt (ωC D a b) Γ pc lv (.ref (a 2) :: vs) S := x_get (q := 2) (ci := 2) (k0 := 0) (T := TX2) (N := 2) pc C rfl rfl wiX2 (by decide) rfl hl0 rfl hd k
theorem gX2_length (pc : Nat) (C : Cx (ωC D a b) Γ cc own ret l0 rm nL0 out0) {index : Nat} (hl0 : Cond.fieldLink own index "GraveOrder$Line" "length" "I" ∈ xtb) (hd : decode cc pc = .ok (.getfield index, 3)) (k : XAt (ωC D a b) Γ (pc + 3) lv (.int (S 2 1) :: vs) S) : XAt (ωC D a b) Γ pc lv (.ref (a 2) :: vs) S := x_get (q := 2) (ci := 2) (k0 := 1) (T := TX2) (N := 2) pc C rfl rfl wiX2 (by decide) rfl hl0 rfl hd k
theorem pX2_length (pc : Nat) (C : Cx (ωC D a b) Γ cc own ret l0 rm nL0 out0) {index : Nat} {v : Int32} (hl0 : Cond.fieldLink own index "GraveOrder$Line" "length" "I" ∈ xtb) (hd : decode cc pc = .ok (.putfield index, 3)) (k : XAt (ωC D a b) Γ (pc + 3) lv vs (xst S 2 1 v)) : XAt (ωC D a b) Γ pc lv (.int v :: .ref (a 2) :: vs) S := x_put (q := 2) (ci := 2) (k0 := 1) (T := TX2) (N := 2) (ty0 := tyX2) (ty := .int) pc C rfl rfl wiX2 tyX2_ok nmX2 (by decide) rfl rfl rfl rfl (by simp) rfl hl0 hd k
theorem gX0_times (pc : Nat) (C : Cx (ωC D a b) Γ cc own ret l0 rm nL0 out0) {index : Nat} (hl0 : Cond.fieldLink own index "GraveOrder$Finds" "times" "[I" ∈ xtb) (hd : decode cc pc = .ok (.getfield index, 3)) (k : XAt (ωC D a b) Γ (pc + 3) lv (.ref (a 12) :: vs) S) : XAt (ωC D a b) Γ pc lv (.ref (a 3) :: vs) S := x_get (q := 3) (ci := 0) (k0 := 0) (T := TX0) (N := 5) pc C rfl rfl wiX0 (by decide) rfl hl0 rfl hd k
theorem gX0_graves (pc : Nat) (C : Cx (ωC D a b) Γ cc own ret l0 rm nL0 out0) {index : Nat} (hl0 : Cond.fieldLink own index "GraveOrder$Finds" "graves" "[I" ∈ xtb) (hd : decode cc pc = .ok (.getfield index, 3)) (k : XAt (ωC D a b) Γ (pc + 3) lv (.ref (a 13) :: vs) S) : XAt (ωC D a b) Γ pc lv (.ref (a 3) :: vs) S := x_get (q := 3) (ci := 0) (k0 := 1) (T := TX0) (N := 5) pc C rfl rfl wiX0 (by decide) rfl hl0 rfl hd k
theorem gX0_kinds (pc : Nat) (C : Cx (ωC D a b) Γ cc own ret l0 rm nL0 out0) {index : Nat} (hl0 : Cond.fieldLink own index "GraveOrder$Finds" "kinds" "[I" ∈ xtb) (hd : decode cc pc = .ok (.getfield index, 3)) (k : XAt (ωC D a b) Γ (pc + 3) lv (.ref (a 14) :: vs) S) : XAt (ωC D a b) Γ pc lv (.ref (a 3) :: vs) S := x_get (q := 3) (ci := 0) (k0 := 2) (T := TX0) (N := 5) pc C rfl rfl wiX0 (by decide) rfl hl0 rfl hd k
theorem gX0_there (pc : Nat) (C : Cx (ωC D a b) Γ cc own ret l0 rm nL0 out0) {index : Nat} (hl0 : Cond.fieldLink own index "GraveOrder$Finds" "there" "[Z" ∈ xtb) (hd : decode cc pc = .ok (.getfield index, 3)) (k : XAt (ωC D a b) Γ (pc + 3) lv (.ref (a 15) :: vs) S) : XAt (ωC D a b) Γ pc lv (.ref (a 3) :: vs) S := x_get (q := 3) (ci := 0) (k0 := 3) (T := TX0) (N := 5) pc C rfl rfl wiX0 (by decide) rfl hl0 rfl hd k
theorem gX0_size (pc : Nat) (C : Cx (ωC D a b) Γ cc own ret l0 rm nL0 out0) {index : Nat} (hl0 : Cond.fieldLink own index "GraveOrder$Finds" "size" "I" ∈ xtb) (hd : decode cc pc = .ok (.getfield index, 3)) (k : XAt (ωC D a b) Γ (pc + 3) lv (.int (S 3 4) :: vs) S) : XAt (ωC D a b) Γ pc lv (.ref (a 3) :: vs) S := x_get (q := 3) (ci := 0) (k0 := 4) (T := TX0) (N := 5) pc C rfl rfl wiX0 (by decide) rfl hl0 rfl hd k
theorem pX0_size (pc : Nat) (C : Cx (ωC D a b) Γ cc own ret l0 rm nL0 out0) {index : Nat} {v : Int32} (hl0 : Cond.fieldLink own index "GraveOrder$Finds" "size" "I" ∈ xtb) (hd : decode cc pc = .ok (.putfield index, 3)) (k : XAt (ωC D a b) Γ (pc + 3) lv vs (xst S 3 4 v)) : XAt (ωC D a b) Γ pc lv (.int v :: .ref (a 3) :: vs) S := x_put (q := 3) (ci := 0) (k0 := 4) (T := TX0) (N := 5) (ty0 := tyX0) (ty := .int) pc C rfl rfl wiX0 tyX0_ok nmX0 (by decide) rfl rfl rfl rfl (by simp) rfl hl0 hd k
theorem gX3_yard (pc : Nat) (C : Cx (ωC D a b) Γ cc own ret l0 rm nL0 out0) {index : Nat} (hl0 : Cond.fieldLink own index "GraveOrder$Orders" "yard" "LGraveOrder$Yard;" ∈ xtb) (hd : decode cc pc = .ok (.getfield index, 3)) (k : XAt (ωC D a b) Γ (pc + 3) lv (.ref (a 1) :: vs) S) : XAt (ωC D a b) Γ pc lv (.ref (a 4) :: vs) S := x_get (q := 4) (ci := 3) (k0 := 0) (T := TX3) (N := 16) pc C rfl rfl wiX3 (by decide) rfl hl0 rfl hd k
theorem gX3_seen (pc : Nat) (C : Cx (ωC D a b) Γ cc own ret l0 rm nL0 out0) {index : Nat} (hl0 : Cond.fieldLink own index "GraveOrder$Orders" "seen" "[I" ∈ xtb) (hd : decode cc pc = .ok (.getfield index, 3)) (k : XAt (ωC D a b) Γ (pc + 3) lv (.ref (a 16) :: vs) S) : XAt (ωC D a b) Γ pc lv (.ref (a 4) :: vs) S := x_get (q := 4) (ci := 3) (k0 := 1) (T := TX3) (N := 16) pc C rfl rfl wiX3 (by decide) rfl hl0 rfl hd k
theorem gX3_year (pc : Nat) (C : Cx (ωC D a b) Γ cc own ret l0 rm nL0 out0) {index : Nat} (hl0 : Cond.fieldLink own index "GraveOrder$Orders" "year" "[I" ∈ xtb) (hd : decode cc pc = .ok (.getfield index, 3)) (k : XAt (ωC D a b) Γ (pc + 3) lv (.ref (a 17) :: vs) S) : XAt (ωC D a b) Γ pc lv (.ref (a 4) :: vs) S := x_get (q := 4) (ci := 3) (k0 := 2) (T := TX3) (N := 16) pc C rfl rfl wiX3 (by decide) rfl hl0 rfl hd k
theorem gX3_steps (pc : Nat) (C : Cx (ωC D a b) Γ cc own ret l0 rm nL0 out0) {index : Nat} (hl0 : Cond.fieldLink own index "GraveOrder$Orders" "steps" "[I" ∈ xtb) (hd : decode cc pc = .ok (.getfield index, 3)) (k : XAt (ωC D a b) Γ (pc + 3) lv (.ref (a 18) :: vs) S) : XAt (ωC D a b) Γ pc lv (.ref (a 4) :: vs) S := x_get (q := 4) (ci := 3) (k0 := 3) (T := TX3) (N := 16) pc C rfl rfl wiX3 (by decide) rfl hl0 rfl hd k
theorem gX3_ahead (pc : Nat) (C : Cx (ωC D a b) Γ cc own ret l0 rm nL0 out0) {index : Nat} (hl0 : Cond.fieldLink own index "GraveOrder$Orders" "ahead" "[I" ∈ xtb) (hd : decode cc pc = .ok (.getfield index, 3)) (k : XAt (ωC D a b) Γ (pc + 3) lv (.ref (a 19) :: vs) S) : XAt (ωC D a b) Γ pc lv (.ref (a 4) :: vs) S := x_get (q := 4) (ci := 3) (k0 := 4) (T := TX3) (N := 16) pc C rfl rfl wiX3 (by decide) rfl hl0 rfl hd k
theorem gX3_behind (pc : Nat) (C : Cx (ωC D a b) Γ cc own ret l0 rm nL0 out0) {index : Nat} (hl0 : Cond.fieldLink own index "GraveOrder$Orders" "behind" "[I" ∈ xtb) (hd : decode cc pc = .ok (.getfield index, 3)) (k : XAt (ωC D a b) Γ (pc + 3) lv (.ref (a 20) :: vs) S) : XAt (ωC D a b) Γ pc lv (.ref (a 4) :: vs) S := x_get (q := 4) (ci := 3) (k0 := 5) (T := TX3) (N := 16) pc C rfl rfl wiX3 (by decide) rfl hl0 rfl hd k
theorem gX3_ways (pc : Nat) (C : Cx (ωC D a b) Γ cc own ret l0 rm nL0 out0) {index : Nat} (hl0 : Cond.fieldLink own index "GraveOrder$Orders" "ways" "[I" ∈ xtb) (hd : decode cc pc = .ok (.getfield index, 3)) (k : XAt (ωC D a b) Γ (pc + 3) lv (.ref (a 21) :: vs) S) : XAt (ωC D a b) Γ pc lv (.ref (a 4) :: vs) S := x_get (q := 4) (ci := 3) (k0 := 6) (T := TX3) (N := 16) pc C rfl rfl wiX3 (by decide) rfl hl0 rfl hd k
theorem gX3_row (pc : Nat) (C : Cx (ωC D a b) Γ cc own ret l0 rm nL0 out0) {index : Nat} (hl0 : Cond.fieldLink own index "GraveOrder$Orders" "row" "[I" ∈ xtb) (hd : decode cc pc = .ok (.getfield index, 3)) (k : XAt (ωC D a b) Γ (pc + 3) lv (.ref (a 22) :: vs) S) : XAt (ωC D a b) Γ pc lv (.ref (a 4) :: vs) S := x_get (q := 4) (ci := 3) (k0 := 7) (T := TX3) (N := 16) pc C rfl rfl wiX3 (by decide) rfl hl0 rfl hd k
theorem gX3_withGapsRow (pc : Nat) (C : Cx (ωC D a b) Γ cc own ret l0 rm nL0 out0) {index : Nat} (hl0 : Cond.fieldLink own index "GraveOrder$Orders" "withGapsRow" "[I" ∈ xtb) (hd : decode cc pc = .ok (.getfield index, 3)) (k : XAt (ωC D a b) Γ (pc + 3) lv (.ref (a 23) :: vs) S) : XAt (ωC D a b) Γ pc lv (.ref (a 4) :: vs) S := x_get (q := 4) (ci := 3) (k0 := 8) (T := TX3) (N := 16) pc C rfl rfl wiX3 (by decide) rfl hl0 rfl hd k
theorem gX3_firstHalf (pc : Nat) (C : Cx (ωC D a b) Γ cc own ret l0 rm nL0 out0) {index : Nat} (hl0 : Cond.fieldLink own index "GraveOrder$Orders" "firstHalf" "[I" ∈ xtb) (hd : decode cc pc = .ok (.getfield index, 3)) (k : XAt (ωC D a b) Γ (pc + 3) lv (.ref (a 24) :: vs) S) : XAt (ωC D a b) Γ pc lv (.ref (a 4) :: vs) S := x_get (q := 4) (ci := 3) (k0 := 9) (T := TX3) (N := 16) pc C rfl rfl wiX3 (by decide) rfl hl0 rfl hd k
theorem gX3_secondHalf (pc : Nat) (C : Cx (ωC D a b) Γ cc own ret l0 rm nL0 out0) {index : Nat} (hl0 : Cond.fieldLink own index "GraveOrder$Orders" "secondHalf" "[I" ∈ xtb) (hd : decode cc pc = .ok (.getfield index, 3)) (k : XAt (ωC D a b) Γ (pc + 3) lv (.ref (a 25) :: vs) S) : XAt (ωC D a b) Γ pc lv (.ref (a 4) :: vs) S := x_get (q := 4) (ci := 3) (k0 := 10) (T := TX3) (N := 16) pc C rfl rfl wiX3 (by decide) rfl hl0 rfl hd k
theorem gX3_reached (pc : Nat) (C : Cx (ωC D a b) Γ cc own ret l0 rm nL0 out0) {index : Nat} (hl0 : Cond.fieldLink own index "GraveOrder$Orders" "reached" "[Z" ∈ xtb) (hd : decode cc pc = .ok (.getfield index, 3)) (k : XAt (ωC D a b) Γ (pc + 3) lv (.ref (a 26) :: vs) S) : XAt (ωC D a b) Γ pc lv (.ref (a 4) :: vs) S := x_get (q := 4) (ci := 3) (k0 := 11) (T := TX3) (N := 16) pc C rfl rfl wiX3 (by decide) rfl hl0 rfl hd k
theorem gX3_stale (pc : Nat) (C : Cx (ωC D a b) Γ cc own ret l0 rm nL0 out0) {index : Nat} (hl0 : Cond.fieldLink own index "GraveOrder$Orders" "stale" "Z" ∈ xtb) (hd : decode cc pc = .ok (.getfield index, 3)) (k : XAt (ωC D a b) Γ (pc + 3) lv (.int (S 4 12) :: vs) S) : XAt (ωC D a b) Γ pc lv (.ref (a 4) :: vs) S := x_get (q := 4) (ci := 3) (k0 := 12) (T := TX3) (N := 16) pc C rfl rfl wiX3 (by decide) rfl hl0 rfl hd k
theorem pX3_stale (pc : Nat) (C : Cx (ωC D a b) Γ cc own ret l0 rm nL0 out0) {index : Nat} {v : Int32} (hz : xbool v = true) (hl0 : Cond.fieldLink own index "GraveOrder$Orders" "stale" "Z" ∈ xtb) (hd : decode cc pc = .ok (.putfield index, 3)) (k : XAt (ωC D a b) Γ (pc + 3) lv vs (xst S 4 12 v)) : XAt (ωC D a b) Γ pc lv (.int v :: .ref (a 4) :: vs) S := x_put (q := 4) (ci := 3) (k0 := 12) (T := TX3) (N := 16) (ty0 := tyX3) (ty := .boolean) pc C rfl rfl wiX3 tyX3_ok nmX3 (by decide) rfl rfl (xnar hz) (xfit hz) (by simp) rfl hl0 hd k
theorem gX3_spreadStale (pc : Nat) (C : Cx (ωC D a b) Γ cc own ret l0 rm nL0 out0) {index : Nat} (hl0 : Cond.fieldLink own index "GraveOrder$Orders" "spreadStale" "Z" ∈ xtb) (hd : decode cc pc = .ok (.getfield index, 3)) (k : XAt (ωC D a b) Γ (pc + 3) lv (.int (S 4 13) :: vs) S) : XAt (ωC D a b) Γ pc lv (.ref (a 4) :: vs) S := x_get (q := 4) (ci := 3) (k0 := 13) (T := TX3) (N := 16) pc C rfl rfl wiX3 (by decide) rfl hl0 rfl hd k
theorem pX3_spreadStale (pc : Nat) (C : Cx (ωC D a b) Γ cc own ret l0 rm nL0 out0) {index : Nat} {v : Int32} (hz : xbool v = true) (hl0 : Cond.fieldLink own index "GraveOrder$Orders" "spreadStale" "Z" ∈ xtb) (hd : decode cc pc = .ok (.putfield index, 3)) (k : XAt (ωC D a b) Γ (pc + 3) lv vs (xst S 4 13 v)) : XAt (ωC D a b) Γ pc lv (.int v :: .ref (a 4) :: vs) S := x_put (q := 4) (ci := 3) (k0 := 13) (T := TX3) (N := 16) (ty0 := tyX3) (ty := .boolean) pc C rfl rfl wiX3 tyX3_ok nmX3 (by decide) rfl rfl (xnar hz) (xfit hz) (by simp) rfl hl0 hd k
theorem gX3_leftOutStale (pc : Nat) (C : Cx (ωC D a b) Γ cc own ret l0 rm nL0 out0) {index : Nat} (hl0 : Cond.fieldLink own index "GraveOrder$Orders" "leftOutStale" "Z" ∈ xtb) (hd : decode cc pc = .ok (.getfield index, 3)) (k : XAt (ωC D a b) Γ (pc + 3) lv (.int (S 4 14) :: vs) S) : XAt (ωC D a b) Γ pc lv (.ref (a 4) :: vs) S := x_get (q := 4) (ci := 3) (k0 := 14) (T := TX3) (N := 16) pc C rfl rfl wiX3 (by decide) rfl hl0 rfl hd k
theorem pX3_leftOutStale (pc : Nat) (C : Cx (ωC D a b) Γ cc own ret l0 rm nL0 out0) {index : Nat} {v : Int32} (hz : xbool v = true) (hl0 : Cond.fieldLink own index "GraveOrder$Orders" "leftOutStale" "Z" ∈ xtb) (hd : decode cc pc = .ok (.putfield index, 3)) (k : XAt (ωC D a b) Γ (pc + 3) lv vs (xst S 4 14 v)) : XAt (ωC D a b) Γ pc lv (.int v :: .ref (a 4) :: vs) S := x_put (q := 4) (ci := 3) (k0 := 14) (T := TX3) (N := 16) (ty0 := tyX3) (ty := .boolean) pc C rfl rfl wiX3 tyX3_ok nmX3 (by decide) rfl rfl (xnar hz) (xfit hz) (by simp) rfl hl0 hd k
theorem gX3_leftOutBits (pc : Nat) (C : Cx (ωC D a b) Γ cc own ret l0 rm nL0 out0) {index : Nat} (hl0 : Cond.fieldLink own index "GraveOrder$Orders" "leftOutBits" "I" ∈ xtb) (hd : decode cc pc = .ok (.getfield index, 3)) (k : XAt (ωC D a b) Γ (pc + 3) lv (.int (S 4 15) :: vs) S) : XAt (ωC D a b) Γ pc lv (.ref (a 4) :: vs) S := x_get (q := 4) (ci := 3) (k0 := 15) (T := TX3) (N := 16) pc C rfl rfl wiX3 (by decide) rfl hl0 rfl hd k
theorem pX3_leftOutBits (pc : Nat) (C : Cx (ωC D a b) Γ cc own ret l0 rm nL0 out0) {index : Nat} {v : Int32} (hl0 : Cond.fieldLink own index "GraveOrder$Orders" "leftOutBits" "I" ∈ xtb) (hd : decode cc pc = .ok (.putfield index, 3)) (k : XAt (ωC D a b) Γ (pc + 3) lv vs (xst S 4 15 v)) : XAt (ωC D a b) Γ pc lv (.int v :: .ref (a 4) :: vs) S := x_put (q := 4) (ci := 3) (k0 := 15) (T := TX3) (N := 16) (ty0 := tyX3) (ty := .int) pc C rfl rfl wiX3 tyX3_ok nmX3 (by decide) rfl rfl rfl rfl (by simp) rfl hl0 hd k
theorem gX1_yard (pc : Nat) (C : Cx (ωC D a b) Γ cc own ret l0 rm nL0 out0) {index : Nat} (hl0 : Cond.fieldLink own index "GraveOrder$FirstRow" "yard" "LGraveOrder$Yard;" ∈ xtb) (hd : decode cc pc = .ok (.getfield index, 3)) (k : XAt (ωC D a b) Γ (pc + 3) lv (.ref (a 1) :: vs) S) : XAt (ωC D a b) Γ pc lv (.ref (a 5) :: vs) S := x_get (q := 5) (ci := 1) (k0 := 0) (T := TX1) (N := 4) pc C rfl rfl wiX1 (by decide) rfl hl0 rfl hd k
theorem gX1_row (pc : Nat) (C : Cx (ωC D a b) Γ cc own ret l0 rm nL0 out0) {index : Nat} (hl0 : Cond.fieldLink own index "GraveOrder$FirstRow" "row" "[I" ∈ xtb) (hd : decode cc pc = .ok (.getfield index, 3)) (k : XAt (ωC D a b) Γ (pc + 3) lv (.ref (a 22) :: vs) S) : XAt (ωC D a b) Γ pc lv (.ref (a 5) :: vs) S := x_get (q := 5) (ci := 1) (k0 := 1) (T := TX1) (N := 4) pc C rfl rfl wiX1 (by decide) rfl hl0 rfl hd k
theorem gX1_turned (pc : Nat) (C : Cx (ωC D a b) Γ cc own ret l0 rm nL0 out0) {index : Nat} (hl0 : Cond.fieldLink own index "GraveOrder$FirstRow" "turned" "[I" ∈ xtb) (hd : decode cc pc = .ok (.getfield index, 3)) (k : XAt (ωC D a b) Γ (pc + 3) lv (.ref (a 27) :: vs) S) : XAt (ωC D a b) Γ pc lv (.ref (a 5) :: vs) S := x_get (q := 5) (ci := 1) (k0 := 2) (T := TX1) (N := 4) pc C rfl rfl wiX1 (by decide) rfl hl0 rfl hd k
theorem gX1_laid (pc : Nat) (C : Cx (ωC D a b) Γ cc own ret l0 rm nL0 out0) {index : Nat} (hl0 : Cond.fieldLink own index "GraveOrder$FirstRow" "laid" "[I" ∈ xtb) (hd : decode cc pc = .ok (.getfield index, 3)) (k : XAt (ωC D a b) Γ (pc + 3) lv (.ref (a 28) :: vs) S) : XAt (ωC D a b) Γ pc lv (.ref (a 5) :: vs) S := x_get (q := 5) (ci := 1) (k0 := 3) (T := TX1) (N := 4) pc C rfl rfl wiX1 (by decide) rfl hl0 rfl hd k
theorem gX4_items (pc : Nat) (C : Cx (ωC D a b) Γ cc own ret l0 rm nL0 out0) {q index : Nat} (hq : shC q = true) (hl0 : Cond.fieldLink own index "GraveOrder$Sheet" "items" "[I" ∈ xtb) (hd : decode cc pc = .ok (.getfield index, 3)) (k : XAt (ωC D a b) Γ (pc + 3) lv (.ref (a (q + 4)) :: vs) S) : XAt (ωC D a b) Γ pc lv (.ref (a q) :: vs) S := x_get (q := q) (ci := 4) (k0 := 0) (T := TX4) (N := 4) pc C (wC_sh hq) rfl wiX4 (by decide) rfl hl0 rfl hd k
theorem gX4_lost (pc : Nat) (C : Cx (ωC D a b) Γ cc own ret l0 rm nL0 out0) {q index : Nat} (hq : shC q = true) (hl0 : Cond.fieldLink own index "GraveOrder$Sheet" "lost" "Z" ∈ xtb) (hd : decode cc pc = .ok (.getfield index, 3)) (k : XAt (ωC D a b) Γ (pc + 3) lv (.int (S q 1) :: vs) S) : XAt (ωC D a b) Γ pc lv (.ref (a q) :: vs) S := x_get (q := q) (ci := 4) (k0 := 1) (T := TX4) (N := 4) pc C (wC_sh hq) rfl wiX4 (by decide) rfl hl0 rfl hd k
theorem pX4_lost (pc : Nat) (C : Cx (ωC D a b) Γ cc own ret l0 rm nL0 out0) {q index : Nat} {v : Int32} (hq : shC q = true) (hz : xbool v = true) (hl0 : Cond.fieldLink own index "GraveOrder$Sheet" "lost" "Z" ∈ xtb) (hd : decode cc pc = .ok (.putfield index, 3)) (k : XAt (ωC D a b) Γ (pc + 3) lv vs (xst S q 1 v)) : XAt (ωC D a b) Γ pc lv (.int v :: .ref (a q) :: vs) S := x_put (q := q) (ci := 4) (k0 := 1) (T := TX4) (N := 4) (ty0 := tyX4) (ty := .boolean) pc C (wC_sh hq) rfl wiX4 tyX4_ok nmX4 (by decide) rfl rfl (xnar hz) (xfit hz) (by simp) (wC_shset1 hq) hl0 hd k
theorem gX4_form (pc : Nat) (C : Cx (ωC D a b) Γ cc own ret l0 rm nL0 out0) {q index : Nat} (hq : shC q = true) (hl0 : Cond.fieldLink own index "GraveOrder$Sheet" "form" "I" ∈ xtb) (hd : decode cc pc = .ok (.getfield index, 3)) (k : XAt (ωC D a b) Γ (pc + 3) lv (.int (S q 2) :: vs) S) : XAt (ωC D a b) Γ pc lv (.ref (a q) :: vs) S := x_get (q := q) (ci := 4) (k0 := 2) (T := TX4) (N := 4) pc C (wC_sh hq) rfl wiX4 (by decide) rfl hl0 rfl hd k
theorem pX4_form (pc : Nat) (C : Cx (ωC D a b) Γ cc own ret l0 rm nL0 out0) {q index : Nat} {v : Int32} (hq : shC q = true) (hl0 : Cond.fieldLink own index "GraveOrder$Sheet" "form" "I" ∈ xtb) (hd : decode cc pc = .ok (.putfield index, 3)) (k : XAt (ωC D a b) Γ (pc + 3) lv vs (xst S q 2 v)) : XAt (ωC D a b) Γ pc lv (.int v :: .ref (a q) :: vs) S := x_put (q := q) (ci := 4) (k0 := 2) (T := TX4) (N := 4) (ty0 := tyX4) (ty := .int) pc C (wC_sh hq) rfl wiX4 tyX4_ok nmX4 (by decide) rfl rfl rfl rfl (by simp) (wC_shset2 hq) hl0 hd k
theorem gX4_size (pc : Nat) (C : Cx (ωC D a b) Γ cc own ret l0 rm nL0 out0) {q index : Nat} (hq : shC q = true) (hl0 : Cond.fieldLink own index "GraveOrder$Sheet" "size" "I" ∈ xtb) (hd : decode cc pc = .ok (.getfield index, 3)) (k : XAt (ωC D a b) Γ (pc + 3) lv (.int (S q 3) :: vs) S) : XAt (ωC D a b) Γ pc lv (.ref (a q) :: vs) S := x_get (q := q) (ci := 4) (k0 := 3) (T := TX4) (N := 4) pc C (wC_sh hq) rfl wiX4 (by decide) rfl hl0 rfl hd k
theorem pX4_size (pc : Nat) (C : Cx (ωC D a b) Γ cc own ret l0 rm nL0 out0) {q index : Nat} {v : Int32} (hq : shC q = true) (hl0 : Cond.fieldLink own index "GraveOrder$Sheet" "size" "I" ∈ xtb) (hd : decode cc pc = .ok (.putfield index, 3)) (k : XAt (ωC D a b) Γ (pc + 3) lv vs (xst S q 3 v)) : XAt (ωC D a b) Γ pc lv (.int v :: .ref (a q) :: vs) S := x_put (q := q) (ci := 4) (k0 := 3) (T := TX4) (N := 4) (ty0 := tyX4) (ty := .int) pc C (wC_sh hq) rfl wiX4 tyX4_ok nmX4 (by decide) rfl rfl rfl rfl (by simp) (wC_shset3 hq) hl0 hd k
end XWC
end
section
def wR (a : Nat → Nat) (b : Nat → ClassId) (S : XSr) : va_W := [(a 0, .inr (7, [.int (S.1 0 0), .ref (a 1), .ref (a 2), .int (S.1 0 3), .ref (a 3), .int (S.1 0 5), .ref (a 4), .ref (a 5), .int (S.1 0 8), .ref (a 6), .ref (a 7), .ref (a 8), .ref (a 9), .int (S.1 0 13), .int (S.1 0 14), .int (S.1 0 15), .ref (a 10), .int (S.1 0 17), .ref (a 11), .ref (a 12), .ref (a 13), .ref (a 14), .ref (a 15), .int (S.1 0 23), .int (S.1 0 24), .int (S.1 0 25), .long S.2, .ref (a 16), .ref (a 17), .ref (a 18), .ref (a 19), .int (S.1 0 31), .ref (a 20), .ref (a 21), .ref (a 22), .ref (a 23), .ref (a 24), .ref (a 25), .ref (a 26), .int (S.1 0 39)])),
  (a 1, .inl (b 1, 8, .inl (S.1 1))),
  (a 2, .inl (b 2, 8, .inl (S.1 2))),
  (a 3, .inl (b 3, 10, .inl (S.1 3))),
  (a 4, .inl (b 4, 16, .inl (S.1 4))),
  (a 5, .inl (b 5, 16, .inl (S.1 5))),
  (a 6, .inl (b 6, 60, .inl (S.1 6))),
  (a 7, .inl (b 7, 60, .inl (S.1 7))),
  (a 8, .inl (b 8, 60, .inl (S.1 8))),
  (a 9, .inl (b 9, 60, .inl (S.1 9))),
  (a 10, .inl (b 10, 40, .inl (S.1 10))),
  (a 11, .inl (b 11, 40, .inl (S.1 11))),
  (a 12, .inl (b 12, 40, .inl (S.1 12))),
  (a 13, .inl (b 13, 40, .inl (S.1 13))),
  (a 14, .inl (b 14, 8, .inl (S.1 14))),
  (a 15, .inl (b 15, 8, .inl (S.1 15))),
  (a 16, .inl (b 16, 1000, .inl (S.1 16))),
  (a 17, .inl (b 17, 8, .inl (S.1 17))),
  (a 18, .inl (b 18, 8, .inl (S.1 18))),
  (a 19, .inl (b 19, 8, .inl (S.1 19))),
  (a 20, .inl (b 20, 8, .inl (S.1 20))),
  (a 21, .inl (b 21, 8, .inl (S.1 21))),
  (a 22, .inl (b 22, 4, .inl (S.1 22))),
  (a 23, .inl (b 23, 4, .inl (S.1 23))),
  (a 24, .inl (b 24, 4, .inl (S.1 24))),
  (a 25, .inl (b 25, 160, .inl (S.1 25))),
  (a 26, .inl (b 26, 40, .inl (S.1 26)))]
def tyR (b : Nat → ClassId) : List (ClassId × FieldType) := [(b 1, .int), (b 2, .int), (b 3, .int), (b 4, .int), (b 5, .int), (b 6, .int), (b 7, .int), (b 8, .int), (b 9, .int), (b 10, .int), (b 11, .int), (b 12, .int), (b 13, .int), (b 14, .int), (b 15, .int), (b 16, .int), (b 17, .int), (b 18, .int), (b 19, .int), (b 20, .int), (b 21, .int), (b 22, .boolean), (b 23, .int), (b 24, .int), (b 25, .int), (b 26, .int)]
def aR (a : Nat → Nat) : Nat → Prop := fun q => ∃ k, k < 27 ∧ q = a k
def ωR (D : va_G) (a : Nat → Nat) (b : Nat → ClassId) : XW XSr := (D, aR a, tyR b, wR a b)
section XWR
variable {D : va_G} {a : Nat → Nat} {b : Nat → ClassId} {Γ : XG XSr} {cc : ByteArray} {own : String} {ret : Option FieldType} {l0 : Launch} {rm : Room} {nL0 : Nat} {out0 : Option Value × XSr} {lv : List (Nat × Value)} {vs : List Value} {S : XSr}
theorem r_iald1 (pc : Nat) (C : Cx (ωR D a b) Γ cc own ret l0 rm nL0 out0) {i : Int32} (hin : xin i 8 = true) (hd : decode cc pc = .ok (.iaload, 1)) (k : XAt (ωR D a b) Γ (pc + 1) lv (.int (S.1 1 (xti i)) :: vs) S) : XAt (ωR D a b) Γ pc lv (.int i :: .ref (a 1) :: vs) S := x_iald (q := 1) (t := 0) pc C rfl rfl hin hd k
theorem r_iast1 (pc : Nat) (C : Cx (ωR D a b) Γ cc own ret l0 rm nL0 out0) {i x : Int32} (hin : xin i 8 = true) (hd : decode cc pc = .ok (.iastore, 1)) (k : XAt (ωR D a b) Γ (pc + 1) lv vs (xsr S 1 (xti i) x)) : XAt (ωR D a b) Γ pc lv (.int x :: .int i :: .ref (a 1) :: vs) S := x_iast (q := 1) (t := 0) pc C rfl rfl hin rfl hd k
theorem r_iald2 (pc : Nat) (C : Cx (ωR D a b) Γ cc own ret l0 rm nL0 out0) {i : Int32} (hin : xin i 8 = true) (hd : decode cc pc = .ok (.iaload, 1)) (k : XAt (ωR D a b) Γ (pc + 1) lv (.int (S.1 2 (xti i)) :: vs) S) : XAt (ωR D a b) Γ pc lv (.int i :: .ref (a 2) :: vs) S := x_iald (q := 2) (t := 1) pc C rfl rfl hin hd k
theorem r_iast2 (pc : Nat) (C : Cx (ωR D a b) Γ cc own ret l0 rm nL0 out0) {i x : Int32} (hin : xin i 8 = true) (hd : decode cc pc = .ok (.iastore, 1)) (k : XAt (ωR D a b) Γ (pc + 1) lv vs (xsr S 2 (xti i) x)) : XAt (ωR D a b) Γ pc lv (.int x :: .int i :: .ref (a 2) :: vs) S := x_iast (q := 2) (t := 1) pc C rfl rfl hin rfl hd k
theorem r_iald3 (pc : Nat) (C : Cx (ωR D a b) Γ cc own ret l0 rm nL0 out0) {i : Int32} (hin : xin i 10 = true) (hd : decode cc pc = .ok (.iaload, 1)) (k : XAt (ωR D a b) Γ (pc + 1) lv (.int (S.1 3 (xti i)) :: vs) S) : XAt (ωR D a b) Γ pc lv (.int i :: .ref (a 3) :: vs) S := x_iald (q := 3) (t := 2) pc C rfl rfl hin hd k
theorem r_iast3 (pc : Nat) (C : Cx (ωR D a b) Γ cc own ret l0 rm nL0 out0) {i x : Int32} (hin : xin i 10 = true) (hd : decode cc pc = .ok (.iastore, 1)) (k : XAt (ωR D a b) Γ (pc + 1) lv vs (xsr S 3 (xti i) x)) : XAt (ωR D a b) Γ pc lv (.int x :: .int i :: .ref (a 3) :: vs) S := x_iast (q := 3) (t := 2) pc C rfl rfl hin rfl hd k
theorem r_iald4 (pc : Nat) (C : Cx (ωR D a b) Γ cc own ret l0 rm nL0 out0) {i : Int32} (hin : xin i 16 = true) (hd : decode cc pc = .ok (.iaload, 1)) (k : XAt (ωR D a b) Γ (pc + 1) lv (.int (S.1 4 (xti i)) :: vs) S) : XAt (ωR D a b) Γ pc lv (.int i :: .ref (a 4) :: vs) S := x_iald (q := 4) (t := 3) pc C rfl rfl hin hd k
theorem r_iast4 (pc : Nat) (C : Cx (ωR D a b) Γ cc own ret l0 rm nL0 out0) {i x : Int32} (hin : xin i 16 = true) (hd : decode cc pc = .ok (.iastore, 1)) (k : XAt (ωR D a b) Γ (pc + 1) lv vs (xsr S 4 (xti i) x)) : XAt (ωR D a b) Γ pc lv (.int x :: .int i :: .ref (a 4) :: vs) S := x_iast (q := 4) (t := 3) pc C rfl rfl hin rfl hd k
theorem r_iald5 (pc : Nat) (C : Cx (ωR D a b) Γ cc own ret l0 rm nL0 out0) {i : Int32} (hin : xin i 16 = true) (hd : decode cc pc = .ok (.iaload, 1)) (k : XAt (ωR D a b) Γ (pc + 1) lv (.int (S.1 5 (xti i)) :: vs) S) : XAt (ωR D a b) Γ pc lv (.int i :: .ref (a 5) :: vs) S := x_iald (q := 5) (t := 4) pc C rfl rfl hin hd k
theorem r_iast5 (pc : Nat) (C : Cx (ωR D a b) Γ cc own ret l0 rm nL0 out0) {i x : Int32} (hin : xin i 16 = true) (hd : decode cc pc = .ok (.iastore, 1)) (k : XAt (ωR D a b) Γ (pc + 1) lv vs (xsr S 5 (xti i) x)) : XAt (ωR D a b) Γ pc lv (.int x :: .int i :: .ref (a 5) :: vs) S := x_iast (q := 5) (t := 4) pc C rfl rfl hin rfl hd k
theorem r_iald6 (pc : Nat) (C : Cx (ωR D a b) Γ cc own ret l0 rm nL0 out0) {i : Int32} (hin : xin i 60 = true) (hd : decode cc pc = .ok (.iaload, 1)) (k : XAt (ωR D a b) Γ (pc + 1) lv (.int (S.1 6 (xti i)) :: vs) S) : XAt (ωR D a b) Γ pc lv (.int i :: .ref (a 6) :: vs) S := x_iald (q := 6) (t := 5) pc C rfl rfl hin hd k
theorem r_iast6 (pc : Nat) (C : Cx (ωR D a b) Γ cc own ret l0 rm nL0 out0) {i x : Int32} (hin : xin i 60 = true) (hd : decode cc pc = .ok (.iastore, 1)) (k : XAt (ωR D a b) Γ (pc + 1) lv vs (xsr S 6 (xti i) x)) : XAt (ωR D a b) Γ pc lv (.int x :: .int i :: .ref (a 6) :: vs) S := x_iast (q := 6) (t := 5) pc C rfl rfl hin rfl hd k
theorem r_iald7 (pc : Nat) (C : Cx (ωR D a b) Γ cc own ret l0 rm nL0 out0) {i : Int32} (hin : xin i 60 = true) (hd : decode cc pc = .ok (.iaload, 1)) (k : XAt (ωR D a b) Γ (pc + 1) lv (.int (S.1 7 (xti i)) :: vs) S) : XAt (ωR D a b) Γ pc lv (.int i :: .ref (a 7) :: vs) S := x_iald (q := 7) (t := 6) pc C rfl rfl hin hd k
theorem r_iast7 (pc : Nat) (C : Cx (ωR D a b) Γ cc own ret l0 rm nL0 out0) {i x : Int32} (hin : xin i 60 = true) (hd : decode cc pc = .ok (.iastore, 1)) (k : XAt (ωR D a b) Γ (pc + 1) lv vs (xsr S 7 (xti i) x)) : XAt (ωR D a b) Γ pc lv (.int x :: .int i :: .ref (a 7) :: vs) S := x_iast (q := 7) (t := 6) pc C rfl rfl hin rfl hd k
theorem r_iald8 (pc : Nat) (C : Cx (ωR D a b) Γ cc own ret l0 rm nL0 out0) {i : Int32} (hin : xin i 60 = true) (hd : decode cc pc = .ok (.iaload, 1)) (k : XAt (ωR D a b) Γ (pc + 1) lv (.int (S.1 8 (xti i)) :: vs) S) : XAt (ωR D a b) Γ pc lv (.int i :: .ref (a 8) :: vs) S := x_iald (q := 8) (t := 7) pc C rfl rfl hin hd k
theorem r_iast8 (pc : Nat) (C : Cx (ωR D a b) Γ cc own ret l0 rm nL0 out0) {i x : Int32} (hin : xin i 60 = true) (hd : decode cc pc = .ok (.iastore, 1)) (k : XAt (ωR D a b) Γ (pc + 1) lv vs (xsr S 8 (xti i) x)) : XAt (ωR D a b) Γ pc lv (.int x :: .int i :: .ref (a 8) :: vs) S := x_iast (q := 8) (t := 7) pc C rfl rfl hin rfl hd k
theorem r_iald9 (pc : Nat) (C : Cx (ωR D a b) Γ cc own ret l0 rm nL0 out0) {i : Int32} (hin : xin i 60 = true) (hd : decode cc pc = .ok (.iaload, 1)) (k : XAt (ωR D a b) Γ (pc + 1) lv (.int (S.1 9 (xti i)) :: vs) S) : XAt (ωR D a b) Γ pc lv (.int i :: .ref (a 9) :: vs) S := x_iald (q := 9) (t := 8) pc C rfl rfl hin hd k
theorem r_iast9 (pc : Nat) (C : Cx (ωR D a b) Γ cc own ret l0 rm nL0 out0) {i x : Int32} (hin : xin i 60 = true) (hd : decode cc pc = .ok (.iastore, 1)) (k : XAt (ωR D a b) Γ (pc + 1) lv vs (xsr S 9 (xti i) x)) : XAt (ωR D a b) Γ pc lv (.int x :: .int i :: .ref (a 9) :: vs) S := x_iast (q := 9) (t := 8) pc C rfl rfl hin rfl hd k
theorem r_iald10 (pc : Nat) (C : Cx (ωR D a b) Γ cc own ret l0 rm nL0 out0) {i : Int32} (hin : xin i 40 = true) (hd : decode cc pc = .ok (.iaload, 1)) (k : XAt (ωR D a b) Γ (pc + 1) lv (.int (S.1 10 (xti i)) :: vs) S) : XAt (ωR D a b) Γ pc lv (.int i :: .ref (a 10) :: vs) S := x_iald (q := 10) (t := 9) pc C rfl rfl hin hd k
theorem r_iast10 (pc : Nat) (C : Cx (ωR D a b) Γ cc own ret l0 rm nL0 out0) {i x : Int32} (hin : xin i 40 = true) (hd : decode cc pc = .ok (.iastore, 1)) (k : XAt (ωR D a b) Γ (pc + 1) lv vs (xsr S 10 (xti i) x)) : XAt (ωR D a b) Γ pc lv (.int x :: .int i :: .ref (a 10) :: vs) S := x_iast (q := 10) (t := 9) pc C rfl rfl hin rfl hd k
theorem r_iald11 (pc : Nat) (C : Cx (ωR D a b) Γ cc own ret l0 rm nL0 out0) {i : Int32} (hin : xin i 40 = true) (hd : decode cc pc = .ok (.iaload, 1)) (k : XAt (ωR D a b) Γ (pc + 1) lv (.int (S.1 11 (xti i)) :: vs) S) : XAt (ωR D a b) Γ pc lv (.int i :: .ref (a 11) :: vs) S := x_iald (q := 11) (t := 10) pc C rfl rfl hin hd k
theorem r_iast11 (pc : Nat) (C : Cx (ωR D a b) Γ cc own ret l0 rm nL0 out0) {i x : Int32} (hin : xin i 40 = true) (hd : decode cc pc = .ok (.iastore, 1)) (k : XAt (ωR D a b) Γ (pc + 1) lv vs (xsr S 11 (xti i) x)) : XAt (ωR D a b) Γ pc lv (.int x :: .int i :: .ref (a 11) :: vs) S := x_iast (q := 11) (t := 10) pc C rfl rfl hin rfl hd k
theorem r_iald12 (pc : Nat) (C : Cx (ωR D a b) Γ cc own ret l0 rm nL0 out0) {i : Int32} (hin : xin i 40 = true) (hd : decode cc pc = .ok (.iaload, 1)) (k : XAt (ωR D a b) Γ (pc + 1) lv (.int (S.1 12 (xti i)) :: vs) S) : XAt (ωR D a b) Γ pc lv (.int i :: .ref (a 12) :: vs) S := x_iald (q := 12) (t := 11) pc C rfl rfl hin hd k
theorem r_iast12 (pc : Nat) (C : Cx (ωR D a b) Γ cc own ret l0 rm nL0 out0) {i x : Int32} (hin : xin i 40 = true) (hd : decode cc pc = .ok (.iastore, 1)) (k : XAt (ωR D a b) Γ (pc + 1) lv vs (xsr S 12 (xti i) x)) : XAt (ωR D a b) Γ pc lv (.int x :: .int i :: .ref (a 12) :: vs) S := x_iast (q := 12) (t := 11) pc C rfl rfl hin rfl hd k
theorem r_iald13 (pc : Nat) (C : Cx (ωR D a b) Γ cc own ret l0 rm nL0 out0) {i : Int32} (hin : xin i 40 = true) (hd : decode cc pc = .ok (.iaload, 1)) (k : XAt (ωR D a b) Γ (pc + 1) lv (.int (S.1 13 (xti i)) :: vs) S) : XAt (ωR D a b) Γ pc lv (.int i :: .ref (a 13) :: vs) S := x_iald (q := 13) (t := 12) pc C rfl rfl hin hd k
theorem r_iast13 (pc : Nat) (C : Cx (ωR D a b) Γ cc own ret l0 rm nL0 out0) {i x : Int32} (hin : xin i 40 = true) (hd : decode cc pc = .ok (.iastore, 1)) (k : XAt (ωR D a b) Γ (pc + 1) lv vs (xsr S 13 (xti i) x)) : XAt (ωR D a b) Γ pc lv (.int x :: .int i :: .ref (a 13) :: vs) S := x_iast (q := 13) (t := 12) pc C rfl rfl hin rfl hd k
theorem r_iald14 (pc : Nat) (C : Cx (ωR D a b) Γ cc own ret l0 rm nL0 out0) {i : Int32} (hin : xin i 8 = true) (hd : decode cc pc = .ok (.iaload, 1)) (k : XAt (ωR D a b) Γ (pc + 1) lv (.int (S.1 14 (xti i)) :: vs) S) : XAt (ωR D a b) Γ pc lv (.int i :: .ref (a 14) :: vs) S := x_iald (q := 14) (t := 13) pc C rfl rfl hin hd k
theorem r_iast14 (pc : Nat) (C : Cx (ωR D a b) Γ cc own ret l0 rm nL0 out0) {i x : Int32} (hin : xin i 8 = true) (hd : decode cc pc = .ok (.iastore, 1)) (k : XAt (ωR D a b) Γ (pc + 1) lv vs (xsr S 14 (xti i) x)) : XAt (ωR D a b) Γ pc lv (.int x :: .int i :: .ref (a 14) :: vs) S := x_iast (q := 14) (t := 13) pc C rfl rfl hin rfl hd k
theorem r_iald15 (pc : Nat) (C : Cx (ωR D a b) Γ cc own ret l0 rm nL0 out0) {i : Int32} (hin : xin i 8 = true) (hd : decode cc pc = .ok (.iaload, 1)) (k : XAt (ωR D a b) Γ (pc + 1) lv (.int (S.1 15 (xti i)) :: vs) S) : XAt (ωR D a b) Γ pc lv (.int i :: .ref (a 15) :: vs) S := x_iald (q := 15) (t := 14) pc C rfl rfl hin hd k
theorem r_iast15 (pc : Nat) (C : Cx (ωR D a b) Γ cc own ret l0 rm nL0 out0) {i x : Int32} (hin : xin i 8 = true) (hd : decode cc pc = .ok (.iastore, 1)) (k : XAt (ωR D a b) Γ (pc + 1) lv vs (xsr S 15 (xti i) x)) : XAt (ωR D a b) Γ pc lv (.int x :: .int i :: .ref (a 15) :: vs) S := x_iast (q := 15) (t := 14) pc C rfl rfl hin rfl hd k
theorem r_iald16 (pc : Nat) (C : Cx (ωR D a b) Γ cc own ret l0 rm nL0 out0) {i : Int32} (hin : xin i 1000 = true) (hd : decode cc pc = .ok (.iaload, 1)) (k : XAt (ωR D a b) Γ (pc + 1) lv (.int (S.1 16 (xti i)) :: vs) S) : XAt (ωR D a b) Γ pc lv (.int i :: .ref (a 16) :: vs) S := x_iald (q := 16) (t := 15) pc C rfl rfl hin hd k
theorem r_iast16 (pc : Nat) (C : Cx (ωR D a b) Γ cc own ret l0 rm nL0 out0) {i x : Int32} (hin : xin i 1000 = true) (hd : decode cc pc = .ok (.iastore, 1)) (k : XAt (ωR D a b) Γ (pc + 1) lv vs (xsr S 16 (xti i) x)) : XAt (ωR D a b) Γ pc lv (.int x :: .int i :: .ref (a 16) :: vs) S := x_iast (q := 16) (t := 15) pc C rfl rfl hin rfl hd k
theorem r_iald17 (pc : Nat) (C : Cx (ωR D a b) Γ cc own ret l0 rm nL0 out0) {i : Int32} (hin : xin i 8 = true) (hd : decode cc pc = .ok (.iaload, 1)) (k : XAt (ωR D a b) Γ (pc + 1) lv (.int (S.1 17 (xti i)) :: vs) S) : XAt (ωR D a b) Γ pc lv (.int i :: .ref (a 17) :: vs) S := x_iald (q := 17) (t := 16) pc C rfl rfl hin hd k
theorem r_iast17 (pc : Nat) (C : Cx (ωR D a b) Γ cc own ret l0 rm nL0 out0) {i x : Int32} (hin : xin i 8 = true) (hd : decode cc pc = .ok (.iastore, 1)) (k : XAt (ωR D a b) Γ (pc + 1) lv vs (xsr S 17 (xti i) x)) : XAt (ωR D a b) Γ pc lv (.int x :: .int i :: .ref (a 17) :: vs) S := x_iast (q := 17) (t := 16) pc C rfl rfl hin rfl hd k
theorem r_iald18 (pc : Nat) (C : Cx (ωR D a b) Γ cc own ret l0 rm nL0 out0) {i : Int32} (hin : xin i 8 = true) (hd : decode cc pc = .ok (.iaload, 1)) (k : XAt (ωR D a b) Γ (pc + 1) lv (.int (S.1 18 (xti i)) :: vs) S) : XAt (ωR D a b) Γ pc lv (.int i :: .ref (a 18) :: vs) S := x_iald (q := 18) (t := 17) pc C rfl rfl hin hd k
theorem r_iast18 (pc : Nat) (C : Cx (ωR D a b) Γ cc own ret l0 rm nL0 out0) {i x : Int32} (hin : xin i 8 = true) (hd : decode cc pc = .ok (.iastore, 1)) (k : XAt (ωR D a b) Γ (pc + 1) lv vs (xsr S 18 (xti i) x)) : XAt (ωR D a b) Γ pc lv (.int x :: .int i :: .ref (a 18) :: vs) S := x_iast (q := 18) (t := 17) pc C rfl rfl hin rfl hd k
theorem r_iald19 (pc : Nat) (C : Cx (ωR D a b) Γ cc own ret l0 rm nL0 out0) {i : Int32} (hin : xin i 8 = true) (hd : decode cc pc = .ok (.iaload, 1)) (k : XAt (ωR D a b) Γ (pc + 1) lv (.int (S.1 19 (xti i)) :: vs) S) : XAt (ωR D a b) Γ pc lv (.int i :: .ref (a 19) :: vs) S := x_iald (q := 19) (t := 18) pc C rfl rfl hin hd k
theorem r_iast19 (pc : Nat) (C : Cx (ωR D a b) Γ cc own ret l0 rm nL0 out0) {i x : Int32} (hin : xin i 8 = true) (hd : decode cc pc = .ok (.iastore, 1)) (k : XAt (ωR D a b) Γ (pc + 1) lv vs (xsr S 19 (xti i) x)) : XAt (ωR D a b) Γ pc lv (.int x :: .int i :: .ref (a 19) :: vs) S := x_iast (q := 19) (t := 18) pc C rfl rfl hin rfl hd k
theorem r_iald20 (pc : Nat) (C : Cx (ωR D a b) Γ cc own ret l0 rm nL0 out0) {i : Int32} (hin : xin i 8 = true) (hd : decode cc pc = .ok (.iaload, 1)) (k : XAt (ωR D a b) Γ (pc + 1) lv (.int (S.1 20 (xti i)) :: vs) S) : XAt (ωR D a b) Γ pc lv (.int i :: .ref (a 20) :: vs) S := x_iald (q := 20) (t := 19) pc C rfl rfl hin hd k
theorem r_iast20 (pc : Nat) (C : Cx (ωR D a b) Γ cc own ret l0 rm nL0 out0) {i x : Int32} (hin : xin i 8 = true) (hd : decode cc pc = .ok (.iastore, 1)) (k : XAt (ωR D a b) Γ (pc + 1) lv vs (xsr S 20 (xti i) x)) : XAt (ωR D a b) Γ pc lv (.int x :: .int i :: .ref (a 20) :: vs) S := x_iast (q := 20) (t := 19) pc C rfl rfl hin rfl hd k
theorem r_iald21 (pc : Nat) (C : Cx (ωR D a b) Γ cc own ret l0 rm nL0 out0) {i : Int32} (hin : xin i 8 = true) (hd : decode cc pc = .ok (.iaload, 1)) (k : XAt (ωR D a b) Γ (pc + 1) lv (.int (S.1 21 (xti i)) :: vs) S) : XAt (ωR D a b) Γ pc lv (.int i :: .ref (a 21) :: vs) S := x_iald (q := 21) (t := 20) pc C rfl rfl hin hd k
theorem r_iast21 (pc : Nat) (C : Cx (ωR D a b) Γ cc own ret l0 rm nL0 out0) {i x : Int32} (hin : xin i 8 = true) (hd : decode cc pc = .ok (.iastore, 1)) (k : XAt (ωR D a b) Γ (pc + 1) lv vs (xsr S 21 (xti i) x)) : XAt (ωR D a b) Γ pc lv (.int x :: .int i :: .ref (a 21) :: vs) S := x_iast (q := 21) (t := 20) pc C rfl rfl hin rfl hd k
theorem r_zald22 (pc : Nat) (C : Cx (ωR D a b) Γ cc own ret l0 rm nL0 out0) {i : Int32} (hin : xin i 4 = true) (hd : decode cc pc = .ok (.baload, 1)) (k : XAt (ωR D a b) Γ (pc + 1) lv (.int (S.1 22 (xti i)) :: vs) S) : XAt (ωR D a b) Γ pc lv (.int i :: .ref (a 22) :: vs) S := x_zald (q := 22) (t := 21) pc C rfl rfl hin hd k
theorem r_zast22 (pc : Nat) (C : Cx (ωR D a b) Γ cc own ret l0 rm nL0 out0) {i x : Int32} (hin : xin i 4 = true) (hd : decode cc pc = .ok (.bastore, 1)) (k : XAt (ωR D a b) Γ (pc + 1) lv vs (xsr S 22 (xti i) (vp_nar .boolean x))) : XAt (ωR D a b) Γ pc lv (.int x :: .int i :: .ref (a 22) :: vs) S := x_zast (q := 22) (t := 21) pc C rfl rfl hin rfl hd k
theorem r_iald23 (pc : Nat) (C : Cx (ωR D a b) Γ cc own ret l0 rm nL0 out0) {i : Int32} (hin : xin i 4 = true) (hd : decode cc pc = .ok (.iaload, 1)) (k : XAt (ωR D a b) Γ (pc + 1) lv (.int (S.1 23 (xti i)) :: vs) S) : XAt (ωR D a b) Γ pc lv (.int i :: .ref (a 23) :: vs) S := x_iald (q := 23) (t := 22) pc C rfl rfl hin hd k
theorem r_iast23 (pc : Nat) (C : Cx (ωR D a b) Γ cc own ret l0 rm nL0 out0) {i x : Int32} (hin : xin i 4 = true) (hd : decode cc pc = .ok (.iastore, 1)) (k : XAt (ωR D a b) Γ (pc + 1) lv vs (xsr S 23 (xti i) x)) : XAt (ωR D a b) Γ pc lv (.int x :: .int i :: .ref (a 23) :: vs) S := x_iast (q := 23) (t := 22) pc C rfl rfl hin rfl hd k
theorem r_iald24 (pc : Nat) (C : Cx (ωR D a b) Γ cc own ret l0 rm nL0 out0) {i : Int32} (hin : xin i 4 = true) (hd : decode cc pc = .ok (.iaload, 1)) (k : XAt (ωR D a b) Γ (pc + 1) lv (.int (S.1 24 (xti i)) :: vs) S) : XAt (ωR D a b) Γ pc lv (.int i :: .ref (a 24) :: vs) S := x_iald (q := 24) (t := 23) pc C rfl rfl hin hd k
theorem r_iast24 (pc : Nat) (C : Cx (ωR D a b) Γ cc own ret l0 rm nL0 out0) {i x : Int32} (hin : xin i 4 = true) (hd : decode cc pc = .ok (.iastore, 1)) (k : XAt (ωR D a b) Γ (pc + 1) lv vs (xsr S 24 (xti i) x)) : XAt (ωR D a b) Γ pc lv (.int x :: .int i :: .ref (a 24) :: vs) S := x_iast (q := 24) (t := 23) pc C rfl rfl hin rfl hd k
theorem r_iald25 (pc : Nat) (C : Cx (ωR D a b) Γ cc own ret l0 rm nL0 out0) {i : Int32} (hin : xin i 160 = true) (hd : decode cc pc = .ok (.iaload, 1)) (k : XAt (ωR D a b) Γ (pc + 1) lv (.int (S.1 25 (xti i)) :: vs) S) : XAt (ωR D a b) Γ pc lv (.int i :: .ref (a 25) :: vs) S := x_iald (q := 25) (t := 24) pc C rfl rfl hin hd k
theorem r_iast25 (pc : Nat) (C : Cx (ωR D a b) Γ cc own ret l0 rm nL0 out0) {i x : Int32} (hin : xin i 160 = true) (hd : decode cc pc = .ok (.iastore, 1)) (k : XAt (ωR D a b) Γ (pc + 1) lv vs (xsr S 25 (xti i) x)) : XAt (ωR D a b) Γ pc lv (.int x :: .int i :: .ref (a 25) :: vs) S := x_iast (q := 25) (t := 24) pc C rfl rfl hin rfl hd k
theorem r_iald26 (pc : Nat) (C : Cx (ωR D a b) Γ cc own ret l0 rm nL0 out0) {i : Int32} (hin : xin i 40 = true) (hd : decode cc pc = .ok (.iaload, 1)) (k : XAt (ωR D a b) Γ (pc + 1) lv (.int (S.1 26 (xti i)) :: vs) S) : XAt (ωR D a b) Γ pc lv (.int i :: .ref (a 26) :: vs) S := x_iald (q := 26) (t := 25) pc C rfl rfl hin hd k
theorem r_iast26 (pc : Nat) (C : Cx (ωR D a b) Γ cc own ret l0 rm nL0 out0) {i x : Int32} (hin : xin i 40 = true) (hd : decode cc pc = .ok (.iastore, 1)) (k : XAt (ωR D a b) Γ (pc + 1) lv vs (xsr S 26 (xti i) x)) : XAt (ωR D a b) Γ pc lv (.int x :: .int i :: .ref (a 26) :: vs) S := x_iast (q := 26) (t := 25) pc C rfl rfl hin rfl hd k
theorem gX7_graves (pc : Nat) (C : Cx (ωR D a b) Γ cc own ret l0 rm nL0 out0) {index : Nat} (hl0 : Cond.fieldLink own index "GraveOrderModel" "graves" "I" ∈ xtb) (hd : decode cc pc = .ok (.getfield index, 3)) (k : XAt (ωR D a b) Γ (pc + 3) lv (.int (S.1 0 0) :: vs) S) : XAt (ωR D a b) Γ pc lv (.ref (a 0) :: vs) S := x_get (q := 0) (ci := 7) (k0 := 0) (T := TX7) (N := 40) pc C rfl rfl wiX7 (by decide) rfl hl0 rfl hd k
theorem pX7_graves (pc : Nat) (C : Cx (ωR D a b) Γ cc own ret l0 rm nL0 out0) {index : Nat} {v : Int32} (hl0 : Cond.fieldLink own index "GraveOrderModel" "graves" "I" ∈ xtb) (hd : decode cc pc = .ok (.putfield index, 3)) (k : XAt (ωR D a b) Γ (pc + 3) lv vs (xsr S 0 0 v)) : XAt (ωR D a b) Γ pc lv (.int v :: .ref (a 0) :: vs) S := x_put (q := 0) (ci := 7) (k0 := 0) (T := TX7) (N := 40) (ty0 := tyX7) (ty := .int) pc C rfl rfl wiX7 tyX7_ok nmX7 (by decide) rfl rfl rfl rfl (by simp) rfl hl0 hd k
theorem gX7_from (pc : Nat) (C : Cx (ωR D a b) Γ cc own ret l0 rm nL0 out0) {index : Nat} (hl0 : Cond.fieldLink own index "GraveOrderModel" "from" "[I" ∈ xtb) (hd : decode cc pc = .ok (.getfield index, 3)) (k : XAt (ωR D a b) Γ (pc + 3) lv (.ref (a 1) :: vs) S) : XAt (ωR D a b) Γ pc lv (.ref (a 0) :: vs) S := x_get (q := 0) (ci := 7) (k0 := 1) (T := TX7) (N := 40) pc C rfl rfl wiX7 (by decide) rfl hl0 rfl hd k
theorem gX7_to (pc : Nat) (C : Cx (ωR D a b) Γ cc own ret l0 rm nL0 out0) {index : Nat} (hl0 : Cond.fieldLink own index "GraveOrderModel" "to" "[I" ∈ xtb) (hd : decode cc pc = .ok (.getfield index, 3)) (k : XAt (ωR D a b) Γ (pc + 3) lv (.ref (a 2) :: vs) S) : XAt (ωR D a b) Γ pc lv (.ref (a 0) :: vs) S := x_get (q := 0) (ci := 7) (k0 := 2) (T := TX7) (N := 40) pc C rfl rfl wiX7 (by decide) rfl hl0 rfl hd k
theorem gX7_robbers (pc : Nat) (C : Cx (ωR D a b) Γ cc own ret l0 rm nL0 out0) {index : Nat} (hl0 : Cond.fieldLink own index "GraveOrderModel" "robbers" "I" ∈ xtb) (hd : decode cc pc = .ok (.getfield index, 3)) (k : XAt (ωR D a b) Γ (pc + 3) lv (.int (S.1 0 3) :: vs) S) : XAt (ωR D a b) Γ pc lv (.ref (a 0) :: vs) S := x_get (q := 0) (ci := 7) (k0 := 3) (T := TX7) (N := 40) pc C rfl rfl wiX7 (by decide) rfl hl0 rfl hd k
theorem pX7_robbers (pc : Nat) (C : Cx (ωR D a b) Γ cc own ret l0 rm nL0 out0) {index : Nat} {v : Int32} (hl0 : Cond.fieldLink own index "GraveOrderModel" "robbers" "I" ∈ xtb) (hd : decode cc pc = .ok (.putfield index, 3)) (k : XAt (ωR D a b) Γ (pc + 3) lv vs (xsr S 0 3 v)) : XAt (ωR D a b) Γ pc lv (.int v :: .ref (a 0) :: vs) S := x_put (q := 0) (ci := 7) (k0 := 3) (T := TX7) (N := 40) (ty0 := tyX7) (ty := .int) pc C rfl rfl wiX7 tyX7_ok nmX7 (by decide) rfl rfl rfl rfl (by simp) rfl hl0 hd k
theorem gX7_weights (pc : Nat) (C : Cx (ωR D a b) Γ cc own ret l0 rm nL0 out0) {index : Nat} (hl0 : Cond.fieldLink own index "GraveOrderModel" "weights" "[I" ∈ xtb) (hd : decode cc pc = .ok (.getfield index, 3)) (k : XAt (ωR D a b) Γ (pc + 3) lv (.ref (a 3) :: vs) S) : XAt (ωR D a b) Γ pc lv (.ref (a 0) :: vs) S := x_get (q := 0) (ci := 7) (k0 := 4) (T := TX7) (N := 40) pc C rfl rfl wiX7 (by decide) rfl hl0 rfl hd k
theorem gX7_overs (pc : Nat) (C : Cx (ωR D a b) Γ cc own ret l0 rm nL0 out0) {index : Nat} (hl0 : Cond.fieldLink own index "GraveOrderModel" "overs" "I" ∈ xtb) (hd : decode cc pc = .ok (.getfield index, 3)) (k : XAt (ωR D a b) Γ (pc + 3) lv (.int (S.1 0 5) :: vs) S) : XAt (ωR D a b) Γ pc lv (.ref (a 0) :: vs) S := x_get (q := 0) (ci := 7) (k0 := 5) (T := TX7) (N := 40) pc C rfl rfl wiX7 (by decide) rfl hl0 rfl hd k
theorem pX7_overs (pc : Nat) (C : Cx (ωR D a b) Γ cc own ret l0 rm nL0 out0) {index : Nat} {v : Int32} (hl0 : Cond.fieldLink own index "GraveOrderModel" "overs" "I" ∈ xtb) (hd : decode cc pc = .ok (.putfield index, 3)) (k : XAt (ωR D a b) Γ (pc + 3) lv vs (xsr S 0 5 v)) : XAt (ωR D a b) Γ pc lv (.int v :: .ref (a 0) :: vs) S := x_put (q := 0) (ci := 7) (k0 := 5) (T := TX7) (N := 40) (ty0 := tyX7) (ty := .int) pc C rfl rfl wiX7 tyX7_ok nmX7 (by decide) rfl rfl rfl rfl (by simp) rfl hl0 hd k
theorem gX7_upper (pc : Nat) (C : Cx (ωR D a b) Γ cc own ret l0 rm nL0 out0) {index : Nat} (hl0 : Cond.fieldLink own index "GraveOrderModel" "upper" "[I" ∈ xtb) (hd : decode cc pc = .ok (.getfield index, 3)) (k : XAt (ωR D a b) Γ (pc + 3) lv (.ref (a 4) :: vs) S) : XAt (ωR D a b) Γ pc lv (.ref (a 0) :: vs) S := x_get (q := 0) (ci := 7) (k0 := 6) (T := TX7) (N := 40) pc C rfl rfl wiX7 (by decide) rfl hl0 rfl hd k
theorem gX7_lower (pc : Nat) (C : Cx (ωR D a b) Γ cc own ret l0 rm nL0 out0) {index : Nat} (hl0 : Cond.fieldLink own index "GraveOrderModel" "lower" "[I" ∈ xtb) (hd : decode cc pc = .ok (.getfield index, 3)) (k : XAt (ωR D a b) Γ (pc + 3) lv (.ref (a 5) :: vs) S) : XAt (ωR D a b) Γ pc lv (.ref (a 0) :: vs) S := x_get (q := 0) (ci := 7) (k0 := 7) (T := TX7) (N := 40) pc C rfl rfl wiX7 (by decide) rfl hl0 rfl hd k
theorem gX7_tellings (pc : Nat) (C : Cx (ωR D a b) Γ cc own ret l0 rm nL0 out0) {index : Nat} (hl0 : Cond.fieldLink own index "GraveOrderModel" "tellings" "I" ∈ xtb) (hd : decode cc pc = .ok (.getfield index, 3)) (k : XAt (ωR D a b) Γ (pc + 3) lv (.int (S.1 0 8) :: vs) S) : XAt (ωR D a b) Γ pc lv (.ref (a 0) :: vs) S := x_get (q := 0) (ci := 7) (k0 := 8) (T := TX7) (N := 40) pc C rfl rfl wiX7 (by decide) rfl hl0 rfl hd k
theorem pX7_tellings (pc : Nat) (C : Cx (ωR D a b) Γ cc own ret l0 rm nL0 out0) {index : Nat} {v : Int32} (hl0 : Cond.fieldLink own index "GraveOrderModel" "tellings" "I" ∈ xtb) (hd : decode cc pc = .ok (.putfield index, 3)) (k : XAt (ωR D a b) Γ (pc + 3) lv vs (xsr S 0 8 v)) : XAt (ωR D a b) Γ pc lv (.int v :: .ref (a 0) :: vs) S := x_put (q := 0) (ci := 7) (k0 := 8) (T := TX7) (N := 40) (ty0 := tyX7) (ty := .int) pc C rfl rfl wiX7 tyX7_ok nmX7 (by decide) rfl rfl rfl rfl (by simp) rfl hl0 hd k
theorem gX7_toldGrave (pc : Nat) (C : Cx (ωR D a b) Γ cc own ret l0 rm nL0 out0) {index : Nat} (hl0 : Cond.fieldLink own index "GraveOrderModel" "toldGrave" "[I" ∈ xtb) (hd : decode cc pc = .ok (.getfield index, 3)) (k : XAt (ωR D a b) Γ (pc + 3) lv (.ref (a 6) :: vs) S) : XAt (ωR D a b) Γ pc lv (.ref (a 0) :: vs) S := x_get (q := 0) (ci := 7) (k0 := 9) (T := TX7) (N := 40) pc C rfl rfl wiX7 (by decide) rfl hl0 rfl hd k
theorem gX7_toldKind (pc : Nat) (C : Cx (ωR D a b) Γ cc own ret l0 rm nL0 out0) {index : Nat} (hl0 : Cond.fieldLink own index "GraveOrderModel" "toldKind" "[I" ∈ xtb) (hd : decode cc pc = .ok (.getfield index, 3)) (k : XAt (ωR D a b) Γ (pc + 3) lv (.ref (a 7) :: vs) S) : XAt (ωR D a b) Γ pc lv (.ref (a 0) :: vs) S := x_get (q := 0) (ci := 7) (k0 := 10) (T := TX7) (N := 40) pc C rfl rfl wiX7 (by decide) rfl hl0 rfl hd k
theorem gX7_toldHas (pc : Nat) (C : Cx (ωR D a b) Γ cc own ret l0 rm nL0 out0) {index : Nat} (hl0 : Cond.fieldLink own index "GraveOrderModel" "toldHas" "[I" ∈ xtb) (hd : decode cc pc = .ok (.getfield index, 3)) (k : XAt (ωR D a b) Γ (pc + 3) lv (.ref (a 8) :: vs) S) : XAt (ωR D a b) Γ pc lv (.ref (a 0) :: vs) S := x_get (q := 0) (ci := 7) (k0 := 11) (T := TX7) (N := 40) pc C rfl rfl wiX7 (by decide) rfl hl0 rfl hd k
theorem gX7_toldTime (pc : Nat) (C : Cx (ωR D a b) Γ cc own ret l0 rm nL0 out0) {index : Nat} (hl0 : Cond.fieldLink own index "GraveOrderModel" "toldTime" "[I" ∈ xtb) (hd : decode cc pc = .ok (.getfield index, 3)) (k : XAt (ωR D a b) Γ (pc + 3) lv (.ref (a 9) :: vs) S) : XAt (ωR D a b) Γ pc lv (.ref (a 0) :: vs) S := x_get (q := 0) (ci := 7) (k0 := 12) (T := TX7) (N := 40) pc C rfl rfl wiX7 (by decide) rfl hl0 rfl hd k
theorem gX7_knownTo (pc : Nat) (C : Cx (ωR D a b) Γ cc own ret l0 rm nL0 out0) {index : Nat} (hl0 : Cond.fieldLink own index "GraveOrderModel" "knownTo" "I" ∈ xtb) (hd : decode cc pc = .ok (.getfield index, 3)) (k : XAt (ωR D a b) Γ (pc + 3) lv (.int (S.1 0 13) :: vs) S) : XAt (ωR D a b) Γ pc lv (.ref (a 0) :: vs) S := x_get (q := 0) (ci := 7) (k0 := 13) (T := TX7) (N := 40) pc C rfl rfl wiX7 (by decide) rfl hl0 rfl hd k
theorem pX7_knownTo (pc : Nat) (C : Cx (ωR D a b) Γ cc own ret l0 rm nL0 out0) {index : Nat} {v : Int32} (hl0 : Cond.fieldLink own index "GraveOrderModel" "knownTo" "I" ∈ xtb) (hd : decode cc pc = .ok (.putfield index, 3)) (k : XAt (ωR D a b) Γ (pc + 3) lv vs (xsr S 0 13 v)) : XAt (ωR D a b) Γ pc lv (.int v :: .ref (a 0) :: vs) S := x_put (q := 0) (ci := 7) (k0 := 13) (T := TX7) (N := 40) (ty0 := tyX7) (ty := .int) pc C rfl rfl wiX7 tyX7_ok nmX7 (by decide) rfl rfl rfl rfl (by simp) rfl hl0 hd k
theorem gX7_isWorked (pc : Nat) (C : Cx (ωR D a b) Γ cc own ret l0 rm nL0 out0) {index : Nat} (hl0 : Cond.fieldLink own index "GraveOrderModel" "isWorked" "Z" ∈ xtb) (hd : decode cc pc = .ok (.getfield index, 3)) (k : XAt (ωR D a b) Γ (pc + 3) lv (.int (S.1 0 14) :: vs) S) : XAt (ωR D a b) Γ pc lv (.ref (a 0) :: vs) S := x_get (q := 0) (ci := 7) (k0 := 14) (T := TX7) (N := 40) pc C rfl rfl wiX7 (by decide) rfl hl0 rfl hd k
theorem pX7_isWorked (pc : Nat) (C : Cx (ωR D a b) Γ cc own ret l0 rm nL0 out0) {index : Nat} {v : Int32} (hz : xbool v = true) (hl0 : Cond.fieldLink own index "GraveOrderModel" "isWorked" "Z" ∈ xtb) (hd : decode cc pc = .ok (.putfield index, 3)) (k : XAt (ωR D a b) Γ (pc + 3) lv vs (xsr S 0 14 v)) : XAt (ωR D a b) Γ pc lv (.int v :: .ref (a 0) :: vs) S := x_put (q := 0) (ci := 7) (k0 := 14) (T := TX7) (N := 40) (ty0 := tyX7) (ty := .boolean) pc C rfl rfl wiX7 tyX7_ok nmX7 (by decide) rfl rfl (xnar hz) (xfit hz) (by simp) rfl hl0 hd k
theorem gX7_typed (pc : Nat) (C : Cx (ωR D a b) Γ cc own ret l0 rm nL0 out0) {index : Nat} (hl0 : Cond.fieldLink own index "GraveOrderModel" "typed" "I" ∈ xtb) (hd : decode cc pc = .ok (.getfield index, 3)) (k : XAt (ωR D a b) Γ (pc + 3) lv (.int (S.1 0 15) :: vs) S) : XAt (ωR D a b) Γ pc lv (.ref (a 0) :: vs) S := x_get (q := 0) (ci := 7) (k0 := 15) (T := TX7) (N := 40) pc C rfl rfl wiX7 (by decide) rfl hl0 rfl hd k
theorem pX7_typed (pc : Nat) (C : Cx (ωR D a b) Γ cc own ret l0 rm nL0 out0) {index : Nat} {v : Int32} (hl0 : Cond.fieldLink own index "GraveOrderModel" "typed" "I" ∈ xtb) (hd : decode cc pc = .ok (.putfield index, 3)) (k : XAt (ωR D a b) Γ (pc + 3) lv vs (xsr S 0 15 v)) : XAt (ωR D a b) Γ pc lv (.int v :: .ref (a 0) :: vs) S := x_put (q := 0) (ci := 7) (k0 := 15) (T := TX7) (N := 40) (ty0 := tyX7) (ty := .int) pc C rfl rfl wiX7 tyX7_ok nmX7 (by decide) rfl rfl rfl rfl (by simp) rfl hl0 hd k
theorem gX7_text (pc : Nat) (C : Cx (ωR D a b) Γ cc own ret l0 rm nL0 out0) {index : Nat} (hl0 : Cond.fieldLink own index "GraveOrderModel" "text" "[I" ∈ xtb) (hd : decode cc pc = .ok (.getfield index, 3)) (k : XAt (ωR D a b) Γ (pc + 3) lv (.ref (a 10) :: vs) S) : XAt (ωR D a b) Γ pc lv (.ref (a 0) :: vs) S := x_get (q := 0) (ci := 7) (k0 := 16) (T := TX7) (N := 40) pc C rfl rfl wiX7 (by decide) rfl hl0 rfl hd k
theorem gX7_said (pc : Nat) (C : Cx (ωR D a b) Γ cc own ret l0 rm nL0 out0) {index : Nat} (hl0 : Cond.fieldLink own index "GraveOrderModel" "said" "I" ∈ xtb) (hd : decode cc pc = .ok (.getfield index, 3)) (k : XAt (ωR D a b) Γ (pc + 3) lv (.int (S.1 0 17) :: vs) S) : XAt (ωR D a b) Γ pc lv (.ref (a 0) :: vs) S := x_get (q := 0) (ci := 7) (k0 := 17) (T := TX7) (N := 40) pc C rfl rfl wiX7 (by decide) rfl hl0 rfl hd k
theorem pX7_said (pc : Nat) (C : Cx (ωR D a b) Γ cc own ret l0 rm nL0 out0) {index : Nat} {v : Int32} (hl0 : Cond.fieldLink own index "GraveOrderModel" "said" "I" ∈ xtb) (hd : decode cc pc = .ok (.putfield index, 3)) (k : XAt (ωR D a b) Γ (pc + 3) lv vs (xsr S 0 17 v)) : XAt (ωR D a b) Γ pc lv (.int v :: .ref (a 0) :: vs) S := x_put (q := 0) (ci := 7) (k0 := 17) (T := TX7) (N := 40) (ty0 := tyX7) (ty := .int) pc C rfl rfl wiX7 tyX7_ok nmX7 (by decide) rfl rfl rfl rfl (by simp) rfl hl0 hd k
theorem gX7_saidGrave (pc : Nat) (C : Cx (ωR D a b) Γ cc own ret l0 rm nL0 out0) {index : Nat} (hl0 : Cond.fieldLink own index "GraveOrderModel" "saidGrave" "[I" ∈ xtb) (hd : decode cc pc = .ok (.getfield index, 3)) (k : XAt (ωR D a b) Γ (pc + 3) lv (.ref (a 11) :: vs) S) : XAt (ωR D a b) Γ pc lv (.ref (a 0) :: vs) S := x_get (q := 0) (ci := 7) (k0 := 18) (T := TX7) (N := 40) pc C rfl rfl wiX7 (by decide) rfl hl0 rfl hd k
theorem gX7_saidKind (pc : Nat) (C : Cx (ωR D a b) Γ cc own ret l0 rm nL0 out0) {index : Nat} (hl0 : Cond.fieldLink own index "GraveOrderModel" "saidKind" "[I" ∈ xtb) (hd : decode cc pc = .ok (.getfield index, 3)) (k : XAt (ωR D a b) Γ (pc + 3) lv (.ref (a 12) :: vs) S) : XAt (ωR D a b) Γ pc lv (.ref (a 0) :: vs) S := x_get (q := 0) (ci := 7) (k0 := 19) (T := TX7) (N := 40) pc C rfl rfl wiX7 (by decide) rfl hl0 rfl hd k
theorem gX7_saidHas (pc : Nat) (C : Cx (ωR D a b) Γ cc own ret l0 rm nL0 out0) {index : Nat} (hl0 : Cond.fieldLink own index "GraveOrderModel" "saidHas" "[I" ∈ xtb) (hd : decode cc pc = .ok (.getfield index, 3)) (k : XAt (ωR D a b) Γ (pc + 3) lv (.ref (a 13) :: vs) S) : XAt (ωR D a b) Γ pc lv (.ref (a 0) :: vs) S := x_get (q := 0) (ci := 7) (k0 := 20) (T := TX7) (N := 40) pc C rfl rfl wiX7 (by decide) rfl hl0 rfl hd k
theorem gX7_have (pc : Nat) (C : Cx (ωR D a b) Γ cc own ret l0 rm nL0 out0) {index : Nat} (hl0 : Cond.fieldLink own index "GraveOrderModel" "have" "[I" ∈ xtb) (hd : decode cc pc = .ok (.getfield index, 3)) (k : XAt (ωR D a b) Γ (pc + 3) lv (.ref (a 14) :: vs) S) : XAt (ωR D a b) Γ pc lv (.ref (a 0) :: vs) S := x_get (q := 0) (ci := 7) (k0 := 21) (T := TX7) (N := 40) pc C rfl rfl wiX7 (by decide) rfl hl0 rfl hd k
theorem gX7_order (pc : Nat) (C : Cx (ωR D a b) Γ cc own ret l0 rm nL0 out0) {index : Nat} (hl0 : Cond.fieldLink own index "GraveOrderModel" "order" "[I" ∈ xtb) (hd : decode cc pc = .ok (.getfield index, 3)) (k : XAt (ωR D a b) Γ (pc + 3) lv (.ref (a 15) :: vs) S) : XAt (ωR D a b) Γ pc lv (.ref (a 0) :: vs) S := x_get (q := 0) (ci := 7) (k0 := 22) (T := TX7) (N := 40) pc C rfl rfl wiX7 (by decide) rfl hl0 rfl hd k
theorem gX7_fewest (pc : Nat) (C : Cx (ωR D a b) Γ cc own ret l0 rm nL0 out0) {index : Nat} (hl0 : Cond.fieldLink own index "GraveOrderModel" "fewest" "I" ∈ xtb) (hd : decode cc pc = .ok (.getfield index, 3)) (k : XAt (ωR D a b) Γ (pc + 3) lv (.int (S.1 0 23) :: vs) S) : XAt (ωR D a b) Γ pc lv (.ref (a 0) :: vs) S := x_get (q := 0) (ci := 7) (k0 := 23) (T := TX7) (N := 40) pc C rfl rfl wiX7 (by decide) rfl hl0 rfl hd k
theorem pX7_fewest (pc : Nat) (C : Cx (ωR D a b) Γ cc own ret l0 rm nL0 out0) {index : Nat} {v : Int32} (hl0 : Cond.fieldLink own index "GraveOrderModel" "fewest" "I" ∈ xtb) (hd : decode cc pc = .ok (.putfield index, 3)) (k : XAt (ωR D a b) Γ (pc + 3) lv vs (xsr S 0 23 v)) : XAt (ωR D a b) Γ pc lv (.int v :: .ref (a 0) :: vs) S := x_put (q := 0) (ci := 7) (k0 := 23) (T := TX7) (N := 40) (ty0 := tyX7) (ty := .int) pc C rfl rfl wiX7 tyX7_ok nmX7 (by decide) rfl rfl rfl rfl (by simp) rfl hl0 hd k
theorem gX7_bestMany (pc : Nat) (C : Cx (ωR D a b) Γ cc own ret l0 rm nL0 out0) {index : Nat} (hl0 : Cond.fieldLink own index "GraveOrderModel" "bestMany" "I" ∈ xtb) (hd : decode cc pc = .ok (.getfield index, 3)) (k : XAt (ωR D a b) Γ (pc + 3) lv (.int (S.1 0 24) :: vs) S) : XAt (ωR D a b) Γ pc lv (.ref (a 0) :: vs) S := x_get (q := 0) (ci := 7) (k0 := 24) (T := TX7) (N := 40) pc C rfl rfl wiX7 (by decide) rfl hl0 rfl hd k
theorem pX7_bestMany (pc : Nat) (C : Cx (ωR D a b) Γ cc own ret l0 rm nL0 out0) {index : Nat} {v : Int32} (hl0 : Cond.fieldLink own index "GraveOrderModel" "bestMany" "I" ∈ xtb) (hd : decode cc pc = .ok (.putfield index, 3)) (k : XAt (ωR D a b) Γ (pc + 3) lv vs (xsr S 0 24 v)) : XAt (ωR D a b) Γ pc lv (.int v :: .ref (a 0) :: vs) S := x_put (q := 0) (ci := 7) (k0 := 24) (T := TX7) (N := 40) (ty0 := tyX7) (ty := .int) pc C rfl rfl wiX7 tyX7_ok nmX7 (by decide) rfl rfl rfl rfl (by simp) rfl hl0 hd k
theorem gX7_canMany (pc : Nat) (C : Cx (ωR D a b) Γ cc own ret l0 rm nL0 out0) {index : Nat} (hl0 : Cond.fieldLink own index "GraveOrderModel" "canMany" "I" ∈ xtb) (hd : decode cc pc = .ok (.getfield index, 3)) (k : XAt (ωR D a b) Γ (pc + 3) lv (.int (S.1 0 25) :: vs) S) : XAt (ωR D a b) Γ pc lv (.ref (a 0) :: vs) S := x_get (q := 0) (ci := 7) (k0 := 25) (T := TX7) (N := 40) pc C rfl rfl wiX7 (by decide) rfl hl0 rfl hd k
theorem pX7_canMany (pc : Nat) (C : Cx (ωR D a b) Γ cc own ret l0 rm nL0 out0) {index : Nat} {v : Int32} (hl0 : Cond.fieldLink own index "GraveOrderModel" "canMany" "I" ∈ xtb) (hd : decode cc pc = .ok (.putfield index, 3)) (k : XAt (ωR D a b) Γ (pc + 3) lv vs (xsr S 0 25 v)) : XAt (ωR D a b) Γ pc lv (.int v :: .ref (a 0) :: vs) S := x_put (q := 0) (ci := 7) (k0 := 25) (T := TX7) (N := 40) (ty0 := tyX7) (ty := .int) pc C rfl rfl wiX7 tyX7_ok nmX7 (by decide) rfl rfl rfl rfl (by simp) rfl hl0 hd k
theorem gX7_gapSum (pc : Nat) (C : Cx (ωR D a b) Γ cc own ret l0 rm nL0 out0) {index : Nat} (hl0 : Cond.fieldLink own index "GraveOrderModel" "gapSum" "J" ∈ xtb) (hd : decode cc pc = .ok (.getfield index, 3)) (k : XAt (ωR D a b) Γ (pc + 3) lv (.long S.2 :: vs) S) : XAt (ωR D a b) Γ pc lv (.ref (a 0) :: vs) S := x_get (q := 0) (ci := 7) (k0 := 26) (T := TX7) (N := 40) pc C rfl rfl wiX7 (by decide) rfl hl0 rfl hd k
theorem pX7_gapSum (pc : Nat) (C : Cx (ωR D a b) Γ cc own ret l0 rm nL0 out0) {index : Nat} {v : Int64} (hl0 : Cond.fieldLink own index "GraveOrderModel" "gapSum" "J" ∈ xtb) (hd : decode cc pc = .ok (.putfield index, 3)) (k : XAt (ωR D a b) Γ (pc + 3) lv vs (xsl S v)) : XAt (ωR D a b) Γ pc lv (.long v :: .ref (a 0) :: vs) S := x_put (q := 0) (ci := 7) (k0 := 26) (T := TX7) (N := 40) (ty0 := tyX7) (ty := .long) pc C rfl rfl wiX7 tyX7_ok nmX7 (by decide) rfl rfl rfl rfl (by simp) rfl hl0 hd k
theorem gX7_spreads (pc : Nat) (C : Cx (ωR D a b) Γ cc own ret l0 rm nL0 out0) {index : Nat} (hl0 : Cond.fieldLink own index "GraveOrderModel" "spreads" "[I" ∈ xtb) (hd : decode cc pc = .ok (.getfield index, 3)) (k : XAt (ωR D a b) Γ (pc + 3) lv (.ref (a 16) :: vs) S) : XAt (ωR D a b) Γ pc lv (.ref (a 0) :: vs) S := x_get (q := 0) (ci := 7) (k0 := 27) (T := TX7) (N := 40) pc C rfl rfl wiX7 (by decide) rfl hl0 rfl hd k
theorem gX7_firstOrder (pc : Nat) (C : Cx (ωR D a b) Γ cc own ret l0 rm nL0 out0) {index : Nat} (hl0 : Cond.fieldLink own index "GraveOrderModel" "firstOrder" "[I" ∈ xtb) (hd : decode cc pc = .ok (.getfield index, 3)) (k : XAt (ωR D a b) Γ (pc + 3) lv (.ref (a 17) :: vs) S) : XAt (ωR D a b) Γ pc lv (.ref (a 0) :: vs) S := x_get (q := 0) (ci := 7) (k0 := 28) (T := TX7) (N := 40) pc C rfl rfl wiX7 (by decide) rfl hl0 rfl hd k
theorem gX7_ahead (pc : Nat) (C : Cx (ωR D a b) Γ cc own ret l0 rm nL0 out0) {index : Nat} (hl0 : Cond.fieldLink own index "GraveOrderModel" "ahead" "[I" ∈ xtb) (hd : decode cc pc = .ok (.getfield index, 3)) (k : XAt (ωR D a b) Γ (pc + 3) lv (.ref (a 18) :: vs) S) : XAt (ωR D a b) Γ pc lv (.ref (a 0) :: vs) S := x_get (q := 0) (ci := 7) (k0 := 29) (T := TX7) (N := 40) pc C rfl rfl wiX7 (by decide) rfl hl0 rfl hd k
theorem gX7_placesOf (pc : Nat) (C : Cx (ωR D a b) Γ cc own ret l0 rm nL0 out0) {index : Nat} (hl0 : Cond.fieldLink own index "GraveOrderModel" "placesOf" "[I" ∈ xtb) (hd : decode cc pc = .ok (.getfield index, 3)) (k : XAt (ωR D a b) Γ (pc + 3) lv (.ref (a 19) :: vs) S) : XAt (ωR D a b) Γ pc lv (.ref (a 0) :: vs) S := x_get (q := 0) (ci := 7) (k0 := 30) (T := TX7) (N := 40) pc C rfl rfl wiX7 (by decide) rfl hl0 rfl hd k
theorem gX7_out (pc : Nat) (C : Cx (ωR D a b) Γ cc own ret l0 rm nL0 out0) {index : Nat} (hl0 : Cond.fieldLink own index "GraveOrderModel" "out" "I" ∈ xtb) (hd : decode cc pc = .ok (.getfield index, 3)) (k : XAt (ωR D a b) Γ (pc + 3) lv (.int (S.1 0 31) :: vs) S) : XAt (ωR D a b) Γ pc lv (.ref (a 0) :: vs) S := x_get (q := 0) (ci := 7) (k0 := 31) (T := TX7) (N := 40) pc C rfl rfl wiX7 (by decide) rfl hl0 rfl hd k
theorem pX7_out (pc : Nat) (C : Cx (ωR D a b) Γ cc own ret l0 rm nL0 out0) {index : Nat} {v : Int32} (hl0 : Cond.fieldLink own index "GraveOrderModel" "out" "I" ∈ xtb) (hd : decode cc pc = .ok (.putfield index, 3)) (k : XAt (ωR D a b) Γ (pc + 3) lv vs (xsr S 0 31 v)) : XAt (ωR D a b) Γ pc lv (.int v :: .ref (a 0) :: vs) S := x_put (q := 0) (ci := 7) (k0 := 31) (T := TX7) (N := 40) (ty0 := tyX7) (ty := .int) pc C rfl rfl wiX7 tyX7_ok nmX7 (by decide) rfl rfl rfl rfl (by simp) rfl hl0 hd k
theorem gX7_partAt (pc : Nat) (C : Cx (ωR D a b) Γ cc own ret l0 rm nL0 out0) {index : Nat} (hl0 : Cond.fieldLink own index "GraveOrderModel" "partAt" "[I" ∈ xtb) (hd : decode cc pc = .ok (.getfield index, 3)) (k : XAt (ωR D a b) Γ (pc + 3) lv (.ref (a 20) :: vs) S) : XAt (ωR D a b) Γ pc lv (.ref (a 0) :: vs) S := x_get (q := 0) (ci := 7) (k0 := 32) (T := TX7) (N := 40) pc C rfl rfl wiX7 (by decide) rfl hl0 rfl hd k
theorem gX7_bestPart (pc : Nat) (C : Cx (ωR D a b) Γ cc own ret l0 rm nL0 out0) {index : Nat} (hl0 : Cond.fieldLink own index "GraveOrderModel" "bestPart" "[I" ∈ xtb) (hd : decode cc pc = .ok (.getfield index, 3)) (k : XAt (ωR D a b) Γ (pc + 3) lv (.ref (a 21) :: vs) S) : XAt (ωR D a b) Γ pc lv (.ref (a 0) :: vs) S := x_get (q := 0) (ci := 7) (k0 := 33) (T := TX7) (N := 40) pc C rfl rfl wiX7 (by decide) rfl hl0 rfl hd k
theorem gX7_isThere (pc : Nat) (C : Cx (ωR D a b) Γ cc own ret l0 rm nL0 out0) {index : Nat} (hl0 : Cond.fieldLink own index "GraveOrderModel" "isThere" "[Z" ∈ xtb) (hd : decode cc pc = .ok (.getfield index, 3)) (k : XAt (ωR D a b) Γ (pc + 3) lv (.ref (a 22) :: vs) S) : XAt (ωR D a b) Γ pc lv (.ref (a 0) :: vs) S := x_get (q := 0) (ci := 7) (k0 := 34) (T := TX7) (N := 40) pc C rfl rfl wiX7 (by decide) rfl hl0 rfl hd k
theorem gX7_forms (pc : Nat) (C : Cx (ωR D a b) Γ cc own ret l0 rm nL0 out0) {index : Nat} (hl0 : Cond.fieldLink own index "GraveOrderModel" "forms" "[I" ∈ xtb) (hd : decode cc pc = .ok (.getfield index, 3)) (k : XAt (ωR D a b) Γ (pc + 3) lv (.ref (a 23) :: vs) S) : XAt (ωR D a b) Γ pc lv (.ref (a 0) :: vs) S := x_get (q := 0) (ci := 7) (k0 := 35) (T := TX7) (N := 40) pc C rfl rfl wiX7 (by decide) rfl hl0 rfl hd k
theorem gX7_sizes (pc : Nat) (C : Cx (ωR D a b) Γ cc own ret l0 rm nL0 out0) {index : Nat} (hl0 : Cond.fieldLink own index "GraveOrderModel" "sizes" "[I" ∈ xtb) (hd : decode cc pc = .ok (.getfield index, 3)) (k : XAt (ωR D a b) Γ (pc + 3) lv (.ref (a 24) :: vs) S) : XAt (ωR D a b) Γ pc lv (.ref (a 0) :: vs) S := x_get (q := 0) (ci := 7) (k0 := 36) (T := TX7) (N := 40) pc C rfl rfl wiX7 (by decide) rfl hl0 rfl hd k
theorem gX7_items (pc : Nat) (C : Cx (ωR D a b) Γ cc own ret l0 rm nL0 out0) {index : Nat} (hl0 : Cond.fieldLink own index "GraveOrderModel" "items" "[I" ∈ xtb) (hd : decode cc pc = .ok (.getfield index, 3)) (k : XAt (ωR D a b) Γ (pc + 3) lv (.ref (a 25) :: vs) S) : XAt (ωR D a b) Γ pc lv (.ref (a 0) :: vs) S := x_get (q := 0) (ci := 7) (k0 := 37) (T := TX7) (N := 40) pc C rfl rfl wiX7 (by decide) rfl hl0 rfl hd k
theorem gX7_moved (pc : Nat) (C : Cx (ωR D a b) Γ cc own ret l0 rm nL0 out0) {index : Nat} (hl0 : Cond.fieldLink own index "GraveOrderModel" "moved" "[I" ∈ xtb) (hd : decode cc pc = .ok (.getfield index, 3)) (k : XAt (ωR D a b) Γ (pc + 3) lv (.ref (a 26) :: vs) S) : XAt (ωR D a b) Γ pc lv (.ref (a 0) :: vs) S := x_get (q := 0) (ci := 7) (k0 := 38) (T := TX7) (N := 40) pc C rfl rfl wiX7 (by decide) rfl hl0 rfl hd k
theorem gX7_finding (pc : Nat) (C : Cx (ωR D a b) Γ cc own ret l0 rm nL0 out0) {index : Nat} (hl0 : Cond.fieldLink own index "GraveOrderModel" "finding" "I" ∈ xtb) (hd : decode cc pc = .ok (.getfield index, 3)) (k : XAt (ωR D a b) Γ (pc + 3) lv (.int (S.1 0 39) :: vs) S) : XAt (ωR D a b) Γ pc lv (.ref (a 0) :: vs) S := x_get (q := 0) (ci := 7) (k0 := 39) (T := TX7) (N := 40) pc C rfl rfl wiX7 (by decide) rfl hl0 rfl hd k
theorem pX7_finding (pc : Nat) (C : Cx (ωR D a b) Γ cc own ret l0 rm nL0 out0) {index : Nat} {v : Int32} (hl0 : Cond.fieldLink own index "GraveOrderModel" "finding" "I" ∈ xtb) (hd : decode cc pc = .ok (.putfield index, 3)) (k : XAt (ωR D a b) Γ (pc + 3) lv vs (xsr S 0 39 v)) : XAt (ωR D a b) Γ pc lv (.int v :: .ref (a 0) :: vs) S := x_put (q := 0) (ci := 7) (k0 := 39) (T := TX7) (N := 40) (ty0 := tyX7) (ty := .int) pc C rfl rfl wiX7 tyX7_ok nmX7 (by decide) rfl rfl rfl rfl (by simp) rfl hl0 hd k
end XWR
end
