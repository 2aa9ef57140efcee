section
-- ===== PART A: goes FIRST, ahead of the names: the tables' words, and 'selects' of the private methods out of them =====
/-- a private method of a class that the tables say can be made, by its rows of tables_1 -/
def lw_okq (q : MethodName × Nat) : Prop := (q.1.cls ≠ "java/lang/invoke/MethodHandle" ∧ q.1.cls ≠ "java/lang/invoke/VarHandle") ∧ Cond.instantiable q.1.cls q.2 ∈ tables_1 ∧ Cond.privateMethod q.1 ∈ tables_1 ∧ Cond.instanceMethod q.1 ∈ tables_1
theorem lw_p0 : lw_okq (⟨"java/lang/Throwable", "fillInStackTrace", "(I)Ljava/lang/Throwable;"⟩, 6) := ⟨⟨by decide +kernel, by decide +kernel⟩, List.mem_of_getElem? (i := 490) (by decide +kernel), List.mem_of_getElem? (i := 488) (by decide +kernel), List.mem_of_getElem? (i := 489) (by decide +kernel)⟩
theorem lw_p1 : lw_okq (⟨"TrackHouse$World", "rolesOf", "(II)I"⟩, 4) := ⟨⟨by decide +kernel, by decide +kernel⟩, List.mem_of_getElem? (i := 81) (by decide +kernel), List.mem_of_getElem? (i := 542) (by decide +kernel), List.mem_of_getElem? (i := 543) (by decide +kernel)⟩
theorem lw_p2 : lw_okq (⟨"TrackHouse", "change", "(IIIII)V"⟩, 16) := ⟨⟨by decide +kernel, by decide +kernel⟩, List.mem_of_getElem? (i := 24) (by decide +kernel), List.mem_of_getElem? (i := 549) (by decide +kernel), List.mem_of_getElem? (i := 550) (by decide +kernel)⟩
theorem lw_p3 : lw_okq (⟨"TrackHouse$World", "current", "(III)I"⟩, 4) := ⟨⟨by decide +kernel, by decide +kernel⟩, List.mem_of_getElem? (i := 81) (by decide +kernel), List.mem_of_getElem? (i := 553) (by decide +kernel), List.mem_of_getElem? (i := 554) (by decide +kernel)⟩
theorem lw_p4 : lw_okq (⟨"TrackHouse$World", "linksOf", "(II)I"⟩, 4) := ⟨⟨by decide +kernel, by decide +kernel⟩, List.mem_of_getElem? (i := 81) (by decide +kernel), List.mem_of_getElem? (i := 557) (by decide +kernel), List.mem_of_getElem? (i := 558) (by decide +kernel)⟩
theorem lw_p5 : lw_okq (⟨"TrackHouse$World", "cell", "(II)I"⟩, 4) := ⟨⟨by decide +kernel, by decide +kernel⟩, List.mem_of_getElem? (i := 81) (by decide +kernel), List.mem_of_getElem? (i := 564) (by decide +kernel), List.mem_of_getElem? (i := 565) (by decide +kernel)⟩
theorem lw_p6 : lw_okq (⟨"TrackHouse$Log", "add", "(IIIIIII)V"⟩, 8) := ⟨⟨by decide +kernel, by decide +kernel⟩, List.mem_of_getElem? (i := 32) (by decide +kernel), List.mem_of_getElem? (i := 568) (by decide +kernel), List.mem_of_getElem? (i := 569) (by decide +kernel)⟩
theorem lw_p7 : lw_okq (⟨"TrackHouse$World", "write", "(IIII)V"⟩, 4) := ⟨⟨by decide +kernel, by decide +kernel⟩, List.mem_of_getElem? (i := 81) (by decide +kernel), List.mem_of_getElem? (i := 572) (by decide +kernel), List.mem_of_getElem? (i := 573) (by decide +kernel)⟩
theorem lw_p8 : lw_okq (⟨"TrackHouse$World", "connect", "(IIIZ)V"⟩, 4) := ⟨⟨by decide +kernel, by decide +kernel⟩, List.mem_of_getElem? (i := 81) (by decide +kernel), List.mem_of_getElem? (i := 579) (by decide +kernel), List.mem_of_getElem? (i := 580) (by decide +kernel)⟩
theorem lw_p9 : lw_okq (⟨"TrackHouse", "isWithinLimit", "(I)Z"⟩, 16) := ⟨⟨by decide +kernel, by decide +kernel⟩, List.mem_of_getElem? (i := 24) (by decide +kernel), List.mem_of_getElem? (i := 583) (by decide +kernel), List.mem_of_getElem? (i := 584) (by decide +kernel)⟩
theorem lw_p10 : lw_okq (⟨"TrackHouse", "takeBack", "(I)V"⟩, 16) := ⟨⟨by decide +kernel, by decide +kernel⟩, List.mem_of_getElem? (i := 24) (by decide +kernel), List.mem_of_getElem? (i := 587) (by decide +kernel), List.mem_of_getElem? (i := 588) (by decide +kernel)⟩
theorem lw_p11 : lw_okq (⟨"TrackHouse$World", "undo", "(LTrackHouse$Log;I)V"⟩, 4) := ⟨⟨by decide +kernel, by decide +kernel⟩, List.mem_of_getElem? (i := 81) (by decide +kernel), List.mem_of_getElem? (i := 591) (by decide +kernel), List.mem_of_getElem? (i := 592) (by decide +kernel)⟩
theorem lw_p12 : lw_okq (⟨"TrackHouse$Flows", "begin", "(I)V"⟩, 5) := ⟨⟨by decide +kernel, by decide +kernel⟩, List.mem_of_getElem? (i := 285) (by decide +kernel), List.mem_of_getElem? (i := 660) (by decide +kernel), List.mem_of_getElem? (i := 661) (by decide +kernel)⟩
theorem lw_p13 : lw_okq (⟨"TrackHouse$Flows", "has", "(II)Z"⟩, 5) := ⟨⟨by decide +kernel, by decide +kernel⟩, List.mem_of_getElem? (i := 285) (by decide +kernel), List.mem_of_getElem? (i := 670) (by decide +kernel), List.mem_of_getElem? (i := 671) (by decide +kernel)⟩
theorem lw_p14 : lw_okq (⟨"TrackHouse$Flows", "add", "(I)V"⟩, 5) := ⟨⟨by decide +kernel, by decide +kernel⟩, List.mem_of_getElem? (i := 285) (by decide +kernel), List.mem_of_getElem? (i := 675) (by decide +kernel), List.mem_of_getElem? (i := 676) (by decide +kernel)⟩
theorem lw_p15 : lw_okq (⟨"TrackHouse$Flows", "setEnds", "(III)V"⟩, 5) := ⟨⟨by decide +kernel, by decide +kernel⟩, List.mem_of_getElem? (i := 285) (by decide +kernel), List.mem_of_getElem? (i := 690) (by decide +kernel), List.mem_of_getElem? (i := 691) (by decide +kernel)⟩
def lw_privs_1 : List (MethodName × Nat) := [(⟨"java/lang/Throwable", "fillInStackTrace", "(I)Ljava/lang/Throwable;"⟩, 6), (⟨"TrackHouse$World", "rolesOf", "(II)I"⟩, 4), (⟨"TrackHouse", "change", "(IIIII)V"⟩, 16), (⟨"TrackHouse$World", "current", "(III)I"⟩, 4), (⟨"TrackHouse$World", "linksOf", "(II)I"⟩, 4), (⟨"TrackHouse$World", "cell", "(II)I"⟩, 4), (⟨"TrackHouse$Log", "add", "(IIIIIII)V"⟩, 8), (⟨"TrackHouse$World", "write", "(IIII)V"⟩, 4), (⟨"TrackHouse$World", "connect", "(IIIZ)V"⟩, 4), (⟨"TrackHouse", "isWithinLimit", "(I)Z"⟩, 16), (⟨"TrackHouse", "takeBack", "(I)V"⟩, 16), (⟨"TrackHouse$World", "undo", "(LTrackHouse$Log;I)V"⟩, 4), (⟨"TrackHouse$Flows", "begin", "(I)V"⟩, 5), (⟨"TrackHouse$Flows", "has", "(II)Z"⟩, 5), (⟨"TrackHouse$Flows", "add", "(I)V"⟩, 5), (⟨"TrackHouse$Flows", "setEnds", "(III)V"⟩, 5)]
theorem lw_r1 : ∀ q ∈ lw_privs_1, lw_okq q := List.forall_mem_cons.mpr ⟨lw_p0, List.forall_mem_cons.mpr ⟨lw_p1, List.forall_mem_cons.mpr ⟨lw_p2, List.forall_mem_cons.mpr ⟨lw_p3, List.forall_mem_cons.mpr ⟨lw_p4, List.forall_mem_cons.mpr ⟨lw_p5, List.forall_mem_cons.mpr ⟨lw_p6, List.forall_mem_cons.mpr ⟨lw_p7, List.forall_mem_cons.mpr ⟨lw_p8, List.forall_mem_cons.mpr ⟨lw_p9, List.forall_mem_cons.mpr ⟨lw_p10, List.forall_mem_cons.mpr ⟨lw_p11, List.forall_mem_cons.mpr ⟨lw_p12, List.forall_mem_cons.mpr ⟨lw_p13, List.forall_mem_cons.mpr ⟨lw_p14, List.forall_mem_cons.mpr ⟨lw_p15, fun _ h => absurd h List.not_mem_nil⟩⟩⟩⟩⟩⟩⟩⟩⟩⟩⟩⟩⟩⟩⟩⟩
theorem lw_p16 : lw_okq (⟨"TrackHouse$Flows", "setPart", "(III)V"⟩, 5) := ⟨⟨by decide +kernel, by decide +kernel⟩, List.mem_of_getElem? (i := 285) (by decide +kernel), List.mem_of_getElem? (i := 694) (by decide +kernel), List.mem_of_getElem? (i := 695) (by decide +kernel)⟩
theorem lw_p17 : lw_okq (⟨"TrackHouse$Flows", "setTerms", "(IIIII)V"⟩, 5) := ⟨⟨by decide +kernel, by decide +kernel⟩, List.mem_of_getElem? (i := 285) (by decide +kernel), List.mem_of_getElem? (i := 698) (by decide +kernel), List.mem_of_getElem? (i := 699) (by decide +kernel)⟩
theorem lw_p18 : lw_okq (⟨"TrackHouse$World", "has", "(I)Z"⟩, 4) := ⟨⟨by decide +kernel, by decide +kernel⟩, List.mem_of_getElem? (i := 81) (by decide +kernel), List.mem_of_getElem? (i := 707) (by decide +kernel), List.mem_of_getElem? (i := 708) (by decide +kernel)⟩
theorem lw_p19 : lw_okq (⟨"TrackHouse$Flows", "mappedFrom", "(I)I"⟩, 5) := ⟨⟨by decide +kernel, by decide +kernel⟩, List.mem_of_getElem? (i := 285) (by decide +kernel), List.mem_of_getElem? (i := 711) (by decide +kernel), List.mem_of_getElem? (i := 712) (by decide +kernel)⟩
theorem lw_p20 : lw_okq (⟨"TrackHouse$Flows", "exchange", "(I)V"⟩, 5) := ⟨⟨by decide +kernel, by decide +kernel⟩, List.mem_of_getElem? (i := 285) (by decide +kernel), List.mem_of_getElem? (i := 716) (by decide +kernel), List.mem_of_getElem? (i := 717) (by decide +kernel)⟩
theorem lw_p21 : lw_okq (⟨"TrackHouse", "isSettled", "(II)Z"⟩, 16) := ⟨⟨by decide +kernel, by decide +kernel⟩, List.mem_of_getElem? (i := 24) (by decide +kernel), List.mem_of_getElem? (i := 723) (by decide +kernel), List.mem_of_getElem? (i := 724) (by decide +kernel)⟩
theorem lw_p22 : lw_okq (⟨"TrackHouse", "goesThrough", "(IIZ)Z"⟩, 16) := ⟨⟨by decide +kernel, by decide +kernel⟩, List.mem_of_getElem? (i := 24) (by decide +kernel), List.mem_of_getElem? (i := 727) (by decide +kernel), List.mem_of_getElem? (i := 728) (by decide +kernel)⟩
theorem lw_p23 : lw_okq (⟨"TrackHouse", "wake", "(IIZI)V"⟩, 16) := ⟨⟨by decide +kernel, by decide +kernel⟩, List.mem_of_getElem? (i := 24) (by decide +kernel), List.mem_of_getElem? (i := 731) (by decide +kernel), List.mem_of_getElem? (i := 732) (by decide +kernel)⟩
theorem lw_p24 : lw_okq (⟨"TrackHouse", "isWoken", "(II)Z"⟩, 16) := ⟨⟨by decide +kernel, by decide +kernel⟩, List.mem_of_getElem? (i := 24) (by decide +kernel), List.mem_of_getElem? (i := 735) (by decide +kernel), List.mem_of_getElem? (i := 736) (by decide +kernel)⟩
theorem lw_p25 : lw_okq (⟨"TrackHouse$Rules", "isCause", "(III)Z"⟩, 9) := ⟨⟨by decide +kernel, by decide +kernel⟩, List.mem_of_getElem? (i := 311) (by decide +kernel), List.mem_of_getElem? (i := 739) (by decide +kernel), List.mem_of_getElem? (i := 740) (by decide +kernel)⟩
theorem lw_p26 : lw_okq (⟨"TrackHouse", "isMet", "(III)Z"⟩, 16) := ⟨⟨by decide +kernel, by decide +kernel⟩, List.mem_of_getElem? (i := 24) (by decide +kernel), List.mem_of_getElem? (i := 744) (by decide +kernel), List.mem_of_getElem? (i := 745) (by decide +kernel)⟩
theorem lw_p27 : lw_okq (⟨"TrackHouse$Kinds", "has", "(II)Z"⟩, 6) := ⟨⟨by decide +kernel, by decide +kernel⟩, List.mem_of_getElem? (i := 196) (by decide +kernel), List.mem_of_getElem? (i := 748) (by decide +kernel), List.mem_of_getElem? (i := 749) (by decide +kernel)⟩
theorem lw_p28 : lw_okq (⟨"TrackHouse", "targetsOf", "(II)I"⟩, 16) := ⟨⟨by decide +kernel, by decide +kernel⟩, List.mem_of_getElem? (i := 24) (by decide +kernel), List.mem_of_getElem? (i := 752) (by decide +kernel), List.mem_of_getElem? (i := 753) (by decide +kernel)⟩
theorem lw_p29 : lw_okq (⟨"TrackHouse$World", "childrenOf", "(I)I"⟩, 4) := ⟨⟨by decide +kernel, by decide +kernel⟩, List.mem_of_getElem? (i := 81) (by decide +kernel), List.mem_of_getElem? (i := 757) (by decide +kernel), List.mem_of_getElem? (i := 758) (by decide +kernel)⟩
theorem lw_p30 : lw_okq (⟨"TrackHouse", "canTake", "(II)Z"⟩, 16) := ⟨⟨by decide +kernel, by decide +kernel⟩, List.mem_of_getElem? (i := 24) (by decide +kernel), List.mem_of_getElem? (i := 764) (by decide +kernel), List.mem_of_getElem? (i := 765) (by decide +kernel)⟩
theorem lw_p31 : lw_okq (⟨"TrackHouse$World", "copyFrom", "(LTrackHouse$World;)V"⟩, 4) := ⟨⟨by decide +kernel, by decide +kernel⟩, List.mem_of_getElem? (i := 81) (by decide +kernel), List.mem_of_getElem? (i := 768) (by decide +kernel), List.mem_of_getElem? (i := 769) (by decide +kernel)⟩
def lw_privs_2 : List (MethodName × Nat) := [(⟨"TrackHouse$Flows", "setPart", "(III)V"⟩, 5), (⟨"TrackHouse$Flows", "setTerms", "(IIIII)V"⟩, 5), (⟨"TrackHouse$World", "has", "(I)Z"⟩, 4), (⟨"TrackHouse$Flows", "mappedFrom", "(I)I"⟩, 5), (⟨"TrackHouse$Flows", "exchange", "(I)V"⟩, 5), (⟨"TrackHouse", "isSettled", "(II)Z"⟩, 16), (⟨"TrackHouse", "goesThrough", "(IIZ)Z"⟩, 16), (⟨"TrackHouse", "wake", "(IIZI)V"⟩, 16), (⟨"TrackHouse", "isWoken", "(II)Z"⟩, 16), (⟨"TrackHouse$Rules", "isCause", "(III)Z"⟩, 9), (⟨"TrackHouse", "isMet", "(III)Z"⟩, 16), (⟨"TrackHouse$Kinds", "has", "(II)Z"⟩, 6), (⟨"TrackHouse", "targetsOf", "(II)I"⟩, 16), (⟨"TrackHouse$World", "childrenOf", "(I)I"⟩, 4), (⟨"TrackHouse", "canTake", "(II)Z"⟩, 16), (⟨"TrackHouse$World", "copyFrom", "(LTrackHouse$World;)V"⟩, 4)]
theorem lw_r2 : ∀ q ∈ lw_privs_2, lw_okq q := List.forall_mem_cons.mpr ⟨lw_p16, List.forall_mem_cons.mpr ⟨lw_p17, List.forall_mem_cons.mpr ⟨lw_p18, List.forall_mem_cons.mpr ⟨lw_p19, List.forall_mem_cons.mpr ⟨lw_p20, List.forall_mem_cons.mpr ⟨lw_p21, List.forall_mem_cons.mpr ⟨lw_p22, List.forall_mem_cons.mpr ⟨lw_p23, List.forall_mem_cons.mpr ⟨lw_p24, List.forall_mem_cons.mpr ⟨lw_p25, List.forall_mem_cons.mpr ⟨lw_p26, List.forall_mem_cons.mpr ⟨lw_p27, List.forall_mem_cons.mpr ⟨lw_p28, List.forall_mem_cons.mpr ⟨lw_p29, List.forall_mem_cons.mpr ⟨lw_p30, List.forall_mem_cons.mpr ⟨lw_p31, fun _ h => absurd h List.not_mem_nil⟩⟩⟩⟩⟩⟩⟩⟩⟩⟩⟩⟩⟩⟩⟩⟩
theorem lw_p32 : lw_okq (⟨"TrackHouse$World", "isLike", "(LTrackHouse$World;)Z"⟩, 4) := ⟨⟨by decide +kernel, by decide +kernel⟩, List.mem_of_getElem? (i := 81) (by decide +kernel), List.mem_of_getElem? (i := 775) (by decide +kernel), List.mem_of_getElem? (i := 776) (by decide +kernel)⟩
theorem lw_p33 : lw_okq (⟨"TrackHouse$World", "size", "()I"⟩, 4) := ⟨⟨by decide +kernel, by decide +kernel⟩, List.mem_of_getElem? (i := 81) (by decide +kernel), List.mem_of_getElem? (i := 786) (by decide +kernel), List.mem_of_getElem? (i := 787) (by decide +kernel)⟩
theorem lw_p34 : lw_okq (⟨"TrackHouse", "canEditIn", "(II)Z"⟩, 16) := ⟨⟨by decide +kernel, by decide +kernel⟩, List.mem_of_getElem? (i := 24) (by decide +kernel), List.mem_of_getElem? (i := 796) (by decide +kernel), List.mem_of_getElem? (i := 797) (by decide +kernel)⟩
theorem lw_p35 : lw_okq (⟨"TrackHouse$World", "redo", "(LTrackHouse$Log;I)V"⟩, 4) := ⟨⟨by decide +kernel, by decide +kernel⟩, List.mem_of_getElem? (i := 81) (by decide +kernel), List.mem_of_getElem? (i := 800) (by decide +kernel), List.mem_of_getElem? (i := 801) (by decide +kernel)⟩
theorem lw_p36 : lw_okq (⟨"TrackHouse$World", "begin", "(III)V"⟩, 4) := ⟨⟨by decide +kernel, by decide +kernel⟩, List.mem_of_getElem? (i := 81) (by decide +kernel), List.mem_of_getElem? (i := 804) (by decide +kernel), List.mem_of_getElem? (i := 805) (by decide +kernel)⟩
theorem lw_p37 : lw_okq (⟨"TrackHouse$Ranks", "append", "(I)V"⟩, 3) := ⟨⟨by decide +kernel, by decide +kernel⟩, List.mem_of_getElem? (i := 352) (by decide +kernel), List.mem_of_getElem? (i := 808) (by decide +kernel), List.mem_of_getElem? (i := 809) (by decide +kernel)⟩
theorem lw_p38 : lw_okq (⟨"TrackHouse", "isSeen", "(II)Z"⟩, 16) := ⟨⟨by decide +kernel, by decide +kernel⟩, List.mem_of_getElem? (i := 24) (by decide +kernel), List.mem_of_getElem? (i := 821) (by decide +kernel), List.mem_of_getElem? (i := 822) (by decide +kernel)⟩
theorem lw_p39 : lw_okq (⟨"TrackHouse$Sight", "look", "(LTrackHouse$World;I)V"⟩, 10) := ⟨⟨by decide +kernel, by decide +kernel⟩, List.mem_of_getElem? (i := 190) (by decide +kernel), List.mem_of_getElem? (i := 825) (by decide +kernel), List.mem_of_getElem? (i := 826) (by decide +kernel)⟩
theorem lw_p40 : lw_okq (⟨"TrackHouse$Sight", "lookAt", "(II)V"⟩, 10) := ⟨⟨by decide +kernel, by decide +kernel⟩, List.mem_of_getElem? (i := 190) (by decide +kernel), List.mem_of_getElem? (i := 832) (by decide +kernel), List.mem_of_getElem? (i := 833) (by decide +kernel)⟩
theorem lw_p41 : lw_okq (⟨"TrackHouse$Sight", "tell", "(II)V"⟩, 10) := ⟨⟨by decide +kernel, by decide +kernel⟩, List.mem_of_getElem? (i := 190) (by decide +kernel), List.mem_of_getElem? (i := 839) (by decide +kernel), List.mem_of_getElem? (i := 840) (by decide +kernel)⟩
theorem lw_p42 : lw_okq (⟨"TrackHouse$Sight", "sees", "(I)Z"⟩, 10) := ⟨⟨by decide +kernel, by decide +kernel⟩, List.mem_of_getElem? (i := 190) (by decide +kernel), List.mem_of_getElem? (i := 844) (by decide +kernel), List.mem_of_getElem? (i := 845) (by decide +kernel)⟩
theorem lw_p43 : lw_okq (⟨"TrackHouse", "canWrite", "(II)Z"⟩, 16) := ⟨⟨by decide +kernel, by decide +kernel⟩, List.mem_of_getElem? (i := 24) (by decide +kernel), List.mem_of_getElem? (i := 852) (by decide +kernel), List.mem_of_getElem? (i := 853) (by decide +kernel)⟩
theorem lw_p44 : lw_okq (⟨"TrackHouse$Sight", "canEdit", "(I)Z"⟩, 10) := ⟨⟨by decide +kernel, by decide +kernel⟩, List.mem_of_getElem? (i := 190) (by decide +kernel), List.mem_of_getElem? (i := 856) (by decide +kernel), List.mem_of_getElem? (i := 857) (by decide +kernel)⟩
theorem lw_p45 : lw_okq (⟨"TrackHouse$Sight", "canRead", "(II)Z"⟩, 10) := ⟨⟨by decide +kernel, by decide +kernel⟩, List.mem_of_getElem? (i := 190) (by decide +kernel), List.mem_of_getElem? (i := 860) (by decide +kernel), List.mem_of_getElem? (i := 861) (by decide +kernel)⟩
theorem lw_p46 : lw_okq (⟨"TrackHouse", "setCell", "(IIII)I"⟩, 16) := ⟨⟨by decide +kernel, by decide +kernel⟩, List.mem_of_getElem? (i := 24) (by decide +kernel), List.mem_of_getElem? (i := 868) (by decide +kernel), List.mem_of_getElem? (i := 869) (by decide +kernel)⟩
theorem lw_p47 : lw_okq (⟨"TrackHouse", "stepTo", "(III)I"⟩, 16) := ⟨⟨by decide +kernel, by decide +kernel⟩, List.mem_of_getElem? (i := 24) (by decide +kernel), List.mem_of_getElem? (i := 876) (by decide +kernel), List.mem_of_getElem? (i := 877) (by decide +kernel)⟩
def lw_privs_3 : List (MethodName × Nat) := [(⟨"TrackHouse$World", "isLike", "(LTrackHouse$World;)Z"⟩, 4), (⟨"TrackHouse$World", "size", "()I"⟩, 4), (⟨"TrackHouse", "canEditIn", "(II)Z"⟩, 16), (⟨"TrackHouse$World", "redo", "(LTrackHouse$Log;I)V"⟩, 4), (⟨"TrackHouse$World", "begin", "(III)V"⟩, 4), (⟨"TrackHouse$Ranks", "append", "(I)V"⟩, 3), (⟨"TrackHouse", "isSeen", "(II)Z"⟩, 16), (⟨"TrackHouse$Sight", "look", "(LTrackHouse$World;I)V"⟩, 10), (⟨"TrackHouse$Sight", "lookAt", "(II)V"⟩, 10), (⟨"TrackHouse$Sight", "tell", "(II)V"⟩, 10), (⟨"TrackHouse$Sight", "sees", "(I)Z"⟩, 10), (⟨"TrackHouse", "canWrite", "(II)Z"⟩, 16), (⟨"TrackHouse$Sight", "canEdit", "(I)Z"⟩, 10), (⟨"TrackHouse$Sight", "canRead", "(II)Z"⟩, 10), (⟨"TrackHouse", "setCell", "(IIII)I"⟩, 16), (⟨"TrackHouse", "stepTo", "(III)I"⟩, 16)]
theorem lw_r3 : ∀ q ∈ lw_privs_3, lw_okq q := List.forall_mem_cons.mpr ⟨lw_p32, List.forall_mem_cons.mpr ⟨lw_p33, List.forall_mem_cons.mpr ⟨lw_p34, List.forall_mem_cons.mpr ⟨lw_p35, List.forall_mem_cons.mpr ⟨lw_p36, List.forall_mem_cons.mpr ⟨lw_p37, List.forall_mem_cons.mpr ⟨lw_p38, List.forall_mem_cons.mpr ⟨lw_p39, List.forall_mem_cons.mpr ⟨lw_p40, List.forall_mem_cons.mpr ⟨lw_p41, List.forall_mem_cons.mpr ⟨lw_p42, List.forall_mem_cons.mpr ⟨lw_p43, List.forall_mem_cons.mpr ⟨lw_p44, List.forall_mem_cons.mpr ⟨lw_p45, List.forall_mem_cons.mpr ⟨lw_p46, List.forall_mem_cons.mpr ⟨lw_p47, fun _ h => absurd h List.not_mem_nil⟩⟩⟩⟩⟩⟩⟩⟩⟩⟩⟩⟩⟩⟩⟩⟩
theorem lw_p48 : lw_okq (⟨"TrackHouse$Flows", "part", "(III)I"⟩, 5) := ⟨⟨by decide +kernel, by decide +kernel⟩, List.mem_of_getElem? (i := 285) (by decide +kernel), List.mem_of_getElem? (i := 880) (by decide +kernel), List.mem_of_getElem? (i := 881) (by decide +kernel)⟩
theorem lw_p49 : lw_okq (⟨"TrackHouse", "isAtOrAbove", "(II)Z"⟩, 16) := ⟨⟨by decide +kernel, by decide +kernel⟩, List.mem_of_getElem? (i := 24) (by decide +kernel), List.mem_of_getElem? (i := 888) (by decide +kernel), List.mem_of_getElem? (i := 889) (by decide +kernel)⟩
theorem lw_p50 : lw_okq (⟨"TrackHouse$Query", "append", "(C)I"⟩, 12) := ⟨⟨by decide +kernel, by decide +kernel⟩, List.mem_of_getElem? (i := 107) (by decide +kernel), List.mem_of_getElem? (i := 911) (by decide +kernel), List.mem_of_getElem? (i := 912) (by decide +kernel)⟩
theorem lw_p51 : lw_okq (⟨"TrackHouse$Query", "compile", "()I"⟩, 12) := ⟨⟨by decide +kernel, by decide +kernel⟩, List.mem_of_getElem? (i := 107) (by decide +kernel), List.mem_of_getElem? (i := 923) (by decide +kernel), List.mem_of_getElem? (i := 924) (by decide +kernel)⟩
theorem lw_p52 : lw_okq (⟨"TrackHouse$Query", "beginsWell", "()Z"⟩, 12) := ⟨⟨by decide +kernel, by decide +kernel⟩, List.mem_of_getElem? (i := 107) (by decide +kernel), List.mem_of_getElem? (i := 927) (by decide +kernel), List.mem_of_getElem? (i := 928) (by decide +kernel)⟩
theorem lw_p53 : lw_okq (⟨"TrackHouse$Query", "sign", "()C"⟩, 12) := ⟨⟨by decide +kernel, by decide +kernel⟩, List.mem_of_getElem? (i := 107) (by decide +kernel), List.mem_of_getElem? (i := 931) (by decide +kernel), List.mem_of_getElem? (i := 932) (by decide +kernel)⟩
theorem lw_p54 : lw_okq (⟨"TrackHouse$Query", "takes", "(C)Z"⟩, 12) := ⟨⟨by decide +kernel, by decide +kernel⟩, List.mem_of_getElem? (i := 107) (by decide +kernel), List.mem_of_getElem? (i := 935) (by decide +kernel), List.mem_of_getElem? (i := 936) (by decide +kernel)⟩
theorem lw_p55 : lw_okq (⟨"TrackHouse$Query", "opens", "(CI)Z"⟩, 12) := ⟨⟨by decide +kernel, by decide +kernel⟩, List.mem_of_getElem? (i := 107) (by decide +kernel), List.mem_of_getElem? (i := 939) (by decide +kernel), List.mem_of_getElem? (i := 940) (by decide +kernel)⟩
theorem lw_p56 : lw_okq (⟨"TrackHouse$Query", "digit", "(I)I"⟩, 12) := ⟨⟨by decide +kernel, by decide +kernel⟩, List.mem_of_getElem? (i := 107) (by decide +kernel), List.mem_of_getElem? (i := 944) (by decide +kernel), List.mem_of_getElem? (i := 945) (by decide +kernel)⟩
theorem lw_p57 : lw_okq (⟨"TrackHouse$Query", "opensTyped", "(CI)Z"⟩, 12) := ⟨⟨by decide +kernel, by decide +kernel⟩, List.mem_of_getElem? (i := 107) (by decide +kernel), List.mem_of_getElem? (i := 948) (by decide +kernel), List.mem_of_getElem? (i := 949) (by decide +kernel)⟩
theorem lw_p58 : lw_okq (⟨"TrackHouse$Query", "ends", "(IIII)Z"⟩, 12) := ⟨⟨by decide +kernel, by decide +kernel⟩, List.mem_of_getElem? (i := 107) (by decide +kernel), List.mem_of_getElem? (i := 952) (by decide +kernel), List.mem_of_getElem? (i := 953) (by decide +kernel)⟩
theorem lw_p59 : lw_okq (⟨"TrackHouse$Query", "add", "(IIII)V"⟩, 12) := ⟨⟨by decide +kernel, by decide +kernel⟩, List.mem_of_getElem? (i := 107) (by decide +kernel), List.mem_of_getElem? (i := 956) (by decide +kernel), List.mem_of_getElem? (i := 957) (by decide +kernel)⟩
theorem lw_p60 : lw_okq (⟨"TrackHouse$Query", "endsWithTwo", "(CI)Z"⟩, 12) := ⟨⟨by decide +kernel, by decide +kernel⟩, List.mem_of_getElem? (i := 107) (by decide +kernel), List.mem_of_getElem? (i := 961) (by decide +kernel), List.mem_of_getElem? (i := 962) (by decide +kernel)⟩
theorem lw_p61 : lw_okq (⟨"TrackHouse$Query", "compares", "(I)Z"⟩, 12) := ⟨⟨by decide +kernel, by decide +kernel⟩, List.mem_of_getElem? (i := 107) (by decide +kernel), List.mem_of_getElem? (i := 965) (by decide +kernel), List.mem_of_getElem? (i := 966) (by decide +kernel)⟩
theorem lw_p62 : lw_okq (⟨"TrackHouse$Query", "goesOnWell", "()Z"⟩, 12) := ⟨⟨by decide +kernel, by decide +kernel⟩, List.mem_of_getElem? (i := 107) (by decide +kernel), List.mem_of_getElem? (i := 969) (by decide +kernel), List.mem_of_getElem? (i := 970) (by decide +kernel)⟩
theorem lw_p63 : lw_okq (⟨"TrackHouse$Query", "closes", "(I)Z"⟩, 12) := ⟨⟨by decide +kernel, by decide +kernel⟩, List.mem_of_getElem? (i := 107) (by decide +kernel), List.mem_of_getElem? (i := 973) (by decide +kernel), List.mem_of_getElem? (i := 974) (by decide +kernel)⟩
def lw_privs_4 : List (MethodName × Nat) := [(⟨"TrackHouse$Flows", "part", "(III)I"⟩, 5), (⟨"TrackHouse", "isAtOrAbove", "(II)Z"⟩, 16), (⟨"TrackHouse$Query", "append", "(C)I"⟩, 12), (⟨"TrackHouse$Query", "compile", "()I"⟩, 12), (⟨"TrackHouse$Query", "beginsWell", "()Z"⟩, 12), (⟨"TrackHouse$Query", "sign", "()C"⟩, 12), (⟨"TrackHouse$Query", "takes", "(C)Z"⟩, 12), (⟨"TrackHouse$Query", "opens", "(CI)Z"⟩, 12), (⟨"TrackHouse$Query", "digit", "(I)I"⟩, 12), (⟨"TrackHouse$Query", "opensTyped", "(CI)Z"⟩, 12), (⟨"TrackHouse$Query", "ends", "(IIII)Z"⟩, 12), (⟨"TrackHouse$Query", "add", "(IIII)V"⟩, 12), (⟨"TrackHouse$Query", "endsWithTwo", "(CI)Z"⟩, 12), (⟨"TrackHouse$Query", "compares", "(I)Z"⟩, 12), (⟨"TrackHouse$Query", "goesOnWell", "()Z"⟩, 12), (⟨"TrackHouse$Query", "closes", "(I)Z"⟩, 12)]
theorem lw_r4 : ∀ q ∈ lw_privs_4, lw_okq q := List.forall_mem_cons.mpr ⟨lw_p48, List.forall_mem_cons.mpr ⟨lw_p49, List.forall_mem_cons.mpr ⟨lw_p50, List.forall_mem_cons.mpr ⟨lw_p51, List.forall_mem_cons.mpr ⟨lw_p52, List.forall_mem_cons.mpr ⟨lw_p53, List.forall_mem_cons.mpr ⟨lw_p54, List.forall_mem_cons.mpr ⟨lw_p55, List.forall_mem_cons.mpr ⟨lw_p56, List.forall_mem_cons.mpr ⟨lw_p57, List.forall_mem_cons.mpr ⟨lw_p58, List.forall_mem_cons.mpr ⟨lw_p59, List.forall_mem_cons.mpr ⟨lw_p60, List.forall_mem_cons.mpr ⟨lw_p61, List.forall_mem_cons.mpr ⟨lw_p62, List.forall_mem_cons.mpr ⟨lw_p63, fun _ h => absurd h List.not_mem_nil⟩⟩⟩⟩⟩⟩⟩⟩⟩⟩⟩⟩⟩⟩⟩⟩
theorem lw_p64 : lw_okq (⟨"TrackHouse", "isDay", "(I)Z"⟩, 16) := ⟨⟨by decide +kernel, by decide +kernel⟩, List.mem_of_getElem? (i := 24) (by decide +kernel), List.mem_of_getElem? (i := 981) (by decide +kernel), List.mem_of_getElem? (i := 982) (by decide +kernel)⟩
theorem lw_p65 : lw_okq (⟨"TrackHouse", "lookOn", "(II)V"⟩, 16) := ⟨⟨by decide +kernel, by decide +kernel⟩, List.mem_of_getElem? (i := 24) (by decide +kernel), List.mem_of_getElem? (i := 985) (by decide +kernel), List.mem_of_getElem? (i := 986) (by decide +kernel)⟩
theorem lw_p66 : lw_okq (⟨"TrackHouse$View", "readIndexed", "(LTrackHouse$Log;III)V"⟩, 6) := ⟨⟨by decide +kernel, by decide +kernel⟩, List.mem_of_getElem? (i := 157) (by decide +kernel), List.mem_of_getElem? (i := 989) (by decide +kernel), List.mem_of_getElem? (i := 990) (by decide +kernel)⟩
theorem lw_p67 : lw_okq (⟨"TrackHouse$World", "clear", "()V"⟩, 4) := ⟨⟨by decide +kernel, by decide +kernel⟩, List.mem_of_getElem? (i := 81) (by decide +kernel), List.mem_of_getElem? (i := 993) (by decide +kernel), List.mem_of_getElem? (i := 994) (by decide +kernel)⟩
theorem lw_p68 : lw_okq (⟨"TrackHouse$View", "read", "(LTrackHouse$Log;I)V"⟩, 6) := ⟨⟨by decide +kernel, by decide +kernel⟩, List.mem_of_getElem? (i := 157) (by decide +kernel), List.mem_of_getElem? (i := 1000) (by decide +kernel), List.mem_of_getElem? (i := 1001) (by decide +kernel)⟩
theorem lw_p69 : lw_okq (⟨"TrackHouse$View", "readUpTo", "(LTrackHouse$Log;I)V"⟩, 6) := ⟨⟨by decide +kernel, by decide +kernel⟩, List.mem_of_getElem? (i := 157) (by decide +kernel), List.mem_of_getElem? (i := 1008) (by decide +kernel), List.mem_of_getElem? (i := 1009) (by decide +kernel)⟩
theorem lw_p70 : lw_okq (⟨"TrackHouse$Finder", "hits", "()I"⟩, 4) := ⟨⟨by decide +kernel, by decide +kernel⟩, List.mem_of_getElem? (i := 101) (by decide +kernel), List.mem_of_getElem? (i := 1012) (by decide +kernel), List.mem_of_getElem? (i := 1013) (by decide +kernel)⟩
theorem lw_p71 : lw_okq (⟨"TrackHouse$Finder", "related", "(III)I"⟩, 4) := ⟨⟨by decide +kernel, by decide +kernel⟩, List.mem_of_getElem? (i := 101) (by decide +kernel), List.mem_of_getElem? (i := 1021) (by decide +kernel), List.mem_of_getElem? (i := 1022) (by decide +kernel)⟩
theorem lw_p72 : lw_okq (⟨"TrackHouse$Finder", "leaves", "(I)I"⟩, 4) := ⟨⟨by decide +kernel, by decide +kernel⟩, List.mem_of_getElem? (i := 101) (by decide +kernel), List.mem_of_getElem? (i := 1029) (by decide +kernel), List.mem_of_getElem? (i := 1030) (by decide +kernel)⟩
theorem lw_p73 : lw_okq (⟨"TrackHouse$Finder", "compares", "(II)Z"⟩, 4) := ⟨⟨by decide +kernel, by decide +kernel⟩, List.mem_of_getElem? (i := 101) (by decide +kernel), List.mem_of_getElem? (i := 1033) (by decide +kernel), List.mem_of_getElem? (i := 1034) (by decide +kernel)⟩
theorem lw_p74 : lw_okq (⟨"TrackHouse$Sight", "value", "(II)I"⟩, 10) := ⟨⟨by decide +kernel, by decide +kernel⟩, List.mem_of_getElem? (i := 190) (by decide +kernel), List.mem_of_getElem? (i := 1037) (by decide +kernel), List.mem_of_getElem? (i := 1038) (by decide +kernel)⟩
theorem lw_p75 : lw_okq (⟨"TrackHouse$Sight", "computed", "(I)I"⟩, 10) := ⟨⟨by decide +kernel, by decide +kernel⟩, List.mem_of_getElem? (i := 190) (by decide +kernel), List.mem_of_getElem? (i := 1042) (by decide +kernel), List.mem_of_getElem? (i := 1043) (by decide +kernel)⟩
theorem lw_p76 : lw_okq (⟨"TrackHouse$Finder", "holds", "(II)Z"⟩, 4) := ⟨⟨by decide +kernel, by decide +kernel⟩, List.mem_of_getElem? (i := 101) (by decide +kernel), List.mem_of_getElem? (i := 1047) (by decide +kernel), List.mem_of_getElem? (i := 1048) (by decide +kernel)⟩
theorem lw_p77 : lw_okq (⟨"TrackHouse$View", "cameFrom", "(III)Z"⟩, 6) := ⟨⟨by decide +kernel, by decide +kernel⟩, List.mem_of_getElem? (i := 157) (by decide +kernel), List.mem_of_getElem? (i := 1051) (by decide +kernel), List.mem_of_getElem? (i := 1052) (by decide +kernel)⟩
theorem lw_p78 : lw_okq (⟨"TrackHouse$Sight", "total", "(II)I"⟩, 10) := ⟨⟨by decide +kernel, by decide +kernel⟩, List.mem_of_getElem? (i := 190) (by decide +kernel), List.mem_of_getElem? (i := 1066) (by decide +kernel), List.mem_of_getElem? (i := 1067) (by decide +kernel)⟩
def lw_privs_5 : List (MethodName × Nat) := [(⟨"TrackHouse", "isDay", "(I)Z"⟩, 16), (⟨"TrackHouse", "lookOn", "(II)V"⟩, 16), (⟨"TrackHouse$View", "readIndexed", "(LTrackHouse$Log;III)V"⟩, 6), (⟨"TrackHouse$World", "clear", "()V"⟩, 4), (⟨"TrackHouse$View", "read", "(LTrackHouse$Log;I)V"⟩, 6), (⟨"TrackHouse$View", "readUpTo", "(LTrackHouse$Log;I)V"⟩, 6), (⟨"TrackHouse$Finder", "hits", "()I"⟩, 4), (⟨"TrackHouse$Finder", "related", "(III)I"⟩, 4), (⟨"TrackHouse$Finder", "leaves", "(I)I"⟩, 4), (⟨"TrackHouse$Finder", "compares", "(II)Z"⟩, 4), (⟨"TrackHouse$Sight", "value", "(II)I"⟩, 10), (⟨"TrackHouse$Sight", "computed", "(I)I"⟩, 10), (⟨"TrackHouse$Finder", "holds", "(II)Z"⟩, 4), (⟨"TrackHouse$View", "cameFrom", "(III)Z"⟩, 6), (⟨"TrackHouse$Sight", "total", "(II)I"⟩, 10)]
theorem lw_r5 : ∀ q ∈ lw_privs_5, lw_okq q := List.forall_mem_cons.mpr ⟨lw_p64, List.forall_mem_cons.mpr ⟨lw_p65, List.forall_mem_cons.mpr ⟨lw_p66, List.forall_mem_cons.mpr ⟨lw_p67, List.forall_mem_cons.mpr ⟨lw_p68, List.forall_mem_cons.mpr ⟨lw_p69, List.forall_mem_cons.mpr ⟨lw_p70, List.forall_mem_cons.mpr ⟨lw_p71, List.forall_mem_cons.mpr ⟨lw_p72, List.forall_mem_cons.mpr ⟨lw_p73, List.forall_mem_cons.mpr ⟨lw_p74, List.forall_mem_cons.mpr ⟨lw_p75, List.forall_mem_cons.mpr ⟨lw_p76, List.forall_mem_cons.mpr ⟨lw_p77, List.forall_mem_cons.mpr ⟨lw_p78, fun _ h => absurd h List.not_mem_nil⟩⟩⟩⟩⟩⟩⟩⟩⟩⟩⟩⟩⟩⟩⟩
def lw_privs : List (MethodName × Nat) := lw_privs_1 ++ (lw_privs_2 ++ (lw_privs_3 ++ (lw_privs_4 ++ (lw_privs_5))))
def lw_tbl : List Cond := k2_sels lw_privs ++ tables_1
theorem lw_privs_ok : ∀ q ∈ lw_privs, lw_okq q := by
  show ∀ q ∈ lw_privs_1 ++ (lw_privs_2 ++ (lw_privs_3 ++ (lw_privs_4 ++ (lw_privs_5)))), lw_okq q
  exact List.forall_mem_append.mpr ⟨lw_r1, List.forall_mem_append.mpr ⟨lw_r2, List.forall_mem_append.mpr ⟨lw_r3, List.forall_mem_append.mpr ⟨lw_r4, lw_r5⟩⟩⟩⟩
end
section
/-! ===== BEGIN words of one list among another's, by their places ===== -/
theorem goodIn_r {big : List Cond} (ws : List Cond) (ps : List Nat) (hp : ws = ps.filterMap (fun i => big[i]?)) (h : ws.all goodWord = true) : GoodIn big ws := by
  intro w hw
  have h1 := List.all_eq_true.mp h w hw
  rw [hp] at hw
  obtain ⟨i, -, hi⟩ := List.mem_filterMap.mp hw
  have hm : w ∈ big := by first | exact List.mem_of_getElem? hi | exact List.getElem?_mem hi
  exact ⟨hm, good_of_word h1⟩
theorem goodIn_app {big a b : List Cond} (ha : GoodIn big a) (hb : GoodIn big b) : GoodIn big (a ++ b) := fun w h => (List.mem_append.mp h).elim (ha w) (hb w)
theorem goodIn_ca {big a b : List Cond} {c : Cond} (ha : GoodIn big (c :: a)) (hb : GoodIn big b) : GoodIn big (c :: (a ++ b)) := fun w h => (List.mem_cons.mp h).elim (fun e => ha w (List.mem_cons.mpr (Or.inl e))) (fun h => (List.mem_append.mp h).elim (fun h => ha w (List.mem_cons.mpr (Or.inr h))) (hb w))
theorem goodIn_sub {big ws : List Cond} (hm : ∀ w ∈ ws, w ∈ big) (h : ws.all goodWord = true) : GoodIn big ws := fun w hw => ⟨hm w hw, good_of_word (List.all_eq_true.mp h w hw)⟩
/-! ===== END ===== -/

/-! ===== BEGIN exceptions that leave a method, and their catching by the caller (launches without stack traces) ===== -/
section VXA
/-! The laws vx_back, vx_callV, vx_callS, vx_callSW, vx_throw0, vx_throwS follow proofs of the library, with one case more: JvmDerived/Free/Laws.lean (Back.of_free), Shelf42/LK1.lean (callV, callS), Shelf/KitTraced.lean (throwNew0V, throwNewS). -/
/-- where a method has thrown q: the class by its name, the cell, what was written, the world -/
def vx_T (XC : String → State → State → Prop) (st : State) (q : Addr) (t : State) (mc ms : Nat) (free : Addr → Prop) : Prop :=
  ∃ (E : String) (ce : Cell) (L : List Loc), XC E st t ∧ t.heap[q]? = some ce ∧ ce.vm = .none ∧ st.vm.findClass E = some ce.cls ∧ st.WarmedH t.vm ∧ st.sameButNew ({ t with vm := st.vm } : State) L mc ms ∧ ∀ z ∈ L, free z.base
def vx_Q (Qc : Array Value → State → Outcome → State → Prop) (XC : String → State → State → Prop) (mc ms : Nat) (free : Addr → Prop) : Array Value → State → Outcome → State → Prop := fun a st o t =>
  (Qc a st o t ∧ ∃ L, FrameEnd st o t L mc ms ∧ ∀ q ∈ L, free q.base) ∨ ∃ q, o = .threw q ∧ vx_T XC st q t mc ms free
/-- a callee that returns or throws -/
def vx_Met (l : Launch) (y : MethodName) (ws : List Cond) (rm : Room) (Pc : Array Value → State → Prop) (Qc : Array Value → State → Outcome → State → Prop) (XC : String → State → State → Prop) (mc ms : Nat) (free : Addr → Prop) : Prop :=
  MetFree l y (headSpec ws rm) Pc (fun _ _ _ _ _ => True) (vx_Q Qc XC mc ms free)
def vx_Post (XC : String → State → State → Prop) (mc ms : Nat) (free : Addr → Prop) : Pt → Array Value → Addr → Pt → Prop := fun A a q B =>
  ∃ (g : JFrame) (mk : MethodId) (t : State) (L : List Loc) (E : String) (ce : Cell), B.U.heap = t.heap ∧ B.U.vm = t.vm ∧ XC E (A.U.calling g mk a) t ∧ t.heap[q]? = some ce ∧ ce.vm = .none ∧ A.U.vm.findClass E = some ce.cls ∧ B.locs = A.locs ++ L ∧ (∀ z ∈ L, free z.base) ∧ B.cells = A.cells + mc ∧ B.slots = A.slots + ms
def vx_Back (l : Launch) (R : Room) (p : Program) (e : Env) (below : List Frame) (s : State) (sargs : Array Value) (y : MethodName) (len W9 : Nat)
    (Pre : Pt → Array Value → Prop) (Post : Pt → Array Value → Option Value → Pt → Prop) (PostX : Pt → Array Value → Addr → Pt → Prop) : Prop :=
  ∀ (m : MethodId) (meth : Method) (c : Code) (A : Pt) (g : JFrame) (ig : Instr) (mk : MethodId) (a : Array Value),
    Stand p l e R s m sargs below meth c A.U A.locs A.cells A.slots → g.method = m → g.locals.size = c.maxLocals → decode c.code g.pc = .ok (ig, len) →
    2 * g.monitorRoom + (g.stack.map fun v => v.category).sum ≤ W9 → A.U.methodNamed? y = some mk → Pre A a →
    (∃ (v : Option Value) (B : Pt), Stand p l e R s m sargs below meth c B.U B.locs B.cells B.slots ∧ Post A a v B ∧
      Steps p.tables e below (doInvoke e (A.U.setTop g) [] mk a).1 (B.U.setTop { g with pc := g.pc + len, stack := v.toList ++ g.stack })) ∨
    (∃ (q : Addr) (B : Pt), Stand p l e R s m sargs below meth c B.U B.locs B.cells B.slots ∧ PostX A a q B ∧
      Steps p.tables e below (doInvoke e (A.U.setTop g) [] mk a).1 ((B.U.setTop g).pushFrame (.throwing q)))
section Payer
variable {l : Launch} {R : Room} {p : Program} {e : Env} {below : List Frame} {s : State} {sargs : Array Value} {y : MethodName} {len W9 : Nat}
theorem vx_back {ws : List Cond} {rm : Room} {Pc : Array Value → State → Prop} {Qc : Array Value → State → Outcome → State → Prop} {XC : String → State → State → Prop} {mc ms : Nat} {free : Addr → Prop} {bytes : ByteArray} {maxL : Nat} {ret : Option FieldType}
    (hM : vx_Met l y ws rm Pc Qc XC mc ms free) (hblind : FrameBlind Pc) (hrc : rm.cells = mc) (hrs : rm.slots = ms)
    (hframes : rm.frames + 1 ≤ R.frames) (hlocals : W9 + (maxL + 11) + rm.locals ≤ R.locals)
    (hws : ∀ w ∈ ws, ∀ a' U, s.WarmedH U.vm → w.before a' U = true) (hcode : Cond.code y bytes maxL ret ∈ ws) (hinit : ∀ a' U, s.WarmedH U.vm → (Cond.initialized y.cls).before a' U = true) :
    vx_Back l R p e below s sargs y len W9 (PreOf R mc ms Pc) (PostOf Qc mc ms free) (vx_Post XC mc ms free) := by
  intro m meth c A g ig mk a X hg hsize hdg hW hn hp
  have h1 : (headSpec ws rm).pre.before a A.U = true := atoms_intro fun w hw => hws w hw _ _ X.warmed
  have h2 : (Cond.code y bytes maxL ret).before a A.U = true := hws _ hcode _ _ X.warmed
  have h3 : (Cond.initialized y.cls).before a A.U = true := hinit _ _ X.warmed
  have h4 : A.cells + (headSpec ws rm).room.cells ≤ R.cells := by rw [show (headSpec ws rm).room.cells = mc from hrc]; exact hp.1
  have h5 : A.slots + (headSpec ws rm).room.slots ≤ R.slots := by rw [show (headSpec ws rm).room.slots = ms from hrs]; exact hp.2.1
  have hPc : Pc a (A.U.calling g mk a) := hblind _ _ _ _ hp.2.2
  obtain ⟨U, Ls, c0, s0⟩ := A
  dsimp only [Pt.U, Pt.locs, Pt.cells, Pt.slots] at h1 h2 h3 h4 h5 X hn hPc ⊢
  obtain ⟨methY, cY, hmY, hcY, -, hlY, -, -, -, -⟩ := Cond.code_spec hn h2
  obtain ⟨kY, hkY, -⟩ := className_of_methodNamed hn
  have hinitY : kY.init = .initialized := Cond.initialized_spec (findClass_of_methodNamed hn) hkY h3
  have h : At U g.method c below := by rw [hg]; exact X.here
  have hlocals9 : W9 + (maxL + 11) + (headSpec ws rm).room.locals ≤ R.locals := hlocals
  have happ : (headSpec ws rm).appliesLoose y e.platform (U.calling g mk a) = true :=
    Spec.appliesLoose_calling (g := g) h hdg hn hkY hinitY
      (X.room_calling (g := g) (R' := (headSpec ws rm).room) hsize hmY hcY hframes (by rw [hlY]; omega) h4 h5) h1
  obtain ⟨mid, hmid⟩ := h.above
  have hfr : (U.setTop g).frames = (.java g :: mid) ++ below := by rw [State.frames_setTop' g h.top, hmid]; rfl
  obtain ⟨o, s₂, hsteps, -, hend, hq⟩ := Steps.callFree hM p X.admits X.cas X.clock (acts := []) hfr happ hPc trivial
  have hq' : vx_Q Qc XC mc ms free a (U.calling g mk a) o s₂ := hq
  rw [State.frames_setTop' g h.top] at hend
  obtain ⟨g₀, hg0⟩ := Option.isSome_iff_exists.mp h.top
  obtain ⟨r, hr⟩ := State.topJava?_eq_some.mp hg0
  have hr' : (({ U with heap := s₂.heap, slotsUsed := s₂.slotsUsed } : State).setVm s₂.vm).frames = .java g₀ :: r := hr
  rcases hq' with ⟨hqc, L, hfe, hL⟩ | ⟨q, rfl, E, ce, L, hx, hce, hcv, hcl, hW₂, hsm, hL⟩
  · obtain ⟨⟨v, rfl⟩, hW₂, e2, q2, q3, q4, q5, q6⟩ := id hfe
    have e3 : s₂ = ({ (U.calling g mk a).setFrames s₂.frames with heap := s₂.heap, slotsUsed := s₂.slotsUsed } : State).setVm s₂.vm := by
      have : s₂ = ({ s₂ with vm := (U.calling g mk a).vm } : State).setVm s₂.vm := rfl
      rw [e2] at this
      exact this
    obtain ⟨c₂, i₂, len₂, hc₂, hd₂, hf₂⟩ := hend
    have hW' : U.WarmedH s₂.vm := hW₂
    have hcc : c₂ = c := by
      have h1 : s₂.code? g.method = U.code? g.method := by
        rw [State.code?_eq, State.code?_eq, hW'.alike.method?]
      exact Option.some.inj (hc₂.symm.trans (h1.trans h.code))
    subst hcc
    have hlen : len₂ = len := by rw [hdg] at hd₂; cases hd₂; rfl
    subst hlen
    have hs₂ : s₂ = (({ U with heap := s₂.heap, slotsUsed := s₂.slotsUsed } : State).setVm s₂.vm).setTop { g with pc := g.pc + len₂, stack := v.toList ++ g.stack } := by
      refine e3.trans ?_
      rw [hf₂, State.calling_eq h.top, State.setFrames_setFrames, State.setTop_of_frames _ hr', hr]
      rfl
    have hsame : U.sameButNew ({ U with heap := s₂.heap, slotsUsed := s₂.slotsUsed } : State) L mc ms := by
      refine ⟨?_, q2, q3, q4, q5, q6⟩
      obtain ⟨t, ht, -⟩ := State.frames_cons hr
      show ({ U with heap := s₂.heap, slotsUsed := s₂.slotsUsed } : State) = { U.setFrames U.frames with heap := s₂.heap, slotsUsed := s₂.slotsUsed }
      rw [State.setFrames_self ht]
    subst hg
    refine Or.inl ⟨v, ⟨(({ U with heap := s₂.heap, slotsUsed := s₂.slotsUsed } : State).setVm s₂.vm), Ls ++ L, c0 + mc, s0 + ms⟩,
      ⟨X.admits, X.cas, X.clock, X.frames, X.room, X.hears, X.method, X.code, (X.here.setHeapUsed s₂.heap s₂.slotsUsed).setVm hW'.alike, X.tail, State.WarmedH.trans X.warmed hW', X.limits, X.bytes, X.same.trans (hsame.setVm s.vm)⟩,
      ⟨g, mk, s₂, L, rfl, rfl, hqc, rfl, hL, rfl, rfl⟩, ?_⟩
    show Steps p.tables e below _ ((({ U with heap := s₂.heap, slotsUsed := s₂.slotsUsed } : State).setVm s₂.vm).setTop { g with pc := g.pc + len₂, stack := v.toList ++ g.stack })
    rw [← hs₂]
    exact hsteps
  · obtain ⟨e2, q2, q3, q4, q5, q6⟩ := id hsm
    have e3 : s₂ = ({ (U.calling g mk a).setFrames s₂.frames with heap := s₂.heap, slotsUsed := s₂.slotsUsed } : State).setVm s₂.vm := by
      have : s₂ = ({ s₂ with vm := (U.calling g mk a).vm } : State).setVm s₂.vm := rfl
      rw [e2] at this
      exact this
    have hf₂ : s₂.frames = .throwing q :: .java g :: U.frames.tail := hend
    have hW' : U.WarmedH s₂.vm := hW₂
    have hs₂ : s₂ = ((({ U with heap := s₂.heap, slotsUsed := s₂.slotsUsed } : State).setVm s₂.vm).setTop g).pushFrame (.throwing q) := by
      refine e3.trans ?_
      rw [hf₂, State.calling_eq h.top, State.setFrames_setFrames, State.pushFrame, State.frames_setTop _ hr', State.setTop_of_frames _ hr', State.setFrames_setFrames, hr]
      rfl
    have hsame : U.sameButNew ({ U with heap := s₂.heap, slotsUsed := s₂.slotsUsed } : State) L mc ms := by
      refine ⟨?_, q2, q3, q4, q5, q6⟩
      obtain ⟨t, ht, -⟩ := State.frames_cons hr
      show ({ U with heap := s₂.heap, slotsUsed := s₂.slotsUsed } : State) = { U.setFrames U.frames with heap := s₂.heap, slotsUsed := s₂.slotsUsed }
      rw [State.setFrames_self ht]
    subst hg
    refine Or.inr ⟨q, ⟨(({ U with heap := s₂.heap, slotsUsed := s₂.slotsUsed } : State).setVm s₂.vm), Ls ++ L, c0 + mc, s0 + ms⟩,
      ⟨X.admits, X.cas, X.clock, X.frames, X.room, X.hears, X.method, X.code, (X.here.setHeapUsed s₂.heap s₂.slotsUsed).setVm hW'.alike, X.tail, State.WarmedH.trans X.warmed hW', X.limits, X.bytes, X.same.trans (hsame.setVm s.vm)⟩,
      ⟨g, mk, s₂, L, E, ce, rfl, rfl, hx, hce, hcv, hcl, rfl, hL, rfl, rfl⟩, ?_⟩
    show Steps p.tables e below _ (((({ U with heap := s₂.heap, slotsUsed := s₂.slotsUsed } : State).setVm s₂.vm).setTop g).pushFrame (.throwing q))
    rw [← hs₂]
    exact hsteps
end Payer
section Calls
variable {p : Program} {l : Launch} {e : Env} {R : Room} {s : State} {m : MethodId} {args : Array Value} {below : List Frame} {meth : Method} {c : Code} {T : State} {locs : List Loc} {cells slots : Nat}
theorem vx_callV (X : Stand p l e R s m args below meth c T locs cells slots) (hexec : p.tables.exec = Jvm.exec) {own C : String} {index : Nat} {y : MethodName} {bytes : ByteArray} {maxL : Nat} {ret : Option FieldType}
    (hown : s.vm.findClass own = some m.cls) (hlink : (Cond.methodLink own index y).before args s = true) (hinst : (Cond.instanceMethod y).before args s = true) (hsel : (Cond.selects C y y).before args s = true)
    (hcode : (Cond.code y bytes maxL ret).before args s = true) (hy : y.cls ≠ "java/lang/invoke/MethodHandle" ∧ y.cls ≠ "java/lang/invoke/VarHandle")
    {W9 : Nat} {Pre : Pt → Array Value → Prop} {Post : Pt → Array Value → Option Value → Pt → Prop} {PostX : Pt → Array Value → Addr → Pt → Prop} (hK : vx_Back l R p e below s args y 3 W9 Pre Post PostX)
    {b : Addr} {cellB : Cell} (hcell : T.heap[b]? = some cellB) (hobj : cellB.vm.isStatics = false) (hcls : s.vm.findClass C = some cellB.cls)
    {g : JFrame} (hg : g.method = m) (hsize : g.locals.size = c.maxLocals) {argsL rest : List Value} (hlen : ∀ sig, parseMethodDescriptor y.desc = some sig → argsL.length = sig.parameters.length)
    (hstack : g.stack = argsL.reverse ++ .ref b :: rest) (hW : 2 * g.monitorRoom + (rest.map fun v => v.category).sum ≤ W9) (hdg : decode c.code g.pc = .ok (.invokevirtual index, 3))
    (hpre : ∀ vm₁, s.WarmedH vm₁ → Pre ⟨T.setVm vm₁, locs, cells, slots⟩ (Value.ref b :: argsL).toArray) :
    (∃ (v : Option Value) (vm₁ : Vm) (B : Pt), s.WarmedH vm₁ ∧ Stand p l e R s m args below meth c B.U B.locs B.cells B.slots ∧ Post ⟨T.setVm vm₁, locs, cells, slots⟩ (Value.ref b :: argsL).toArray v B ∧
      ∀ target, Steps p.tables e below (B.U.setTop { g with pc := g.pc + 3, stack := v.toList ++ rest }) target → Steps p.tables e below (T.setTop g) target) ∨
    (∃ (q : Addr) (vm₁ : Vm) (B : Pt), s.WarmedH vm₁ ∧ Stand p l e R s m args below meth c B.U B.locs B.cells B.slots ∧ PostX ⟨T.setVm vm₁, locs, cells, slots⟩ (Value.ref b :: argsL).toArray q B ∧
      Steps p.tables e below (T.setTop g) ((B.U.setTop { g with stack := rest }).pushFrame (.throwing q))) := by
  obtain ⟨mk, methM, hnamed, hmethM, hstM, habM⟩ := Cond.instanceMethod_spec hinst
  obtain ⟨methM', cM, hmethM', -, -, -, -, -, -, hsigM⟩ := Cond.code_spec hnamed hcode
  cases hmethM.symm.trans hmethM'
  obtain ⟨c2, r2, m2, q1, q2, q3, q4, kP, hkP, hkPi⟩ := Cond.selects_spec hsel
  cases hcls.symm.trans q1
  cases (State.methodFound?_of_named hnamed hy).symm.trans q2
  cases hnamed.symm.trans q3
  have hselP : selectMethod e.platform s.vm cellB.cls mk = .method mk := by rw [Launch.admits_selectMethod X.admits]; exact q4
  obtain ⟨vm₁, X₁, hstep₁⟩ := X.invokevirtual hexec hown hlink hnamed hmethM hstM hkP hkPi hy (a := b) (cell := cellB) hcell
    (fun z h => by rw [h] at hobj; cases hobj) hselP hmethM habM hkP hkPi (g := g) hg (argsL := argsL) (rest := rest) (hlen _ hsigM) hstack hdg
  rcases hK m meth c ⟨T.setVm vm₁, locs, cells, slots⟩ { g with stack := rest } (.invokevirtual index) mk (Value.ref b :: argsL).toArray X₁ hg hsize hdg hW (X₁.named hnamed) (hpre vm₁ X₁.warmed) with ⟨v, B, X', hpost, hsteps⟩ | ⟨q, B, X', hpost, hsteps⟩
  · exact Or.inl ⟨v, vm₁, B, X₁.warmed, X', hpost, fun target h => hstep₁ _ fun acts => by rw [doInvoke_state]; exact hsteps.trans h⟩
  · exact Or.inr ⟨q, vm₁, B, X₁.warmed, X', hpost, hstep₁ _ fun acts => by rw [doInvoke_state]; exact hsteps⟩
theorem vx_callS (X : Stand p l e R s m args below meth c T locs cells slots) (hexec : p.tables.exec = Jvm.exec) {own : String} {index : Nat} {y : MethodName} {bytes : ByteArray} {maxL : Nat} {ret : Option FieldType}
    (hown : s.vm.findClass own = some m.cls) (hlink : (Cond.methodLink own index y).before args s = true) (hstat : (Cond.static y).before args s = true) (hinit : (Cond.initialized y.cls).before args s = true)
    (hcode : (Cond.code y bytes maxL ret).before args s = true) (hy : y.cls ≠ "java/lang/invoke/MethodHandle" ∧ y.cls ≠ "java/lang/invoke/VarHandle")
    {W9 : Nat} {Pre : Pt → Array Value → Prop} {Post : Pt → Array Value → Option Value → Pt → Prop} {PostX : Pt → Array Value → Addr → Pt → Prop} (hK : vx_Back l R p e below s args y 3 W9 Pre Post PostX)
    {g : JFrame} (hg : g.method = m) (hsize : g.locals.size = c.maxLocals) {argsL rest : List Value} (hlen : ∀ sig, parseMethodDescriptor y.desc = some sig → argsL.length = sig.parameters.length)
    (hstack : g.stack = argsL.reverse ++ rest) (hW : 2 * g.monitorRoom + (rest.map fun v => v.category).sum ≤ W9) (hdg : decode c.code g.pc = .ok (.invokestatic index, 3))
    (hpre : ∀ vm₁, s.WarmedH vm₁ → Pre ⟨T.setVm vm₁, locs, cells, slots⟩ argsL.toArray) :
    (∃ (v : Option Value) (vm₁ : Vm) (B : Pt), s.WarmedH vm₁ ∧ Stand p l e R s m args below meth c B.U B.locs B.cells B.slots ∧ Post ⟨T.setVm vm₁, locs, cells, slots⟩ argsL.toArray v B ∧
      ∀ target, Steps p.tables e below (B.U.setTop { g with pc := g.pc + 3, stack := v.toList ++ rest }) target → Steps p.tables e below (T.setTop g) target) ∨
    (∃ (q : Addr) (vm₁ : Vm) (B : Pt), s.WarmedH vm₁ ∧ Stand p l e R s m args below meth c B.U B.locs B.cells B.slots ∧ PostX ⟨T.setVm vm₁, locs, cells, slots⟩ argsL.toArray q B ∧
      Steps p.tables e below (T.setTop g) ((B.U.setTop { g with stack := rest }).pushFrame (.throwing q))) := by
  obtain ⟨mk, hnamed⟩ := Cond.code_named hcode
  obtain ⟨methM, cM, hmethM, -, -, -, -, -, -, hsigM⟩ := Cond.code_spec hnamed hcode
  have hstatic : methM.isStatic = true := Cond.static_spec hnamed hmethM hstat
  obtain ⟨kP, hkP, -⟩ := className_of_methodNamed hnamed
  have hinitP : kP.init = .initialized := Cond.initialized_spec (findClass_of_methodNamed hnamed) hkP hinit
  obtain ⟨vm₁, X₁, hstep₁⟩ := X.invokestatic hexec hown hlink hnamed hmethM hstatic hkP hinitP hy (g := g) hg (argsL := argsL) (rest := rest) (hlen _ hsigM) hstack hdg
  rcases hK m meth c ⟨T.setVm vm₁, locs, cells, slots⟩ { g with stack := rest } (.invokestatic index) mk argsL.toArray X₁ hg hsize hdg hW (X₁.named hnamed) (hpre vm₁ X₁.warmed) with ⟨v, B, X', hpost, hsteps⟩ | ⟨q, B, X', hpost, hsteps⟩
  · exact Or.inl ⟨v, vm₁, B, X₁.warmed, X', hpost, fun target h => hstep₁ _ fun acts => by rw [doInvoke_state]; exact hsteps.trans h⟩
  · exact Or.inr ⟨q, vm₁, B, X₁.warmed, X', hpost, hstep₁ _ fun acts => by rw [doInvoke_state]; exact hsteps⟩
end Calls
theorem vx_cls {s : State} {T : State} {vm₁ : Vm} {E : String} {k : ClassId} (hW : s.WarmedH vm₁) (h : (T.setVm vm₁).vm.findClass E = some k) : s.vm.findClass E = some k := by
  have h1 : vm₁.findClass E = some k := h
  rw [hW.alike.findClass] at h1
  exact h1
/-- the method's frame g, with q thrown over it -/
def vx_W (p : Program) (l : Launch) (e : Env) (R : Room) (s : State) (m : MethodId) (args : Array Value) (below : List Frame) (meth : Method) (c : Code) (H : Heap) (locs : List Loc) (cells slots : Nat) (Q : State → Prop) (g : JFrame) (q : Addr) : Prop :=
  ∀ T : State, T.heap = H → Stand p l e R s m args below meth c T locs cells slots → ∃ t, Steps p.tables e below ((T.setTop g).pushFrame (.throwing q)) t ∧ Q t
def vx_Run (p : Program) (l : Launch) (e : Env) (R : Room) (s : State) (m : MethodId) (args : Array Value) (below : List Frame) (meth : Method) (c : Code) (H : Heap) (locs : List Loc) (cells slots mc ms : Nat) (g : JFrame) (rest : List Value) (Qa : State → Outcome → State → Prop) (XC : String → State → State → Prop) (free : Addr → Prop) : Prop :=
  ∀ T : State, T.heap = H → Stand p l e R s m args below meth c T locs cells slots →
    (∃ (v : Option Value) (st₀ t T' : State) (L : List Loc), st₀.heap = H ∧ Stand p l e R s m args below meth c T' (locs ++ L) (cells + mc) (slots + ms) ∧ (∀ q ∈ L, free q.base) ∧ T'.heap = t.heap ∧ T'.vm = t.vm ∧ Qa st₀ (.returned v) t ∧
      Goes p e below T g T' { g with pc := g.pc + 3, stack := v.toList ++ rest }) ∨
    (∃ (q : Addr) (st₀ t T' : State) (L : List Loc) (E : String) (ce : Cell), st₀.heap = H ∧ Stand p l e R s m args below meth c T' (locs ++ L) (cells + mc) (slots + ms) ∧ (∀ z ∈ L, free z.base) ∧ T'.heap = t.heap ∧ T'.vm = t.vm ∧ XC E st₀ t ∧ t.heap[q]? = some ce ∧ ce.vm = .none ∧ s.vm.findClass E = some ce.cls ∧
      Steps p.tables e below (T.setTop g) ((T'.setTop { g with stack := rest }).pushFrame (.throwing q)))
def vx_X {S : Type} (px : S → Prop) (B : String → S → State → Prop) (A : Nat → Prop) : String → State → State → Prop := fun E st t => ∃ u : S, px u ∧ B E u t ∧ va_F A st t
section Runs
variable {p : Program} {l : Launch} {e : Env} {R : Room} {s : State} {m : MethodId} {args : Array Value} {below : List Frame} {meth : Method} {c : Code} {H : Heap} {locs : List Loc} {cells slots : Nat}
variable {y : MethodName} {bytes cc : ByteArray} {maxL nL mc ms n index : Nat} {ret : Option FieldType} {ws : List Cond} {rm : Room} {Pc : Array Value → State → Prop} {Qc : Array Value → State → Outcome → State → Prop} {XC : String → State → State → Prop} {free : Addr → Prop} {Ts : List Cond} {own C : String} {b : Addr} {As rest : List Value} {g : JFrame}
theorem vx_callBack (cb : CallB R s args own index y bytes maxL ret ws rm mc ms n) (hM : vx_Met l y ws rm Pc Qc XC mc ms free) (hbl : FrameBlind Pc) : vx_Back l R p e below s args y 3 8 (PreOf R mc ms Pc) (PostOf Qc mc ms free) (vx_Post XC mc ms free) := by
  obtain ⟨hrc, hrs, hfr, hlo, hws, hcw, -, hini, -⟩ := cb
  exact vx_back (bytes := bytes) (maxL := maxL) (ret := ret) hM hbl hrc hrs hfr hlo hws hcw (fun a' U hW => word_at hW (Or.inl (by first | rfl | simp [Cond.onTables, Cond.keeps, Cond.steady])) hini)
theorem vx_runV (S : CallFix p m c cc nL s args Ts own) (hM : vx_Met l y ws rm Pc Qc XC mc ms free) (cw : CallW R s args own C index y bytes maxL ret ws rm mc ms n) (hp : PreV s H C b Pc As)
    (hg : g.method = m) (hn : As.length = n) (hsize : g.locals.size = nL) (hstack : g.stack = As.reverse ++ .ref b :: rest) (hW : 2 * g.monitorRoom + (rest.map fun v => v.category).sum ≤ 8) (hdg : decode cc g.pc = .ok (.invokevirtual index, 3)) (hf : cells + mc ≤ R.cells ∧ slots + ms ≤ R.slots) :
    vx_Run p l e R s m args below meth c H locs cells slots mc ms g rest (Qc (Value.ref b :: As).toArray) XC free := by
  have hK : vx_Back l R p e below s args y 3 8 (PreOf R mc ms Pc) (PostOf Qc mc ms free) (vx_Post XC mc ms free) := vx_callBack cw.1 hM hp.1
  obtain ⟨⟨-, -, -, -, -, -, hcode, -, hy, hlen, hl⟩, hin, hse⟩ := cw
  obtain ⟨hx, hb, hml, ho, -⟩ := S
  obtain ⟨-, ⟨cellB, hcB, hoB, hclB⟩, hPc⟩ := hp
  intro T hT X
  rcases vx_callV X hx (C := C) (bytes := bytes) (maxL := maxL) (ret := ret) ho hl hin hse hcode hy hK (by rw [hT]; exact hcB) hoB hclB hg (hsize.trans hml.symm) (argsL := As) (rest := rest) (fun sig h => hn.trans (hlen sig h)) hstack hW (by rw [hb]; exact hdg)
    (fun vm₁ hW₁ => ⟨hf.1, hf.2, hPc (T.setVm vm₁) hT hW₁⟩) with ⟨v, vm₁, ⟨U', l2, c2, s2⟩, hW₁, X', ⟨g', mk, t, L, e1, e2, hq, h1, hL, h2, h3⟩, st⟩ | ⟨q, vm₁, ⟨U', l2, c2, s2⟩, hW₁, X', ⟨g', mk, t, L, E, ce, e1, e2, hq, hce, hcv, hcl, h1, hL, h2, h3⟩, st⟩
  · dsimp only [Pt.U, Pt.locs, Pt.cells, Pt.slots] at X' e1 e2 h1 h2 h3 st
    subst h1; subst h2; subst h3
    exact Or.inl ⟨v, (T.setVm vm₁).calling g' mk (Value.ref b :: As).toArray, t, U', L, hT, X', hL, e1, e2, hq, st⟩
  · dsimp only [Pt.U, Pt.locs, Pt.cells, Pt.slots] at X' e1 e2 h1 h2 h3 st hcl
    subst h1; subst h2; subst h3
    exact Or.inr ⟨q, (T.setVm vm₁).calling g' mk (Value.ref b :: As).toArray, t, U', L, E, ce, hT, X', hL, e1, e2, hq, hce, hcv, vx_cls hW₁ hcl, st⟩
theorem vx_runS (S : CallFix p m c cc nL s args Ts own) (hM : vx_Met l y ws rm Pc Qc XC mc ms free) (cw : CallB R s args own index y bytes maxL ret ws rm mc ms n ∧ (Cond.static y).before args s = true) (hp : PreS s H Pc As)
    (hg : g.method = m) (hn : As.length = n) (hsize : g.locals.size = nL) (hstack : g.stack = As.reverse ++ rest) (hW : 2 * g.monitorRoom + (rest.map fun v => v.category).sum ≤ 8) (hdg : decode cc g.pc = .ok (.invokestatic index, 3)) (hf : cells + mc ≤ R.cells ∧ slots + ms ≤ R.slots) :
    vx_Run p l e R s m args below meth c H locs cells slots mc ms g rest (Qc As.toArray) XC free := by
  have hK : vx_Back l R p e below s args y 3 8 (PreOf R mc ms Pc) (PostOf Qc mc ms free) (vx_Post XC mc ms free) := vx_callBack cw.1 hM hp.1
  obtain ⟨⟨-, -, -, -, -, -, hcode, hini, hy, hlen, hl⟩, hstt⟩ := cw
  obtain ⟨hx, hb, hml, ho, -⟩ := S
  intro T hT X
  rcases vx_callS X hx (bytes := bytes) (maxL := maxL) (ret := ret) ho hl hstt hini hcode hy hK hg (hsize.trans hml.symm) (argsL := As) (rest := rest) (fun sig h => hn.trans (hlen sig h)) hstack hW (by rw [hb]; exact hdg)
    (fun vm₁ hW₁ => ⟨hf.1, hf.2, hp.2 (T.setVm vm₁) hT hW₁⟩) with ⟨v, vm₁, ⟨U', l2, c2, s2⟩, hW₁, X', ⟨g', mk, t, L, e1, e2, hq, h1, hL, h2, h3⟩, st⟩ | ⟨q, vm₁, ⟨U', l2, c2, s2⟩, hW₁, X', ⟨g', mk, t, L, E, ce, e1, e2, hq, hce, hcv, hcl, h1, hL, h2, h3⟩, st⟩
  · dsimp only [Pt.U, Pt.locs, Pt.cells, Pt.slots] at X' e1 e2 h1 h2 h3 st
    subst h1; subst h2; subst h3
    exact Or.inl ⟨v, (T.setVm vm₁).calling g' mk As.toArray, t, U', L, hT, X', hL, e1, e2, hq, st⟩
  · dsimp only [Pt.U, Pt.locs, Pt.cells, Pt.slots] at X' e1 e2 h1 h2 h3 st hcl
    subst h1; subst h2; subst h3
    exact Or.inr ⟨q, (T.setVm vm₁).calling g' mk As.toArray, t, U', L, E, ce, hT, X', hL, e1, e2, hq, hce, hcv, vx_cls hW₁ hcl, st⟩
end Runs
section Rows
variable {p : Program} {l : Launch} {e : Env} {R : Room} {s : State} {m : MethodId} {args : Array Value} {below : List Frame} {meth : Method} {c : Code} {H : Heap} {locs : List Loc} {cells slots : Nat} {Q : State → Prop}
variable {mc ms : Nat} {free : Addr → Prop} {A0 A1 : Nat → Prop} {H0 : Heap} {a : Array Value} {pc : Nat} {ls : Array Slot} {st0 rest : List Value}
theorem vx_keep {st₀ t T' : State} {L : List Loc} (h0 : st₀.heap = H) (e1 : T'.heap = t.heap) (hS : va_S A0 H0 H locs) (hA : ∀ q, q < H.size → A1 q → A0 q) (hf : ∀ q, free q → A0 q) (hL : ∀ q ∈ L, free q.base) (hF : va_F A1 st₀ t) :
    H.size ≤ T'.heap.size ∧ (∀ q : Nat, q < H.size → ¬ A1 q → T'.heap[q]? = H[q]?) ∧ va_S A0 H0 T'.heap (locs ++ L) := by
  obtain ⟨hz, hk⟩ := hF
  rw [h0] at hz hk
  exact ⟨by rw [e1]; exact hz, fun q h1 h2 => by rw [e1]; exact hk q h1 h2,
    ⟨Nat.le_trans hS.1 (by rw [e1]; exact hz), fun q h1 h2 => by rw [e1, hk q (Nat.lt_of_lt_of_le h1 hS.1) (fun z => h2 (hA q (Nat.lt_of_lt_of_le h1 hS.1) z))]; exact hS.2.1 q h1 h2, fun q hq => by
      rcases List.mem_append.mp hq with h | h
      · exact hS.2.2 q h
      · exact hf _ (hL q h)⟩⟩
theorem vx_calli {S SX : Type} {post : Int32 → S → Prop} {px : SX → Prop} {B : S → State → Prop} {BX : String → SX → State → Prop} {AX : Nat → Prop} (hr : vx_Run p l e R s m args below meth c H locs cells slots mc ms (F0 m pc ls st0) rest (va_Qi post B A1 a) (vx_X px BX AX) free) (hS : va_S A0 H0 H locs) (hA : ∀ q, q < H.size → A1 q → A0 q) (hf : ∀ q, free q → A0 q) (hAX : ∀ q, q < H.size → AX q → A0 q)
    (kx : ∀ (E : String) (ce : Cell) (q9 : Addr) (u : SX) (t : State) (H1 : Heap) (locs1 : List Loc), t.heap = H1 → s.vm.Alike t.vm → px u → BX E u t → H.size ≤ H1.size → (∀ q : Nat, q < H.size → ¬ AX q → H1[q]? = H[q]?) → va_S A0 H0 H1 locs1 → H1[q9]? = some ce → ce.vm = .none → s.vm.findClass E = some ce.cls → vx_W p l e R s m args below meth c H1 locs1 (cells + mc) (slots + ms) Q (F0 m pc ls rest) q9)
    (kk : ∀ (r : Int32) (u : S) (t : State) (H1 : Heap) (locs1 : List Loc), t.heap = H1 → s.vm.Alike t.vm → post r u → B u t → H.size ≤ H1.size → (∀ q : Nat, q < H.size → ¬ A1 q → H1[q]? = H[q]?) → va_S A0 H0 H1 locs1 → W p l e R s m args below meth c H1 locs1 (cells + mc) (slots + ms) Q (F0 m (pc + 3) ls (.int r :: rest))) : W p l e R s m args below meth c H locs cells slots Q (F0 m pc ls st0) := by
  intro T hT X
  rcases hr T hT X with ⟨v, st₀, t, T', L, h0, X', hL, e1, e2, ⟨⟨r, u, hv, hp, hb⟩, hF⟩, st⟩ | ⟨q, st₀, t, T', L, E, ce, h0, X', hL, e1, e2, ⟨u, hp, hb, hF⟩, hce, hcv, hcl, st⟩
  · cases hv
    obtain ⟨k1, k2, k3⟩ := vx_keep h0 e1 hS hA hf hL hF
    obtain ⟨t2, a1, b1⟩ := kk r u t T'.heap (locs ++ L) e1.symm (by rw [← e2]; exact X'.warmed.alike) hp hb k1 k2 k3 T' rfl X'
    exact ⟨t2, st t2 a1, b1⟩
  · obtain ⟨k1, k2, k3⟩ := vx_keep h0 e1 hS hAX hf hL hF
    obtain ⟨t2, a1, b1⟩ := kx E ce q u t T'.heap (locs ++ L) e1.symm (by rw [← e2]; exact X'.warmed.alike) hp hb k1 k2 k3 (by rw [e1]; exact hce) hcv hcl T' rfl X'
    exact ⟨t2, st.trans a1, b1⟩
theorem vx_calll {S SX : Type} {post : Int64 → S → Prop} {px : SX → Prop} {B : S → State → Prop} {BX : String → SX → State → Prop} {AX : Nat → Prop} (hr : vx_Run p l e R s m args below meth c H locs cells slots mc ms (F0 m pc ls st0) rest (va_Ql post B A1 a) (vx_X px BX AX) free) (hS : va_S A0 H0 H locs) (hA : ∀ q, q < H.size → A1 q → A0 q) (hf : ∀ q, free q → A0 q) (hAX : ∀ q, q < H.size → AX q → A0 q)
    (kx : ∀ (E : String) (ce : Cell) (q9 : Addr) (u : SX) (t : State) (H1 : Heap) (locs1 : List Loc), t.heap = H1 → s.vm.Alike t.vm → px u → BX E u t → H.size ≤ H1.size → (∀ q : Nat, q < H.size → ¬ AX q → H1[q]? = H[q]?) → va_S A0 H0 H1 locs1 → H1[q9]? = some ce → ce.vm = .none → s.vm.findClass E = some ce.cls → vx_W p l e R s m args below meth c H1 locs1 (cells + mc) (slots + ms) Q (F0 m pc ls rest) q9)
    (kk : ∀ (r : Int64) (u : S) (t : State) (H1 : Heap) (locs1 : List Loc), t.heap = H1 → s.vm.Alike t.vm → post r u → B u t → H.size ≤ H1.size → (∀ q : Nat, q < H.size → ¬ A1 q → H1[q]? = H[q]?) → va_S A0 H0 H1 locs1 → W p l e R s m args below meth c H1 locs1 (cells + mc) (slots + ms) Q (F0 m (pc + 3) ls (.long r :: rest))) : W p l e R s m args below meth c H locs cells slots Q (F0 m pc ls st0) := by
  intro T hT X
  rcases hr T hT X with ⟨v, st₀, t, T', L, h0, X', hL, e1, e2, ⟨⟨r, u, hv, hp, hb⟩, hF⟩, st⟩ | ⟨q, st₀, t, T', L, E, ce, h0, X', hL, e1, e2, ⟨u, hp, hb, hF⟩, hce, hcv, hcl, st⟩
  · cases hv
    obtain ⟨k1, k2, k3⟩ := vx_keep h0 e1 hS hA hf hL hF
    obtain ⟨t2, a1, b1⟩ := kk r u t T'.heap (locs ++ L) e1.symm (by rw [← e2]; exact X'.warmed.alike) hp hb k1 k2 k3 T' rfl X'
    exact ⟨t2, st t2 a1, b1⟩
  · obtain ⟨k1, k2, k3⟩ := vx_keep h0 e1 hS hAX hf hL hF
    obtain ⟨t2, a1, b1⟩ := kx E ce q u t T'.heap (locs ++ L) e1.symm (by rw [← e2]; exact X'.warmed.alike) hp hb k1 k2 k3 (by rw [e1]; exact hce) hcv hcl T' rfl X'
    exact ⟨t2, st.trans a1, b1⟩
theorem vx_callf {S SX : Type} {post : UInt32 → S → Prop} {px : SX → Prop} {B : S → State → Prop} {BX : String → SX → State → Prop} {AX : Nat → Prop} (hr : vx_Run p l e R s m args below meth c H locs cells slots mc ms (F0 m pc ls st0) rest (va_Qf post B A1 a) (vx_X px BX AX) free) (hS : va_S A0 H0 H locs) (hA : ∀ q, q < H.size → A1 q → A0 q) (hf : ∀ q, free q → A0 q) (hAX : ∀ q, q < H.size → AX q → A0 q)
    (kx : ∀ (E : String) (ce : Cell) (q9 : Addr) (u : SX) (t : State) (H1 : Heap) (locs1 : List Loc), t.heap = H1 → s.vm.Alike t.vm → px u → BX E u t → H.size ≤ H1.size → (∀ q : Nat, q < H.size → ¬ AX q → H1[q]? = H[q]?) → va_S A0 H0 H1 locs1 → H1[q9]? = some ce → ce.vm = .none → s.vm.findClass E = some ce.cls → vx_W p l e R s m args below meth c H1 locs1 (cells + mc) (slots + ms) Q (F0 m pc ls rest) q9)
    (kk : ∀ (r : UInt32) (u : S) (t : State) (H1 : Heap) (locs1 : List Loc), t.heap = H1 → s.vm.Alike t.vm → post r u → B u t → H.size ≤ H1.size → (∀ q : Nat, q < H.size → ¬ A1 q → H1[q]? = H[q]?) → va_S A0 H0 H1 locs1 → W p l e R s m args below meth c H1 locs1 (cells + mc) (slots + ms) Q (F0 m (pc + 3) ls (.float r :: rest))) : W p l e R s m args below meth c H locs cells slots Q (F0 m pc ls st0) := by
  intro T hT X
  rcases hr T hT X with ⟨v, st₀, t, T', L, h0, X', hL, e1, e2, ⟨⟨r, u, hv, hp, hb⟩, hF⟩, st⟩ | ⟨q, st₀, t, T', L, E, ce, h0, X', hL, e1, e2, ⟨u, hp, hb, hF⟩, hce, hcv, hcl, st⟩
  · cases hv
    obtain ⟨k1, k2, k3⟩ := vx_keep h0 e1 hS hA hf hL hF
    obtain ⟨t2, a1, b1⟩ := kk r u t T'.heap (locs ++ L) e1.symm (by rw [← e2]; exact X'.warmed.alike) hp hb k1 k2 k3 T' rfl X'
    exact ⟨t2, st t2 a1, b1⟩
  · obtain ⟨k1, k2, k3⟩ := vx_keep h0 e1 hS hAX hf hL hF
    obtain ⟨t2, a1, b1⟩ := kx E ce q u t T'.heap (locs ++ L) e1.symm (by rw [← e2]; exact X'.warmed.alike) hp hb k1 k2 k3 (by rw [e1]; exact hce) hcv hcl T' rfl X'
    exact ⟨t2, st.trans a1, b1⟩
theorem vx_calld {S SX : Type} {post : UInt64 → S → Prop} {px : SX → Prop} {B : S → State → Prop} {BX : String → SX → State → Prop} {AX : Nat → Prop} (hr : vx_Run p l e R s m args below meth c H locs cells slots mc ms (F0 m pc ls st0) rest (va_Qd post B A1 a) (vx_X px BX AX) free) (hS : va_S A0 H0 H locs) (hA : ∀ q, q < H.size → A1 q → A0 q) (hf : ∀ q, free q → A0 q) (hAX : ∀ q, q < H.size → AX q → A0 q)
    (kx : ∀ (E : String) (ce : Cell) (q9 : Addr) (u : SX) (t : State) (H1 : Heap) (locs1 : List Loc), t.heap = H1 → s.vm.Alike t.vm → px u → BX E u t → H.size ≤ H1.size → (∀ q : Nat, q < H.size → ¬ AX q → H1[q]? = H[q]?) → va_S A0 H0 H1 locs1 → H1[q9]? = some ce → ce.vm = .none → s.vm.findClass E = some ce.cls → vx_W p l e R s m args below meth c H1 locs1 (cells + mc) (slots + ms) Q (F0 m pc ls rest) q9)
    (kk : ∀ (r : UInt64) (u : S) (t : State) (H1 : Heap) (locs1 : List Loc), t.heap = H1 → s.vm.Alike t.vm → post r u → B u t → H.size ≤ H1.size → (∀ q : Nat, q < H.size → ¬ A1 q → H1[q]? = H[q]?) → va_S A0 H0 H1 locs1 → W p l e R s m args below meth c H1 locs1 (cells + mc) (slots + ms) Q (F0 m (pc + 3) ls (.double r :: rest))) : W p l e R s m args below meth c H locs cells slots Q (F0 m pc ls st0) := by
  intro T hT X
  rcases hr T hT X with ⟨v, st₀, t, T', L, h0, X', hL, e1, e2, ⟨⟨r, u, hv, hp, hb⟩, hF⟩, st⟩ | ⟨q, st₀, t, T', L, E, ce, h0, X', hL, e1, e2, ⟨u, hp, hb, hF⟩, hce, hcv, hcl, st⟩
  · cases hv
    obtain ⟨k1, k2, k3⟩ := vx_keep h0 e1 hS hA hf hL hF
    obtain ⟨t2, a1, b1⟩ := kk r u t T'.heap (locs ++ L) e1.symm (by rw [← e2]; exact X'.warmed.alike) hp hb k1 k2 k3 T' rfl X'
    exact ⟨t2, st t2 a1, b1⟩
  · obtain ⟨k1, k2, k3⟩ := vx_keep h0 e1 hS hAX hf hL hF
    obtain ⟨t2, a1, b1⟩ := kx E ce q u t T'.heap (locs ++ L) e1.symm (by rw [← e2]; exact X'.warmed.alike) hp hb k1 k2 k3 (by rw [e1]; exact hce) hcv hcl T' rfl X'
    exact ⟨t2, st.trans a1, b1⟩
theorem vx_callv {S SX : Type} {post : S → Prop} {px : SX → Prop} {B : S → State → Prop} {BX : String → SX → State → Prop} {AX : Nat → Prop} (hr : vx_Run p l e R s m args below meth c H locs cells slots mc ms (F0 m pc ls st0) rest (va_Qv post B A1 a) (vx_X px BX AX) free) (hS : va_S A0 H0 H locs) (hA : ∀ q, q < H.size → A1 q → A0 q) (hf : ∀ q, free q → A0 q) (hAX : ∀ q, q < H.size → AX q → A0 q)
    (kx : ∀ (E : String) (ce : Cell) (q9 : Addr) (u : SX) (t : State) (H1 : Heap) (locs1 : List Loc), t.heap = H1 → s.vm.Alike t.vm → px u → BX E u t → H.size ≤ H1.size → (∀ q : Nat, q < H.size → ¬ AX q → H1[q]? = H[q]?) → va_S A0 H0 H1 locs1 → H1[q9]? = some ce → ce.vm = .none → s.vm.findClass E = some ce.cls → vx_W p l e R s m args below meth c H1 locs1 (cells + mc) (slots + ms) Q (F0 m pc ls rest) q9)
    (kk : ∀ (u : S) (t : State) (H1 : Heap) (locs1 : List Loc), t.heap = H1 → s.vm.Alike t.vm → post u → B u t → H.size ≤ H1.size → (∀ q : Nat, q < H.size → ¬ A1 q → H1[q]? = H[q]?) → va_S A0 H0 H1 locs1 → W p l e R s m args below meth c H1 locs1 (cells + mc) (slots + ms) Q (F0 m (pc + 3) ls (rest))) : W p l e R s m args below meth c H locs cells slots Q (F0 m pc ls st0) := by
  intro T hT X
  rcases hr T hT X with ⟨v, st₀, t, T', L, h0, X', hL, e1, e2, ⟨⟨u, hv, hp, hb⟩, hF⟩, st⟩ | ⟨q, st₀, t, T', L, E, ce, h0, X', hL, e1, e2, ⟨u, hp, hb, hF⟩, hce, hcv, hcl, st⟩
  · cases hv
    obtain ⟨k1, k2, k3⟩ := vx_keep h0 e1 hS hA hf hL hF
    obtain ⟨t2, a1, b1⟩ := kk u t T'.heap (locs ++ L) e1.symm (by rw [← e2]; exact X'.warmed.alike) hp hb k1 k2 k3 T' rfl X'
    exact ⟨t2, st t2 a1, b1⟩
  · obtain ⟨k1, k2, k3⟩ := vx_keep h0 e1 hS hAX hf hL hF
    obtain ⟨t2, a1, b1⟩ := kx E ce q u t T'.heap (locs ++ L) e1.symm (by rw [← e2]; exact X'.warmed.alike) hp hb k1 k2 k3 (by rw [e1]; exact hce) hcv hcl T' rfl X'
    exact ⟨t2, st.trans a1, b1⟩
/-- caught by the row x of this method's table; the rows ahead don't take it -/
theorem vx_catch {own name : String} {E : String} {ce : Cell} {q : Addr} (hown : s.vm.findClass own = some m.cls) (pre : List ExceptionTableEntry) (x : ExceptionTableEntry) (suf : List ExceptionTableEntry) (hsplit : c.exceptionTable.toList = pre ++ x :: suf)
    (hpass : ∀ z ∈ pre, covers z pc = false ∨ (z.catchType ≠ 0 ∧ ∃ nm : String, (Cond.classLink own z.catchType nm).before args s = true ∧ va_Nc E nm s)) (hx : covers x pc = true) (h0 : x.catchType ≠ 0)
    (hlink : (Cond.classLink own x.catchType name).before args s = true) (hcast : (Cond.castable E name).before args s = true) (hcell : H[q]? = some ce) (hv : ce.vm = .none) (hcl : s.vm.findClass E = some ce.cls)
    (kk : W p l e R s m args below meth c H locs cells slots Q (F0 m x.handlerPc ls [.ref q])) : vx_W p l e R s m args below meth c H locs cells slots Q (F0 m pc ls rest) q := by
  intro T hT X
  have hpl : e.platform.magicAccessors = ({} : Platform).magicAccessors := by rw [X.admits.platform]
  obtain ⟨c3, c4, hc3, hc4, hasg⟩ := Cond.castable_spec hcast
  cases Option.some.inj (hc3.symm.trans hcl)
  obtain ⟨c5, hc5, hcl5⟩ := Cond.classLink_spec hown hlink e.platform hpl
  cases Option.some.inj (hc4.symm.trans hc5)
  obtain ⟨vm', X', st⟩ := X.thenCaughtThrough q (g := F0 m pc ls rest) rfl (Steps.refl _) (by rw [hT]; exact hcell) (by rw [hv]; rfl) (by obtain ⟨k9, h9, -⟩ := Vm.findClass_spec hcl; exact ⟨k9, h9⟩) pre x suf hsplit
    (fun z hz => by
      rcases hpass z hz with h | ⟨hz0, nm, hl1, hn1⟩
      · exact Or.inl h
      · obtain ⟨c6, hc6, hcl6⟩ := Cond.classLink_spec hown hl1 e.platform hpl
        obtain ⟨a8, b8, h1, h2, h3⟩ := hn1
        cases Option.some.inj (h1.symm.trans hcl)
        cases Option.some.inj (h2.symm.trans hc6)
        exact Or.inr ⟨hz0, _, hcl6, h3⟩) hx (Or.inr ⟨h0, c4, hcl5, hasg⟩)
  obtain ⟨t, a1, b1⟩ := kk (T.setVm vm') hT X'
  exact ⟨t, st.trans a1, b1⟩
end Rows
section Ends
variable {p : Program} {l : Launch} {e : Env} {R : Room} {s : State} {m : MethodId} {args : Array Value} {below : List Frame} {meth : Method} {c : Code} {H : Heap} {locs : List Loc} {cells slots : Nat} {Q : State → Prop}
variable {mc ms : Nat} {free : Addr → Prop} {A0 A1 : Nat → Prop} {H0 : Heap} {a : Array Value} {ls : Array Slot} {st0 rest : List Value}
variable {Qc : Array Value → State → Outcome → State → Prop} {XC : String → State → State → Prop}
/-- what a body that may throw owes at its end -/
def vx_MQ (below : List Frame) (Qc : Array Value → State → Outcome → State → Prop) (XC : String → State → State → Prop) (a : Array Value) (s : State) (mc ms : Nat) (free : Addr → Prop) : State → Prop := fun t =>
  ∃ o, t.status = .running ∧ Ended t below o ∧ vx_Q Qc XC mc ms free a s o t
theorem vx_ret {g : JFrame} {mc ms : Nat} (k : W p l e R s m args below meth c H locs cells slots (MQ below Qc args s mc ms free) g) : W p l e R s m args below meth c H locs cells slots (vx_MQ below Qc XC args s mc ms free) g := by
  intro T hT X
  obtain ⟨t, a1, o, b1, b2, b3, b4⟩ := k T hT X
  exact ⟨t, a1, o, b1, b2, Or.inl ⟨b3, b4⟩⟩
/-- not caught here: it goes on to the caller -/
theorem vx_widen {g : JFrame} {q : Addr} {k n : Nat} (h1 : cells ≤ k) (h2 : slots ≤ n) (kk : vx_W p l e R s m args below meth c H locs k n Q g q) : vx_W p l e R s m args below meth c H locs cells slots Q g q := fun T hT X => kk T hT (stand_widen X h1 h2)
theorem vx_out {pc : Nat} {E : String} {ce : Cell} {q : Addr} {mc ms : Nat} (hout : ∀ x ∈ c.exceptionTable.toList, covers x pc = false) (hlocks : meth.locks = false) (hcell : H[q]? = some ce) (hv : ce.vm = .none) (hcl : s.vm.findClass E = some ce.cls)
    (hx : ∀ t : State, t.heap = H → s.vm.Alike t.vm → XC E s t) (hf : ∀ z ∈ locs, free z.base) (hc : cells ≤ mc) (hs : slots ≤ ms) :
    vx_W p l e R s m args below meth c H locs cells slots (vx_MQ below Qc XC args s mc ms free) (F0 m pc ls rest) q := by
  intro T hT X
  obtain ⟨st1, hrun, hend, hW, hsm⟩ := X.leaveThrown q (g := F0 m pc ls rest) rfl rfl rfl hout hlocks
  have hcell9 : (T.setFrames (.throwing q :: below)).heap[q]? = some ce := by
    show T.heap[q]? = some ce
    rw [hT]; exact hcell
  exact ⟨_, st1, .threw q, hrun, hend, Or.inr ⟨q, rfl, E, ce, locs, hx _ hT hW.alike, hcell9, hv, hcl, hW, hsm.mono hc hs, hf⟩⟩
theorem vx_frame {U : State} {k n : Nat} (h : s.sameButNew ({ U with vm := s.vm } : State) locs k n) : s.heap.size ≤ U.heap.size ∧ ∀ q : Nat, q < s.heap.size → (∀ z ∈ locs, z.base ≠ q) → U.heap[q]? = s.heap[q]? := by
  obtain ⟨-, h2, -, -, -, h6⟩ := h
  refine ⟨h2, fun q hq hz => ?_⟩
  obtain ⟨c9, e1, e2, e3, e4⟩ := h6 q _ (Array.getElem?_eq_getElem hq)
  have hs : c9.slots = (s.heap[q]).slots := Array.ext_getElem? fun i => e4 i fun hm => hz _ hm rfl
  have h9 : c9 = s.heap[q] := by
    rw [hs] at e2
    exact e2
  have e5 : U.heap[q]? = some c9 := e1
  rw [e5, h9, Array.getElem?_eq_getElem hq]
/-- the words of a throw but the four that speak of the heap -/
def vx_no (w : Cond) : Bool := decide (w ≠ .isRef (.static Bundle.tN "UNASSIGNED_STACK" Bundle.steD)) && decide (w ≠ .isRef (.static Bundle.tN "SUPPRESSED_SENTINEL" Bundle.listD)) && decide (w ≠ .laysStatic Bundle.tN "UNASSIGNED_STACK" Bundle.steD) && decide (w ≠ .laysStatic Bundle.tN "SUPPRESSED_SENTINEL" Bundle.listD)
def vx_at0 (own : String) (ic : Nat) (X : String) (names : List String) : List Cond := (Bundle.ownAtoms0 own ic X names).filter vx_no
def vx_atS (own : String) (ic : Nat) (X : String) (names : List String) : List Cond := (Bundle.ownAtoms own ic X names).filter vx_no
/-- a word that the tables alone decide, or a good one -/
def vx_ot (w : Cond) : Bool := w.onTables || goodWord w
theorem vx_ot_at {args a' : Array Value} {s U : State} {w : Cond} (hW : s.WarmedH U.vm) (hvm : s.vm = U.vm) (hg : vx_ot w = true) (h : w.before args s = true) : w.before a' U = true := by
  simp only [vx_ot, Bool.or_eq_true] at hg
  rcases hg with hg | hg
  · exact va_tabs hg hvm h
  · exact word_at hW (good_of_word hg) h
/-- a list's words: the good ones out of the method's own list, the others by premises of their own -/
theorem vx_hat {args : Array Value} {s : State} {L B : List Cond} (h1 : ∀ w ∈ L.filter goodWord, w.before args s = true) (h2 : ∀ w ∈ L.filter (fun w => !goodWord w), w ∈ B) (h3 : ∀ w ∈ B, w.before args s = true) : ∀ w ∈ L, w.before args s = true := by
  intro w hw
  by_cases g : goodWord w = true
  · exact h1 w (List.mem_filter.mpr ⟨hw, g⟩)
  · refine h3 w (h2 w (List.mem_filter.mpr ⟨hw, ?_⟩))
    show (!goodWord w) = true
    cases hgw : goodWord w
    · rfl
    · exact absurd hgw g
theorem vx_c {args : Array Value} {s : State} {w : Cond} {B : List Cond} (h : w.before args s = true) (t : ∀ w ∈ B, w.before args s = true) : ∀ w' ∈ w :: B, w'.before args s = true := fun w' h' => (List.mem_cons.mp h').elim (fun e => by rw [e]; exact h) (t w')
theorem vx_n {args : Array Value} {s : State} : ∀ w ∈ ([] : List Cond), w.before args s = true := fun _ h => nomatch h
theorem vx_own {args : Array Value} {s : State} {L : List Cond} (h1 : ∀ w ∈ L.filter vx_no, w.before args s = true)
    (hU : (Cond.isRef (.static Bundle.tN "UNASSIGNED_STACK" Bundle.steD)).before args s = true) (hN : (Cond.isRef (.static Bundle.tN "SUPPRESSED_SENTINEL" Bundle.listD)).before args s = true)
    (lU : (Cond.laysStatic Bundle.tN "UNASSIGNED_STACK" Bundle.steD).before args s = true) (lN : (Cond.laysStatic Bundle.tN "SUPPRESSED_SENTINEL" Bundle.listD).before args s = true) : ∀ w ∈ L, w.before args s = true := by
  intro w hw
  by_cases e1 : w = .isRef (.static Bundle.tN "UNASSIGNED_STACK" Bundle.steD)
  · rw [e1]; exact hU
  · by_cases e2 : w = .isRef (.static Bundle.tN "SUPPRESSED_SENTINEL" Bundle.listD)
    · rw [e2]; exact hN
    · by_cases e3 : w = .laysStatic Bundle.tN "UNASSIGNED_STACK" Bundle.steD
      · rw [e3]; exact lU
      · by_cases e4 : w = .laysStatic Bundle.tN "SUPPRESSED_SENTINEL" Bundle.listD
        · rw [e4]; exact lN
        · exact h1 w (List.mem_filter.mpr ⟨hw, by unfold vx_no; rw [decide_eq_true e1, decide_eq_true e2, decide_eq_true e3, decide_eq_true e4]; rfl⟩)
/-- where a static field lies, its class's statics cell in H -/
def vx_L (C n d : String) (A : Nat → Prop) (U : State) (H : Heap) : Prop := ∃ (c : ClassId) (k : Class) (i : Nat) (f : Field) (a : Nat) (cell : Cell), U.vm.findClass C = some c ∧ U.fieldFound? C n d = some (c, k, i, f) ∧ f.isStatic = true ∧ k.statics = some a ∧ H[a]? = some cell ∧ cell.vm.isStatics = true ∧ cell.cls = c ∧ f.slot < cell.slots.size ∧ k.staticTypes[f.slot]? = some f.type ∧ ¬ A a
theorem vx_L.moved {C n d : String} {A : Nat → Prop} {u U : State} {H : Heap} (hvm : u.vm.Alike U.vm) (h : vx_L C n d A u H) : vx_L C n d A U H := by
  obtain ⟨c, k, i, f, a, cell, h1, h2, h3, h4, h5, h6, h7, h8, h9, h10⟩ := h
  obtain ⟨k', hi', he⟩ := State.fieldFound?_setVm hvm h2
  exact ⟨c, k', i, f, a, cell, by rw [hvm.findClass]; exact h1, hi', h3, by rw [he]; exact h4, h5, h6, h7, h8, by rw [he]; exact h9, h10⟩
theorem vx_L.kept {C n d : String} {A : Nat → Prop} {U : State} {H H1 : Heap} (h : vx_L C n d A U H) (hq : ∀ a : Nat, a < H.size → ¬ A a → H1[a]? = H[a]?) : vx_L C n d A U H1 := by
  obtain ⟨c, k, i, f, a, cell, h1, h2, h3, h4, h5, h6, h7, h8, h9, h10⟩ := h
  exact ⟨c, k, i, f, a, cell, h1, h2, h3, h4, by rw [hq a (Array.getElem?_eq_some_iff.mp h5).1 h10]; exact h5, h6, h7, h8, h9, h10⟩
theorem vx_L.narrow {C n d : String} {A B : Nat → Prop} {U : State} {H : Heap} (h : vx_L C n d A U H) (hAB : ∀ q, B q → A q) : vx_L C n d B U H := by
  obtain ⟨c, k, i, f, a, cell, h1, h2, h3, h4, h5, h6, h7, h8, h9, h10⟩ := h
  exact ⟨c, k, i, f, a, cell, h1, h2, h3, h4, h5, h6, h7, h8, h9, fun z => h10 (hAB _ z)⟩
theorem vx_L.word {C n d : String} {A : Nat → Prop} {s : State} {args : Array Value} (h : vx_L C n d A s s.heap) : (Cond.laysStatic C n d).before args s = true := by
  obtain ⟨c, k, i, f, a, cell, h1, h2, h3, h4, h5, h6, h7, h8, h9, -⟩ := h
  show (Cond.laysStatic C n d).holds args s none s [] = true
  exact Cond.laysStatic_of h1 h2 h3 h4 h5 h6 h7 h8 h9
/-- .. and what it holds: null or some reference -/
def vx_Zq (C n d : String) (A : Nat → Prop) (U : State) (H : Heap) : Prop := va_Zq C n d A U H ∧ vx_L C n d A U H
theorem vx_Zq.moved {C n d : String} {A : Nat → Prop} {u U : State} {H : Heap} (hvm : u.vm.Alike U.vm) (h : vx_Zq C n d A u H) : vx_Zq C n d A U H := ⟨va_Zq.moved hvm h.1, vx_L.moved hvm h.2⟩
theorem vx_Zq.kept {C n d : String} {A : Nat → Prop} {U : State} {H H1 : Heap} (h : vx_Zq C n d A U H) (hq : ∀ a : Nat, a < H.size → ¬ A a → H1[a]? = H[a]?) : vx_Zq C n d A U H1 := ⟨va_Zq.kept h.1 hq, vx_L.kept h.2 hq⟩
theorem vx_Zq.narrow {C n d : String} {A B : Nat → Prop} {U : State} {H : Heap} (h : vx_Zq C n d A U H) (hAB : ∀ q, B q → A q) : vx_Zq C n d B U H := ⟨va_Zq.narrow h.1 hAB, vx_L.narrow h.2 hAB⟩
theorem vx_Zqof {args : Array Value} {s : State} {C n d : String} {A : Nat → Prop} (hl : (Cond.laysStatic C n d).before args s = true) (hini : (Cond.initialized C).before args s = true) (h : (Cond.isRef (.static C n d)).before args s = true) (hA : ∀ a : Nat, a < s.heap.size → ¬ A a) : vx_Zq C n d A s s.heap := by
  refine ⟨va_Zqof hl hini h hA, ?_⟩
  obtain ⟨c, k, i, f, a, cell, h1, h2, h3, h4, h5, h6, h7, h8, h9⟩ := Cond.laysStatic_spec hl
  exact ⟨c, k, i, f, a, cell, h1, h2, h3, h4, h5, h6, h7, h8, h9, hA a (Array.getElem?_eq_some_iff.mp h5).1⟩
theorem vx_isRef {C n d : String} {v : Value} {A : Nat → Prop} {s : State} {args : Array Value} (h : va_Z C n d v A s s.heap) (hv : v.isRef = true) : (Cond.isRef (.static C n d)).before args s = true := by
  obtain ⟨cf, kf, fi, f, a, cell, h1, h2, h3, h4, h5, h6, h7, -⟩ := h
  have he : (Term.static C n d).eval args s none [] s = some v := by
    simp [Term.eval, State.fieldNamed?, h1, h2, h4, h5, h6, h7]
  simp only [Cond.before, Cond.holds, Cond.value, he]
  cases v <;> simp_all [Value.isRef]
theorem vx_isRefq {C n d : String} {A : Nat → Prop} {s : State} {args : Array Value} (h : va_Zq C n d A s s.heap) : (Cond.isRef (.static C n d)).before args s = true := by
  rcases h with h | ⟨t, h⟩
  · exact vx_isRef h rfl
  · exact vx_isRef h rfl
/-- the same frame, seen from here: as if the method were called anew in this heap -/
theorem vx_rebase {T : State} (X : Stand p l e R s m args below meth c T locs cells slots) {R' : Room} (hf : R'.frames ≤ R.frames) (hl : R'.locals ≤ R.locals) (hc : cells + R'.cells ≤ R.cells) (hs : slots + R'.slots ≤ R.slots) :
    Stand p l e R' ((T.setVm s.vm).setFrames (.invoking m args :: below)) m args below meth c T [] 0 0 := by
  have htop : (T.setVm s.vm).topJava?.isSome := X.here.top
  have hF : ((T.setVm s.vm).setFrames (.invoking m args :: below)).frames = .invoking m args :: below := State.frames_setFrames _ (State.cur_lt_of_top htop)
  obtain ⟨g₀, hg0⟩ := Option.isSome_iff_exists.mp htop
  obtain ⟨r, hr⟩ := State.topJava?_eq_some.mp hg0
  have hl9 : e.platform.stackLimits (T.setVm s.vm).me = e.platform.stackLimits s.me := X.limits
  have hb9 : (T.setVm s.vm).me.stackBytes = s.me.stackBytes := X.bytes
  refine ⟨X.admits, X.cas, X.clock, hF, ?_, X.hears, X.method, X.code, X.here, X.tail, X.warmed, ?_, ?_, ?_⟩
  · have h := X.room
    have hU : ((T.setVm s.vm).setFrames (.invoking m args :: below)).localsInUse = s.localsInUse := by
      rw [State.localsInUse_invoking hF (meth := meth) (c := c) X.method X.code, State.localsInUse_invoking X.frames X.method X.code]
    simp only [State.hasRoom, Bool.and_eq_true, decide_eq_true_eq] at h ⊢
    obtain ⟨⟨⟨⟨h1, h2, h3, h4, h5, h6⟩, h7⟩, h8⟩, h9⟩ := h
    rw [X.frames, List.length_cons] at h2 h3
    have q1 := X.heapSize
    have q2 := X.used
    simp only [hF, hU, List.length_cons, State.stackLimits_setFrames, State.stackBytes_setFrames, hl9, hb9]
    refine ⟨⟨⟨⟨by omega, by omega, by omega, by omega, by omega, h6⟩, ?_⟩, ?_⟩, X.book⟩
    · show T.heap.size + R'.cells ≤ e.platform.maxCells
      omega
    · show T.slotsUsed + R'.slots ≤ e.platform.maxSlots
      omega
  · rw [State.stackLimits_setFrames]; rfl
  · rw [State.stackBytes_setFrames]; rfl
  · refine ⟨?_, Nat.le_refl _, Nat.le_refl _, ?_, ?_, fun a c9 h9 => ⟨c9, h9, rfl, rfl, fun _ _ => rfl⟩⟩
    · obtain ⟨t, ht, -⟩ := State.frames_cons hr
      show T.setVm s.vm = { ((T.setVm s.vm).setFrames (.invoking m args :: below)).setFrames (T.setVm s.vm).frames with heap := T.heap, slotsUsed := T.slotsUsed }
      rw [State.setFrames_setFrames, State.setFrames_self ht]
      rfl
    · show T.slotsUsed = T.slotsUsed + ((T.heap.toList.drop T.heap.size).map (·.slots.size)).sum
      rw [List.drop_eq_nil_of_le (Nat.le_of_eq Array.length_toList)]
      rfl
    · show ((T.heap.toList.drop T.heap.size).map (·.slots.size)).sum ≤ 0
      rw [List.drop_eq_nil_of_le (Nat.le_of_eq Array.length_toList)]
      exact Nat.le_refl _
/-- 'throw new E()': new; dup; invokespecial; athrow -/
theorem vx_throw0 {cc : ByteArray} {pc : Nat} (hexec : p.tables.exec = Jvm.exec) (hb : c.code = cc) (hl : l.stackTraces = false) {own cls : String} {names : List String} {ik ic mc ms : Nat} {A : Nat → Prop}
    (hown : s.vm.findClass own = some m.cls) (hcls : Bundle.fit cls = true) (hnames : ∀ n ∈ names, Bundle.fit n = true)
    (hk : (Cond.classLink own ik cls).before args s = true) (hini : (Cond.initialized cls).before args s = true) (hat : ∀ w ∈ vx_at0 own ic cls names, w.before args s = true)
    (hgood : ∀ w ∈ Cond.classLink own ik cls :: Cond.initialized cls :: vx_at0 own ic cls names, vx_ot w = true)
    (hU : vx_Zq Bundle.tN "UNASSIGNED_STACK" Bundle.steD A s s.heap) (hN : vx_Zq Bundle.tN "SUPPRESSED_SENTINEL" Bundle.listD A s s.heap) (hS : va_S A s.heap H locs) (hsize : ls.size = c.maxLocals)
    (d0 : decode cc pc = .ok (.new ik, 3)) (d3 : decode cc (pc + 3) = .ok (.dup, 1)) (d4 : decode cc (pc + 4) = .ok (.invokespecial ic, 3)) (d7 : decode cc (pc + 7) = .ok (.athrow, 1))
    (hout : ∀ x ∈ c.exceptionTable.toList, covers x (pc + 7) = false)
    (hRframes : names.length + 3 < R.frames) (hRlocals : (rest.map fun v => v.category).sum + (13 * (names.length + 1) + 42) ≤ R.locals) (hRcells : cells + 1 ≤ R.cells) (hRslots : slots + 6 ≤ R.slots) (hlocks : meth.locks = false)
    (hx : ∀ t : State, s.vm.Alike t.vm → H.size ≤ t.heap.size → (∀ q : Nat, q < H.size → t.heap[q]? = H[q]?) → XC cls s t)
    (hf : ∀ z ∈ locs, free z.base) (hc : cells + 1 ≤ mc) (hs : slots + 6 ≤ ms) :
    W p l e R s m args below meth c H locs cells slots (vx_MQ below Qc XC args s mc ms free) (F0 m pc ls rest) := by
  intro T hT X
  have htr : e.platform.stackTraces = false := (show e.platform.stackTraces = l.stackTraces by rw [X.admits.platform]).trans hl
  have Y := vx_rebase X (R' := { frames := R.frames, locals := R.locals, cells := 1, slots := 6 }) (Nat.le_refl _) (Nat.le_refl _) hRcells hRslots
  obtain ⟨s', hA⟩ : ∃ z, z = (T.setVm s.vm).setFrames (.invoking m args :: below) := ⟨_, rfl⟩
  rw [← hA] at Y
  have hvm : s'.vm = s.vm := by rw [hA]; rfl
  have hhp : s'.heap = H := by rw [hA]; exact hT
  have hW0 : s.WarmedH s'.vm := by rw [hvm]; exact State.WarmedH.refl s
  have hat' : ∀ w ∈ vx_at0 own ic cls names, w.before args s' = true := fun w hw => vx_ot_at hW0 hvm.symm (hgood w (List.mem_cons_of_mem _ (List.mem_cons_of_mem _ hw))) (hat w hw)
  have hk' : (Cond.classLink own ik cls).before args s' = true := vx_ot_at hW0 hvm.symm (hgood _ List.mem_cons_self) hk
  have hini' : (Cond.initialized cls).before args s' = true := vx_ot_at hW0 hvm.symm (hgood _ (List.mem_cons_of_mem _ List.mem_cons_self)) hini
  have hU' : vx_Zq Bundle.tN "UNASSIGNED_STACK" Bundle.steD A s' s'.heap := by rw [hhp]; exact vx_Zq.moved hW0.alike (hU.kept hS.2.1)
  have hN' : vx_Zq Bundle.tN "SUPPRESSED_SENTINEL" Bundle.listD A s' s'.heap := by rw [hhp]; exact vx_Zq.moved hW0.alike (hN.kept hS.2.1)
  have h : ∀ w ∈ Bundle.ownAtoms0 own ic cls names, w.before args s' = true := vx_own hat' (vx_isRefq hU'.1) (vx_isRefq hN'.1) hU'.2.word hN'.2.word
  have hown' : s'.vm.findClass own = some m.cls := by rw [hvm]; exact hown
  have hins : (Cond.instantiable cls 6).before args s' = true := h _ (by simp [Bundle.ownAtoms0])
  obtain ⟨vm₁, cX, kX, hfX, hkX, -, -, X₁, st1⟩ := Y.newCold hexec (own := own) (C := cls) (index := ik) (n := 6) hown' hk' hins hini'
    (g := F0 m pc ls rest) rfl (by rw [hb]; exact d0) (Nat.le_refl _) (Nat.le_refl _)
  generalize hT1 : (T.setVm vm₁).pushCell { cls := cX, slots := kX.instanceTypes.map defaultValue, vm := .none } = T1 at X₁ st1
  have hcat : (Value.ref T.heap.size).category = 1 := rfl
  have hcellA : T1.heap[T.heap.size]? = some (freshCell cX kX) := by rw [← hT1]; exact State.heap_pushCell_size _ _
  have d3' : decode c.code (pc + 3) = .ok (.dup, 1) := by rw [hb]; exact d3
  obtain ⟨U, hsteps, hrun, hend, hW, hsame, ce, hce, hO⟩ := X₁.ctorThrow0 hexec htr (own := own) (cls := cls) (names := names) (ic := ic) hown' hcls hnames h (fun x hx => nomatch hx) hfX hkX hcellA (by rw [hhp, hT]; exact Nat.le_refl _)
    (g := { method := m, pc := pc + 4, locals := ls, stack := .ref T.heap.size :: .ref T.heap.size :: rest, locked := none }) rfl hsize rfl rfl (rest := rest) rfl
    (by rw [hb]; exact d4) (by rw [hb]; exact d7) hout hRframes (by simp only [List.map_cons, List.sum_cons, hcat]; omega) hlocks
  obtain ⟨f1, f2⟩ := vx_frame hsame
  rw [hhp] at f1 f2
  have hWs : s.WarmedH U.vm := State.WarmedH.trans hW0 hW
  have hcl : s.vm.findClass cls = some ce.cls := by
    have h9 := hO.cls
    rw [hvm] at h9
    exact h9
  have hall : s.sameButNew ({ U with vm := s.vm } : State) locs mc ms := by
    subst hA
    obtain ⟨e1, e2⟩ := hsame
    rw [State.setFrames_setFrames] at e1
    have h2 : (T.setVm s.vm).sameButNew ({ U with vm := s.vm } : State) [] (0 + 1) (0 + 6) := ⟨e1, e2⟩
    have h3 := X.same.trans h2
    rw [List.append_nil] at h3
    exact h3.mono hc hs
  refine ⟨U, ?_, .threw T.heap.size, hrun, hend, Or.inr ⟨T.heap.size, rfl, cls, ce, locs, hx U hWs.alike f1 (fun q hq => f2 q hq (fun z hz => nomatch hz)), hce, hO.vm, hcl, hWs, hall, hf⟩⟩
  refine st1 _ ?_
  show Steps p.tables e below (T1.setTop { method := m, pc := pc + 3, locals := ls, stack := .ref T.heap.size :: rest, locked := none }) _
  jvm_step X₁.here [X₁.here.top, hexec, d3', Value.category]
  exact hsteps
/-- 'throw new E("text")': new; dup; ldc; invokespecial; athrow -/
theorem vx_throwS {cc : ByteArray} {pc : Nat} (hexec : p.tables.exec = Jvm.exec) (hb : c.code = cc) (hl : l.stackTraces = false) {own cls text : String} {names : List String} {ik is ic mc ms sa : Nat} {A : Nat → Prop}
    (hown : s.vm.findClass own = some m.cls) (hcls : Bundle.fit cls = true) (hnames : ∀ n ∈ names, Bundle.fit n = true)
    (hk : (Cond.classLink own ik cls).before args s = true) (hini : (Cond.initialized cls).before args s = true) (hstr : vk_R own is text sa s) (hat : ∀ w ∈ vx_atS own ic cls names, w.before args s = true)
    (hgood : ∀ w ∈ Cond.classLink own ik cls :: Cond.initialized cls :: vx_atS own ic cls names, vx_ot w = true)
    (hU : vx_Zq Bundle.tN "UNASSIGNED_STACK" Bundle.steD A s s.heap) (hN : vx_Zq Bundle.tN "SUPPRESSED_SENTINEL" Bundle.listD A s s.heap) (hS : va_S A s.heap H locs) (hsize : ls.size = c.maxLocals)
    (d0 : decode cc pc = .ok (.new ik, 3)) (d3 : decode cc (pc + 3) = .ok (.dup, 1)) (d4 : decode cc (pc + 4) = .ok (.ldc is, 2)) (d6 : decode cc (pc + 6) = .ok (.invokespecial ic, 3)) (d9 : decode cc (pc + 9) = .ok (.athrow, 1))
    (hout : ∀ x ∈ c.exceptionTable.toList, covers x (pc + 9) = false)
    (hRframes : names.length + 3 < R.frames) (hRlocals : (rest.map fun v => v.category).sum + (13 * (names.length + 1) + 43) ≤ R.locals) (hRcells : cells + 1 ≤ R.cells) (hRslots : slots + 6 ≤ R.slots) (hlocks : meth.locks = false)
    (hx : ∀ t : State, s.vm.Alike t.vm → H.size ≤ t.heap.size → (∀ q : Nat, q < H.size → t.heap[q]? = H[q]?) → XC cls s t)
    (hf : ∀ z ∈ locs, free z.base) (hc : cells + 1 ≤ mc) (hs : slots + 6 ≤ ms) :
    W p l e R s m args below meth c H locs cells slots (vx_MQ below Qc XC args s mc ms free) (F0 m pc ls rest) := by
  intro T hT X
  have htr : e.platform.stackTraces = false := (show e.platform.stackTraces = l.stackTraces by rw [X.admits.platform]).trans hl
  have Y := vx_rebase X (R' := { frames := R.frames, locals := R.locals, cells := 1, slots := 6 }) (Nat.le_refl _) (Nat.le_refl _) hRcells hRslots
  obtain ⟨s', hA⟩ : ∃ z, z = (T.setVm s.vm).setFrames (.invoking m args :: below) := ⟨_, rfl⟩
  rw [← hA] at Y
  have hvm : s'.vm = s.vm := by rw [hA]; rfl
  have hhp : s'.heap = H := by rw [hA]; exact hT
  have hW0 : s.WarmedH s'.vm := by rw [hvm]; exact State.WarmedH.refl s
  have hat' : ∀ w ∈ vx_atS own ic cls names, w.before args s' = true := fun w hw => vx_ot_at hW0 hvm.symm (hgood w (List.mem_cons_of_mem _ (List.mem_cons_of_mem _ hw))) (hat w hw)
  have hk' : (Cond.classLink own ik cls).before args s' = true := vx_ot_at hW0 hvm.symm (hgood _ List.mem_cons_self) hk
  have hini' : (Cond.initialized cls).before args s' = true := vx_ot_at hW0 hvm.symm (hgood _ (List.mem_cons_of_mem _ List.mem_cons_self)) hini
  have hU' : vx_Zq Bundle.tN "UNASSIGNED_STACK" Bundle.steD A s' s'.heap := by rw [hhp]; exact vx_Zq.moved hW0.alike (hU.kept hS.2.1)
  have hN' : vx_Zq Bundle.tN "SUPPRESSED_SENTINEL" Bundle.listD A s' s'.heap := by rw [hhp]; exact vx_Zq.moved hW0.alike (hN.kept hS.2.1)
  have h : ∀ w ∈ Bundle.ownAtoms own ic cls names, w.before args s' = true := vx_own hat' (vx_isRefq hU'.1) (vx_isRefq hN'.1) hU'.2.word hN'.2.word
  have hown' : s'.vm.findClass own = some m.cls := by rw [hvm]; exact hown
  have hins : (Cond.instantiable cls 6).before args s' = true := h _ (by simp [Bundle.ownAtoms])
  obtain ⟨vm₁, cX, kX, hfX, hkX, -, -, X₁, st1⟩ := Y.newCold hexec (own := own) (C := cls) (index := ik) (n := 6) hown' hk' hins hini'
    (g := F0 m pc ls rest) rfl (by rw [hb]; exact d0) (Nat.le_refl _) (Nat.le_refl _)
  generalize hT1 : (T.setVm vm₁).pushCell { cls := cX, slots := kX.instanceTypes.map defaultValue, vm := .none } = T1 at X₁ st1
  have hcat : (Value.ref T.heap.size).category = 1 := rfl
  have hcellA : T1.heap[T.heap.size]? = some (freshCell cX kX) := by rw [← hT1]; exact State.heap_pushCell_size _ _
  have d3' : decode c.code (pc + 3) = .ok (.dup, 1) := by rw [hb]; exact d3
  have d4' : decode c.code (pc + 4) = .ok (.ldc is, 2) := by rw [hb]; exact d4
  have hstr' : vk_R own is text sa s' := vk_R.warm hW0 hstr
  obtain ⟨U, hsteps, hrun, hend, hW, hsame, ce, hce, hO⟩ := X₁.ctorThrowS hexec htr (own := own) (cls := cls) (names := names) (ic := ic) hown' hcls hnames h (fun x hx => nomatch hx) hfX hkX hcellA (by rw [hhp, hT]; exact Nat.le_refl _) (msg := .ref sa) rfl
    (g := { method := m, pc := pc + 6, locals := ls, stack := .ref sa :: .ref T.heap.size :: .ref T.heap.size :: rest, locked := none }) rfl hsize rfl rfl (rest := rest) rfl
    (by rw [hb]; exact d6) (by rw [hb]; exact d9) hout hRframes (by simp only [List.map_cons, List.sum_cons, hcat]; omega) hlocks
  obtain ⟨f1, f2⟩ := vx_frame hsame
  rw [hhp] at f1 f2
  have hWs : s.WarmedH U.vm := State.WarmedH.trans hW0 hW
  have hcl : s.vm.findClass cls = some ce.cls := by
    have h9 := hO.cls
    rw [hvm] at h9
    exact h9
  have hall : s.sameButNew ({ U with vm := s.vm } : State) locs mc ms := by
    subst hA
    obtain ⟨e1, e2⟩ := hsame
    rw [State.setFrames_setFrames] at e1
    have h2 : (T.setVm s.vm).sameButNew ({ U with vm := s.vm } : State) [] (0 + 1) (0 + 6) := ⟨e1, e2⟩
    have h3 := X.same.trans h2
    rw [List.append_nil] at h3
    exact h3.mono hc hs
  refine ⟨U, ?_, .threw T.heap.size, hrun, hend, Or.inr ⟨T.heap.size, rfl, cls, ce, locs, hx U hWs.alike f1 (fun q hq => f2 q hq (fun z hz => nomatch hz)), hce, hO.vm, hcl, hWs, hall, hf⟩⟩
  refine st1 _ ?_
  show Steps p.tables e below (T1.setTop { method := m, pc := pc + 3, locals := ls, stack := .ref T.heap.size :: rest, locked := none }) _
  jvm_step X₁.here [X₁.here.top, hexec, d3', Value.category]
  exact X₁.ldcString hexec (own := own) (text := text) (index := is) (a := sa) hown' hstr'.1 hstr'.2
    (g := { method := m, pc := pc + 4, locals := ls, stack := .ref T.heap.size :: .ref T.heap.size :: rest, locked := none }) rfl d4' _ hsteps
/-- 'throw new E("text")', the text by a wide index -/
theorem vx_throwSW {cc : ByteArray} {pc : Nat} (hexec : p.tables.exec = Jvm.exec) (hb : c.code = cc) (hl : l.stackTraces = false) {own cls text : String} {names : List String} {ik is ic mc ms sa : Nat} {A : Nat → Prop}
    (hown : s.vm.findClass own = some m.cls) (hcls : Bundle.fit cls = true) (hnames : ∀ n ∈ names, Bundle.fit n = true)
    (hk : (Cond.classLink own ik cls).before args s = true) (hini : (Cond.initialized cls).before args s = true) (hstr : vk_R own is text sa s) (hat : ∀ w ∈ vx_atS own ic cls names, w.before args s = true)
    (hgood : ∀ w ∈ Cond.classLink own ik cls :: Cond.initialized cls :: vx_atS own ic cls names, vx_ot w = true)
    (hU : vx_Zq Bundle.tN "UNASSIGNED_STACK" Bundle.steD A s s.heap) (hN : vx_Zq Bundle.tN "SUPPRESSED_SENTINEL" Bundle.listD A s s.heap) (hS : va_S A s.heap H locs) (hsize : ls.size = c.maxLocals)
    (d0 : decode cc pc = .ok (.new ik, 3)) (d3 : decode cc (pc + 3) = .ok (.dup, 1)) (d4 : decode cc (pc + 4) = .ok (.ldc_w is, 3)) (d7 : decode cc (pc + 7) = .ok (.invokespecial ic, 3)) (d10 : decode cc (pc + 10) = .ok (.athrow, 1))
    (hout : ∀ x ∈ c.exceptionTable.toList, covers x (pc + 10) = false)
    (hRframes : names.length + 3 < R.frames) (hRlocals : (rest.map fun v => v.category).sum + (13 * (names.length + 1) + 43) ≤ R.locals) (hRcells : cells + 1 ≤ R.cells) (hRslots : slots + 6 ≤ R.slots) (hlocks : meth.locks = false)
    (hx : ∀ t : State, s.vm.Alike t.vm → H.size < t.heap.size → (∀ q : Nat, q < H.size → t.heap[q]? = H[q]?) → XC cls s t)
    (hf : ∀ z ∈ locs, free z.base) (hc : cells + 1 ≤ mc) (hs : slots + 6 ≤ ms) :
    W p l e R s m args below meth c H locs cells slots (vx_MQ below Qc XC args s mc ms free) (F0 m pc ls rest) := by
  intro T hT X
  have htr : e.platform.stackTraces = false := (show e.platform.stackTraces = l.stackTraces by rw [X.admits.platform]).trans hl
  have Y := vx_rebase X (R' := { frames := R.frames, locals := R.locals, cells := 1, slots := 6 }) (Nat.le_refl _) (Nat.le_refl _) hRcells hRslots
  obtain ⟨s', hA⟩ : ∃ z, z = (T.setVm s.vm).setFrames (.invoking m args :: below) := ⟨_, rfl⟩
  rw [← hA] at Y
  have hvm : s'.vm = s.vm := by rw [hA]; rfl
  have hhp : s'.heap = H := by rw [hA]; exact hT
  have hW0 : s.WarmedH s'.vm := by rw [hvm]; exact State.WarmedH.refl s
  have hat' : ∀ w ∈ vx_atS own ic cls names, w.before args s' = true := fun w hw => vx_ot_at hW0 hvm.symm (hgood w (List.mem_cons_of_mem _ (List.mem_cons_of_mem _ hw))) (hat w hw)
  have hk' : (Cond.classLink own ik cls).before args s' = true := vx_ot_at hW0 hvm.symm (hgood _ List.mem_cons_self) hk
  have hini' : (Cond.initialized cls).before args s' = true := vx_ot_at hW0 hvm.symm (hgood _ (List.mem_cons_of_mem _ List.mem_cons_self)) hini
  have hU' : vx_Zq Bundle.tN "UNASSIGNED_STACK" Bundle.steD A s' s'.heap := by rw [hhp]; exact vx_Zq.moved hW0.alike (hU.kept hS.2.1)
  have hN' : vx_Zq Bundle.tN "SUPPRESSED_SENTINEL" Bundle.listD A s' s'.heap := by rw [hhp]; exact vx_Zq.moved hW0.alike (hN.kept hS.2.1)
  have h : ∀ w ∈ Bundle.ownAtoms own ic cls names, w.before args s' = true := vx_own hat' (vx_isRefq hU'.1) (vx_isRefq hN'.1) hU'.2.word hN'.2.word
  have hown' : s'.vm.findClass own = some m.cls := by rw [hvm]; exact hown
  have hins : (Cond.instantiable cls 6).before args s' = true := h _ (by simp [Bundle.ownAtoms])
  obtain ⟨vm₁, cX, kX, hfX, hkX, -, -, X₁, st1⟩ := Y.newCold hexec (own := own) (C := cls) (index := ik) (n := 6) hown' hk' hins hini'
    (g := F0 m pc ls rest) rfl (by rw [hb]; exact d0) (Nat.le_refl _) (Nat.le_refl _)
  generalize hT1 : (T.setVm vm₁).pushCell { cls := cX, slots := kX.instanceTypes.map defaultValue, vm := .none } = T1 at X₁ st1
  have hcat : (Value.ref T.heap.size).category = 1 := rfl
  have hcellA : T1.heap[T.heap.size]? = some (freshCell cX kX) := by rw [← hT1]; exact State.heap_pushCell_size _ _
  have d3' : decode c.code (pc + 3) = .ok (.dup, 1) := by rw [hb]; exact d3
  have d4' : decode c.code (pc + 4) = .ok (.ldc_w is, 3) := by rw [hb]; exact d4
  have hstr' : vk_R own is text sa s' := vk_R.warm hW0 hstr
  obtain ⟨U, hsteps, hrun, hend, hW, hsame, ce, hce, hO⟩ := X₁.ctorThrowS hexec htr (own := own) (cls := cls) (names := names) (ic := ic) hown' hcls hnames h (fun x hx => nomatch hx) hfX hkX hcellA (by rw [hhp, hT]; exact Nat.le_refl _) (msg := .ref sa) rfl
    (g := { method := m, pc := pc + 7, locals := ls, stack := .ref sa :: .ref T.heap.size :: .ref T.heap.size :: rest, locked := none }) rfl hsize rfl rfl (rest := rest) rfl
    (by rw [hb]; exact d7) (by rw [hb]; exact d10) hout hRframes (by simp only [List.map_cons, List.sum_cons, hcat]; omega) hlocks
  obtain ⟨f1, f2⟩ := vx_frame hsame
  rw [hhp] at f1 f2
  have hWs : s.WarmedH U.vm := State.WarmedH.trans hW0 hW
  have hcl : s.vm.findClass cls = some ce.cls := by
    have h9 := hO.cls
    rw [hvm] at h9
    exact h9
  have hall : s.sameButNew ({ U with vm := s.vm } : State) locs mc ms := by
    subst hA
    obtain ⟨e1, e2⟩ := hsame
    rw [State.setFrames_setFrames] at e1
    have h2 : (T.setVm s.vm).sameButNew ({ U with vm := s.vm } : State) [] (0 + 1) (0 + 6) := ⟨e1, e2⟩
    have h3 := X.same.trans h2
    rw [List.append_nil] at h3
    exact h3.mono hc hs
  refine ⟨U, ?_, .threw T.heap.size, hrun, hend, Or.inr ⟨T.heap.size, rfl, cls, ce, locs, hx U hWs.alike (by have h9 := (Array.getElem?_eq_some_iff.mp hce).1; rw [← hT]; exact h9) (fun q hq => f2 q hq (fun z hz => nomatch hz)), hce, hO.vm, hcl, hWs, hall, hf⟩⟩
  refine st1 _ ?_
  show Steps p.tables e below (T1.setTop { method := m, pc := pc + 3, locals := ls, stack := .ref T.heap.size :: rest, locked := none }) _
  jvm_step X₁.here [X₁.here.top, hexec, d3', Value.category]
  exact X₁.ldcStringW hexec (own := own) (text := text) (index := is) (a := sa) hown' hstr'.1 hstr'.2
    (g := { method := m, pc := pc + 4, locals := ls, stack := .ref T.heap.size :: .ref T.heap.size :: rest, locked := none }) rfl d4' _ hsteps
end Ends
section Bodies
variable {l : Launch}
theorem vx_ofW {y : MethodName} {ws ws' : List Cond} {rm : Room} {Pc : Array Value → State → Prop} {Qc : Array Value → State → Outcome → State → Prop} {XC : String → State → State → Prop} {mc ms : Nat} {free : Addr → Prop} {cc : ByteArray} {maxL : Nat} {ret : Option FieldType}
    (hy : plainName y.cls = true) (hw : ws = Cond.code y cc maxL ret :: ws')
    (body : ∀ p e s m args below meth c s₁, BodyLoose p l y (headSpec ws rm) cc maxL ret e s m args below meth c s₁ → c.maxLocals = maxL → (∀ x ∈ c.exceptionTable.toList, False) → Pc args s →
      W p l e (headSpec ws rm).room s m args below meth c s.heap [] 0 0 (vx_MQ below Qc XC args s mc ms free) (entryFrame m args maxL)) : vx_Met l y ws rm Pc Qc XC mc ms free := by
  refine MetFree.of_bodyS (code := cc) (maxLocals := maxL) (ret := ret) hy ?_ ?_
  · intro args s m h hn
    obtain ⟨meth, c, h1, h2, h3, h4, h5, h6, -, -⟩ := Cond.code_spec hn (atoms_spec (ws := ws) h _ (by rw [hw]; exact List.mem_cons_self))
    exact ⟨meth, c, h1, h2, h3, h4, h5, h6⟩
  · intro p e s m args below meth c s₁ B hml hP _
    have hh0 : s₁.heap = s.heap := by rw [B.state]; rfl
    have ht : ∀ x ∈ c.exceptionTable.toList, False := by
      obtain ⟨meth9, c9, h1, h2, -, -, -, -, h7, -⟩ := Cond.code_spec B.named (atoms_spec (ws := ws) B.pre _ (by rw [hw]; exact List.mem_cons_self))
      cases Option.some.inj (h1.symm.trans B.method)
      cases Option.some.inj (h2.symm.trans (Stand.of_body B).code)
      intro x hx
      rw [Array.isEmpty_iff.mp h7] at hx
      cases hx
    obtain ⟨t, a1, o, b1, b2, b3⟩ := body p e s m args below meth c s₁ B hml ht hP s₁ hh0 (Stand.of_body B)
    exact ⟨t, o, a1, b1, b2, b3⟩
/-- the table of a body with handlers -/
theorem vx_table {p : Program} {x y : MethodName} {S : Spec} {cc bytes : ByteArray} {maxL maxL' : Nat} {ret ret' : Option FieldType} {e : Env} {s s₁ : State} {m : MethodId} {args : Array Value} {below : List Frame} {meth : Method} {c : Code} {hh : List (Nat × Nat × Nat × Nat)}
    (B : BodyLoose p l y S cc maxL ret e s m args below meth c s₁) (h : (Cond.codeWith y bytes maxL' ret' hh).before args s = true) : c.exceptionTable.toList = tableOf hh := by
  obtain ⟨m9, meth9, c9, hn9, h1, h2, -, -, h6, -⟩ := Cond.codeWith_spec h
  cases Option.some.inj (hn9.symm.trans B.named)
  cases Option.some.inj (h1.symm.trans B.method)
  cases Option.some.inj (h2.symm.trans (Stand.of_body B).code)
  rw [← h6, table_eq]
end Bodies
end VXA
/-! ===== END ===== -/
/-! ===== BEGIN a static call of a method with an exception table ===== -/
section VXS
variable {p : Program} {l : Launch} {e : Env} {R : Room} {s : State} {m : MethodId} {args : Array Value} {below : List Frame} {meth : Method} {c : Code} {T : State} {H : Heap} {locs : List Loc} {cells slots : Nat}
abbrev vx_CSW (R : Room) (s : State) (args : Array Value) (own : String) (index : Nat) (y : MethodName) (bytes : ByteArray) (maxL : Nat) (ret : Option FieldType) (hh : List (Nat × Nat × Nat × Nat)) (ws : List Cond) (rm : Room) (mc ms n : Nat) : Prop :=
  (rm.cells = mc ∧ rm.slots = ms ∧ rm.frames + 1 ≤ R.frames ∧ 8 + (maxL + 11) + rm.locals ≤ R.locals ∧ (∀ w ∈ ws, ∀ (a' : Array Value) (U : State), s.WarmedH U.vm → w.before a' U = true) ∧ Cond.codeWith y bytes maxL ret hh ∈ ws) ∧
  (Cond.codeWith y bytes maxL ret hh).before args s = true ∧ (Cond.initialized y.cls).before args s = true ∧ (y.cls ≠ "java/lang/invoke/MethodHandle" ∧ y.cls ≠ "java/lang/invoke/VarHandle") ∧
  (∀ sig, parseMethodDescriptor y.desc = some sig → n = sig.parameters.length) ∧ (Cond.methodLink own index y).before args s = true ∧ (Cond.static y).before args s = true
theorem vx_cwSW {own : String} {index maxL mc ms : Nat} {y : MethodName} {bytes : ByteArray} {ret : Option FieldType} {hh : List (Nat × Nat × Nat × Nat)} {Ts ws ws' : List Cond} {rm : Room} (n : Nat) (ht : ∀ w ∈ Ts, w.before args s = true) (hT : GoodIn Ts (va_wsS own index y ws)) (hw : ws = Cond.codeWith y bytes maxL ret hh :: ws') (hrc : rm.cells = mc) (hrs : rm.slots = ms)
    (hd : y.cls ≠ "java/lang/invoke/MethodHandle" ∧ y.cls ≠ "java/lang/invoke/VarHandle" ∧ (parseMethodDescriptor y.desc).map (fun d => d.parameters.length) = some n) (hR : rm.frames + 1 ≤ R.frames ∧ 8 + (maxL + 11) + rm.locals ≤ R.locals) :
    vx_CSW R s args own index y bytes maxL ret hh ws rm mc ms n := by
  have ok : ∀ w ∈ va_wsS own index y ws, w.before args s = true := fun w h => ht w (hT w h).1
  have hG : GoodIn Ts ws := fun w h => hT w (by unfold va_wsS; exact List.mem_append_right _ h)
  have hc : Cond.codeWith y bytes maxL ret hh ∈ ws := by rw [hw]; exact List.mem_cons_self
  refine ⟨⟨hrc, hrs, hR.1, hR.2, pay_in ht hG, hc⟩, ht _ (hG _ hc).1, ok _ (by simp [va_wsS]), ⟨hd.1, hd.2.1⟩, fun sig h => ?_, ok _ (by simp [va_wsS]), ok _ (by simp [va_wsS])⟩
  have h2 := hd.2.2
  rw [h] at h2
  exact (Option.some.inj h2).symm
theorem vx_callSW (X : Stand p l e R s m args below meth c T locs cells slots) (hexec : p.tables.exec = Jvm.exec) {own : String} {index : Nat} {y : MethodName} {bytes : ByteArray} {maxL : Nat} {ret : Option FieldType} {hh : List (Nat × Nat × Nat × Nat)}
    (hown : s.vm.findClass own = some m.cls) (hlink : (Cond.methodLink own index y).before args s = true) (hstat : (Cond.static y).before args s = true) (hinit : (Cond.initialized y.cls).before args s = true)
    (hcode : (Cond.codeWith y bytes maxL ret hh).before args s = true) (hy : y.cls ≠ "java/lang/invoke/MethodHandle" ∧ y.cls ≠ "java/lang/invoke/VarHandle")
    {W9 : Nat} {Pre : Pt → Array Value → Prop} {Post : Pt → Array Value → Option Value → Pt → Prop} (hK : Back l R p e below s args y 3 W9 Pre Post)
    {g : JFrame} (hg : g.method = m) (hsize : g.locals.size = c.maxLocals) {argsL rest : List Value} (hlen : ∀ sig, parseMethodDescriptor y.desc = some sig → argsL.length = sig.parameters.length)
    (hstack : g.stack = argsL.reverse ++ rest) (hW : 2 * g.monitorRoom + (rest.map fun v => v.category).sum ≤ W9) (hdg : decode c.code g.pc = .ok (.invokestatic index, 3))
    (hpre : ∀ vm₁, s.WarmedH vm₁ → Pre ⟨T.setVm vm₁, locs, cells, slots⟩ argsL.toArray) :
    ∃ (v : Option Value) (vm₁ : Vm) (B : Pt), s.WarmedH vm₁ ∧ Stand p l e R s m args below meth c B.U B.locs B.cells B.slots ∧ Post ⟨T.setVm vm₁, locs, cells, slots⟩ argsL.toArray v B ∧
      ∀ target, Steps p.tables e below (B.U.setTop { g with pc := g.pc + 3, stack := v.toList ++ rest }) target → Steps p.tables e below (T.setTop g) target := by
  obtain ⟨mk, methM, cM, hnamed, hmethM, -, -, -, -, -, -, hsigM⟩ := Cond.codeWith_spec hcode
  have hstatic : methM.isStatic = true := Cond.static_spec hnamed hmethM hstat
  obtain ⟨kP, hkP, -⟩ := className_of_methodNamed hnamed
  have hinitP : kP.init = .initialized := Cond.initialized_spec (findClass_of_methodNamed hnamed) hkP hinit
  obtain ⟨vm₁, X₁, hstep₁⟩ := X.invokestatic hexec hown hlink hnamed hmethM hstatic hkP hinitP hy (g := g) hg (argsL := argsL) (rest := rest) (hlen _ hsigM) hstack hdg
  obtain ⟨v, B, X', hpost, hsteps⟩ := hK m meth c ⟨T.setVm vm₁, locs, cells, slots⟩ { g with stack := rest } (.invokestatic index) mk argsL.toArray X₁ hg hsize hdg hW (X₁.named hnamed) (hpre vm₁ X₁.warmed)
  exact ⟨v, vm₁, B, X₁.warmed, X', hpost, fun target h => hstep₁ _ fun acts => by rw [doInvoke_state]; exact hsteps.trans h⟩
theorem vx_runSW {y : MethodName} {bytes cc : ByteArray} {maxL nL mc ms n index : Nat} {ret : Option FieldType} {hh : List (Nat × Nat × Nat × Nat)} {ws : List Cond} {rm : Room} {Pc : Array Value → State → Prop} {Qc : Array Value → State → Outcome → State → Prop} {free : Addr → Prop} {Ts : List Cond} {own : String} {As rest : List Value} {g : JFrame}
    (S : CallFix p m c cc nL s args Ts own) (hM : Met l y ws rm Pc Qc mc ms free) (cw : vx_CSW R s args own index y bytes maxL ret hh ws rm mc ms n) (hp : PreS s H Pc As)
    (hg : g.method = m) (hn : As.length = n) (hsize : g.locals.size = nL) (hstack : g.stack = As.reverse ++ rest) (hW : 2 * g.monitorRoom + (rest.map fun v => v.category).sum ≤ 8) (hdg : decode cc g.pc = .ok (.invokestatic index, 3)) (hf : cells + mc ≤ R.cells ∧ slots + ms ≤ R.slots) :
    va_Run p l e R s m args below meth c H locs cells slots mc ms g rest (Qc As.toArray) (free) := by
  obtain ⟨⟨hrc, hrs, hfr, hlo, hws, hcw⟩, hcode, hini, hy, hlen, hl, hstt⟩ := cw
  have hK : Back l R p e below s args y 3 8 (PreOf R mc ms Pc) (PostOf Qc mc ms free) := va_backW (hh := hh) (bytes := bytes) (maxL := maxL) (ret := ret) hM hp.1 hrc hrs hfr hlo hws hcw (fun a' U hW => word_at hW (Or.inl (by first | rfl | simp [Cond.onTables, Cond.keeps, Cond.steady])) hini)
  obtain ⟨hx, hb, hml, ho, -⟩ := S
  intro T hT X
  obtain ⟨v, vm₁, ⟨U', l2, c2, s2⟩, hW₁, X', ⟨g', mk, t, L, e1, e2, hq, h1, hL, h2, h3⟩, st⟩ := vx_callSW X hx (hh := hh) (bytes := bytes) (maxL := maxL) (ret := ret) ho hl hstt hini hcode hy hK hg (hsize.trans hml.symm) (argsL := As) (rest := rest) (fun sig h => hn.trans (hlen sig h)) hstack hW (by rw [hb]; exact hdg)
    (fun vm₁ hW₁ => ⟨hf.1, hf.2, hp.2 (T.setVm vm₁) hT hW₁⟩)
  dsimp only [Pt.U, Pt.locs, Pt.cells, Pt.slots] at X' e1 e2 h1 h2 h3 st
  subst h1; subst h2; subst h3
  exact ⟨v, (T.setVm vm₁).calling g' mk As.toArray, t, U', L, hT, X', hL, e1, e2, hq, st⟩
/-- not caught here, past rows that name other classes: it goes on to the caller -/
theorem vx_outP {p : Program} {l : Launch} {e : Env} {R : Room} {s : State} {m : MethodId} {args : Array Value} {below : List Frame} {meth : Method} {c : Code} {H : Heap} {locs : List Loc} {cells slots : Nat} {free : Addr → Prop} {ls : Array Slot} {rest : List Value} {Qc : Array Value → State → Outcome → State → Prop} {XC : String → State → State → Prop}
    {pc : Nat} {own E : String} {ce : Cell} {q : Addr} {mc ms : Nat} (hown : s.vm.findClass own = some m.cls) (hlocks : meth.locks = false)
    (hpass : ∀ z ∈ c.exceptionTable.toList, covers z pc = false ∨ (z.catchType ≠ 0 ∧ ∃ nm : String, (Cond.classLink own z.catchType nm).before args s = true ∧ va_Nc E nm s)) (hcell : H[q]? = some ce) (hv : ce.vm = .none) (hcl : s.vm.findClass E = some ce.cls)
    (hx : ∀ t : State, t.heap = H → s.vm.Alike t.vm → XC E s t) (hf : ∀ z ∈ locs, free z.base) (hc : cells ≤ mc) (hs : slots ≤ ms) :
    vx_W p l e R s m args below meth c H locs cells slots (vx_MQ below Qc XC args s mc ms free) (F0 m pc ls rest) q := by
  intro T hT X
  have hpl : e.platform.magicAccessors = ({} : Platform).magicAccessors := by rw [X.admits.platform]
  obtain ⟨vm', hW', X', st⟩ := X.outThrough hlocks q (g := F0 m pc ls rest) rfl rfl rfl (cell := ce) (by rw [hT]; exact hcell) (by rw [hv]; rfl)
    (by obtain ⟨k9, h9, -⟩ := Vm.findClass_spec hcl; exact ⟨k9, h9⟩) (fun z hz => by
      rcases hpass z hz with h | ⟨hz0, nm, hl1, hn1⟩
      · exact Or.inl h
      · obtain ⟨c6, hc6, hcl6⟩ := Cond.classLink_spec hown hl1 e.platform hpl
        obtain ⟨a8, b8, h1, h2, h3⟩ := hn1
        cases Option.some.inj (h1.symm.trans hcl)
        cases Option.some.inj (h2.symm.trans hc6)
        exact Or.inr ⟨hz0, _, hcl6, h3⟩)
  obtain ⟨g₀, hfr⟩ := X'.frames_eq
  have hcell9 : ((T.setVm vm').setFrames (.throwing q :: below)).heap[q]? = some ce := by
    show T.heap[q]? = some ce
    rw [hT]; exact hcell
  have hend : Ended ((T.setVm vm').setFrames (.throwing q :: below)) below (.threw q) := State.frames_setFrames _ (State.cur_lt_of_frames hfr)
  refine ⟨(T.setVm vm').setFrames (.throwing q :: below), ?_, .threw q, X'.here.running, hend, Or.inr ⟨q, rfl, E, ce, locs, hx _ hT (X'.ends _).1.alike, hcell9, hv, hcl, (X'.ends _).1, (X'.ends _).2.mono hc hs, hf⟩⟩
  rw [X.pushThrowing_eq]
  exact st
/-- a thing of a world lies in the heap -/
theorem vx_lt {D : va_G} {cl : List vw_C} {ws : va_W} {H1 : Heap} (h : va_P D cl ws H1) {k : Nat} {q : Nat × va_E} (hk : ws[k]? = some q) : q.1 < H1.size := (h k q hk).lt
end VXS
/-! ===== END ===== -/
/-! ===== BEGIN methods with a table of their own: called by a name, returning or throwing ===== -/
section VXH
/-! vx_backW, vx_callVX, vx_callSX, vx_callVW, vx_runVW, vx_runVX, vx_runSX, vx_ofWH follow the same proofs as their sisters above (Free/Laws.lean, Shelf42/LK1.lean); vx_outP calls Shelf42/NT130.lean (outThrough). -/
section
variable {l : Launch} {R : Room} {p : Program} {e : Env} {below : List Frame} {s : State} {sargs : Array Value} {y : MethodName} {len W9 : Nat}
theorem vx_backW {ws : List Cond} {rm : Room} {Pc : Array Value → State → Prop} {Qc : Array Value → State → Outcome → State → Prop} {XC : String → State → State → Prop} {mc ms : Nat} {free : Addr → Prop} {bytes : ByteArray} {maxL : Nat} {ret : Option FieldType} {hh : List (Nat × Nat × Nat × Nat)}
    (hM : vx_Met l y ws rm Pc Qc XC mc ms free) (hblind : FrameBlind Pc) (hrc : rm.cells = mc) (hrs : rm.slots = ms)
    (hframes : rm.frames + 1 ≤ R.frames) (hlocals : W9 + (maxL + 11) + rm.locals ≤ R.locals)
    (hws : ∀ w ∈ ws, ∀ a' U, s.WarmedH U.vm → w.before a' U = true) (hcode : Cond.codeWith y bytes maxL ret hh ∈ ws) (hinit : ∀ a' U, s.WarmedH U.vm → (Cond.initialized y.cls).before a' U = true) :
    vx_Back l R p e below s sargs y len W9 (PreOf R mc ms Pc) (PostOf Qc mc ms free) (vx_Post XC mc ms free) := by
  intro m meth c A g ig mk a X hg hsize hdg hW hn hp
  have h1 : (headSpec ws rm).pre.before a A.U = true := atoms_intro fun w hw => hws w hw _ _ X.warmed
  have h2 : (Cond.codeWith y bytes maxL ret hh).before a A.U = true := hws _ hcode _ _ X.warmed
  have h3 : (Cond.initialized y.cls).before a A.U = true := hinit _ _ X.warmed
  have h4 : A.cells + (headSpec ws rm).room.cells ≤ R.cells := by rw [show (headSpec ws rm).room.cells = mc from hrc]; exact hp.1
  have h5 : A.slots + (headSpec ws rm).room.slots ≤ R.slots := by rw [show (headSpec ws rm).room.slots = ms from hrs]; exact hp.2.1
  have hPc : Pc a (A.U.calling g mk a) := hblind _ _ _ _ hp.2.2
  obtain ⟨U, Ls, c0, s0⟩ := A
  dsimp only [Pt.U, Pt.locs, Pt.cells, Pt.slots] at h1 h2 h3 h4 h5 X hn hPc ⊢
  obtain ⟨m9, methY, cY, hn9, hmY, hcY, -, hlY, -⟩ := Cond.codeWith_spec h2
  cases Option.some.inj (hn9.symm.trans hn)
  obtain ⟨kY, hkY, -⟩ := className_of_methodNamed hn
  have hinitY : kY.init = .initialized := Cond.initialized_spec (findClass_of_methodNamed hn) hkY h3
  have h : At U g.method c below := by rw [hg]; exact X.here
  have hlocals9 : W9 + (maxL + 11) + (headSpec ws rm).room.locals ≤ R.locals := hlocals
  have happ : (headSpec ws rm).appliesLoose y e.platform (U.calling g mk a) = true :=
    Spec.appliesLoose_calling (g := g) h hdg hn hkY hinitY
      (X.room_calling (g := g) (R' := (headSpec ws rm).room) hsize hmY hcY hframes (by rw [hlY]; omega) h4 h5) h1
  obtain ⟨mid, hmid⟩ := h.above
  have hfr : (U.setTop g).frames = (.java g :: mid) ++ below := by rw [State.frames_setTop' g h.top, hmid]; rfl
  obtain ⟨o, s₂, hsteps, -, hend, hq⟩ := Steps.callFree hM p X.admits X.cas X.clock (acts := []) hfr happ hPc trivial
  have hq' : vx_Q Qc XC mc ms free a (U.calling g mk a) o s₂ := hq
  rw [State.frames_setTop' g h.top] at hend
  obtain ⟨g₀, hg0⟩ := Option.isSome_iff_exists.mp h.top
  obtain ⟨r, hr⟩ := State.topJava?_eq_some.mp hg0
  have hr' : (({ U with heap := s₂.heap, slotsUsed := s₂.slotsUsed } : State).setVm s₂.vm).frames = .java g₀ :: r := hr
  rcases hq' with ⟨hqc, L, hfe, hL⟩ | ⟨q, rfl, E, ce, L, hx, hce, hcv, hcl, hW₂, hsm, hL⟩
  · obtain ⟨⟨v, rfl⟩, hW₂, e2, q2, q3, q4, q5, q6⟩ := id hfe
    have e3 : s₂ = ({ (U.calling g mk a).setFrames s₂.frames with heap := s₂.heap, slotsUsed := s₂.slotsUsed } : State).setVm s₂.vm := by
      have : s₂ = ({ s₂ with vm := (U.calling g mk a).vm } : State).setVm s₂.vm := rfl
      rw [e2] at this
      exact this
    obtain ⟨c₂, i₂, len₂, hc₂, hd₂, hf₂⟩ := hend
    have hW' : U.WarmedH s₂.vm := hW₂
    have hcc : c₂ = c := by
      have h1 : s₂.code? g.method = U.code? g.method := by
        rw [State.code?_eq, State.code?_eq, hW'.alike.method?]
      exact Option.some.inj (hc₂.symm.trans (h1.trans h.code))
    subst hcc
    have hlen : len₂ = len := by rw [hdg] at hd₂; cases hd₂; rfl
    subst hlen
    have hs₂ : s₂ = (({ U with heap := s₂.heap, slotsUsed := s₂.slotsUsed } : State).setVm s₂.vm).setTop { g with pc := g.pc + len₂, stack := v.toList ++ g.stack } := by
      refine e3.trans ?_
      rw [hf₂, State.calling_eq h.top, State.setFrames_setFrames, State.setTop_of_frames _ hr', hr]
      rfl
    have hsame : U.sameButNew ({ U with heap := s₂.heap, slotsUsed := s₂.slotsUsed } : State) L mc ms := by
      refine ⟨?_, q2, q3, q4, q5, q6⟩
      obtain ⟨t, ht, -⟩ := State.frames_cons hr
      show ({ U with heap := s₂.heap, slotsUsed := s₂.slotsUsed } : State) = { U.setFrames U.frames with heap := s₂.heap, slotsUsed := s₂.slotsUsed }
      rw [State.setFrames_self ht]
    subst hg
    refine Or.inl ⟨v, ⟨(({ U with heap := s₂.heap, slotsUsed := s₂.slotsUsed } : State).setVm s₂.vm), Ls ++ L, c0 + mc, s0 + ms⟩,
      ⟨X.admits, X.cas, X.clock, X.frames, X.room, X.hears, X.method, X.code, (X.here.setHeapUsed s₂.heap s₂.slotsUsed).setVm hW'.alike, X.tail, State.WarmedH.trans X.warmed hW', X.limits, X.bytes, X.same.trans (hsame.setVm s.vm)⟩,
      ⟨g, mk, s₂, L, rfl, rfl, hqc, rfl, hL, rfl, rfl⟩, ?_⟩
    show Steps p.tables e below _ ((({ U with heap := s₂.heap, slotsUsed := s₂.slotsUsed } : State).setVm s₂.vm).setTop { g with pc := g.pc + len₂, stack := v.toList ++ g.stack })
    rw [← hs₂]
    exact hsteps
  · obtain ⟨e2, q2, q3, q4, q5, q6⟩ := id hsm
    have e3 : s₂ = ({ (U.calling g mk a).setFrames s₂.frames with heap := s₂.heap, slotsUsed := s₂.slotsUsed } : State).setVm s₂.vm := by
      have : s₂ = ({ s₂ with vm := (U.calling g mk a).vm } : State).setVm s₂.vm := rfl
      rw [e2] at this
      exact this
    have hf₂ : s₂.frames = .throwing q :: .java g :: U.frames.tail := hend
    have hW' : U.WarmedH s₂.vm := hW₂
    have hs₂ : s₂ = ((({ U with heap := s₂.heap, slotsUsed := s₂.slotsUsed } : State).setVm s₂.vm).setTop g).pushFrame (.throwing q) := by
      refine e3.trans ?_
      rw [hf₂, State.calling_eq h.top, State.setFrames_setFrames, State.pushFrame, State.frames_setTop _ hr', State.setTop_of_frames _ hr', State.setFrames_setFrames, hr]
      rfl
    have hsame : U.sameButNew ({ U with heap := s₂.heap, slotsUsed := s₂.slotsUsed } : State) L mc ms := by
      refine ⟨?_, q2, q3, q4, q5, q6⟩
      obtain ⟨t, ht, -⟩ := State.frames_cons hr
      show ({ U with heap := s₂.heap, slotsUsed := s₂.slotsUsed } : State) = { U.setFrames U.frames with heap := s₂.heap, slotsUsed := s₂.slotsUsed }
      rw [State.setFrames_self ht]
    subst hg
    refine Or.inr ⟨q, ⟨(({ U with heap := s₂.heap, slotsUsed := s₂.slotsUsed } : State).setVm s₂.vm), Ls ++ L, c0 + mc, s0 + ms⟩,
      ⟨X.admits, X.cas, X.clock, X.frames, X.room, X.hears, X.method, X.code, (X.here.setHeapUsed s₂.heap s₂.slotsUsed).setVm hW'.alike, X.tail, State.WarmedH.trans X.warmed hW', X.limits, X.bytes, X.same.trans (hsame.setVm s.vm)⟩,
      ⟨g, mk, s₂, L, E, ce, rfl, rfl, hx, hce, hcv, hcl, rfl, hL, rfl, rfl⟩, ?_⟩
    show Steps p.tables e below _ (((({ U with heap := s₂.heap, slotsUsed := s₂.slotsUsed } : State).setVm s₂.vm).setTop g).pushFrame (.throwing q))
    rw [← hs₂]
    exact hsteps
end
variable {p : Program} {l : Launch} {e : Env} {R : Room} {s : State} {m : MethodId} {args : Array Value} {below : List Frame} {meth : Method} {c : Code} {T : State} {H : Heap} {locs : List Loc} {cells slots : Nat}
theorem vx_callVX (X : Stand p l e R s m args below meth c T locs cells slots) (hexec : p.tables.exec = Jvm.exec) {own C : String} {index : Nat} {y : MethodName} {bytes : ByteArray} {maxL : Nat} {ret : Option FieldType} {hh : List (Nat × Nat × Nat × Nat)}
    (hown : s.vm.findClass own = some m.cls) (hlink : (Cond.methodLink own index y).before args s = true) (hinst : (Cond.instanceMethod y).before args s = true) (hsel : (Cond.selects C y y).before args s = true)
    (hcode : (Cond.codeWith y bytes maxL ret hh).before args s = true) (hy : y.cls ≠ "java/lang/invoke/MethodHandle" ∧ y.cls ≠ "java/lang/invoke/VarHandle")
    {W9 : Nat} {Pre : Pt → Array Value → Prop} {Post : Pt → Array Value → Option Value → Pt → Prop} {PostX : Pt → Array Value → Addr → Pt → Prop} (hK : vx_Back l R p e below s args y 3 W9 Pre Post PostX)
    {b : Addr} {cellB : Cell} (hcell : T.heap[b]? = some cellB) (hobj : cellB.vm.isStatics = false) (hcls : s.vm.findClass C = some cellB.cls)
    {g : JFrame} (hg : g.method = m) (hsize : g.locals.size = c.maxLocals) {argsL rest : List Value} (hlen : ∀ sig, parseMethodDescriptor y.desc = some sig → argsL.length = sig.parameters.length)
    (hstack : g.stack = argsL.reverse ++ .ref b :: rest) (hW : 2 * g.monitorRoom + (rest.map fun v => v.category).sum ≤ W9) (hdg : decode c.code g.pc = .ok (.invokevirtual index, 3))
    (hpre : ∀ vm₁, s.WarmedH vm₁ → Pre ⟨T.setVm vm₁, locs, cells, slots⟩ (Value.ref b :: argsL).toArray) :
    (∃ (v : Option Value) (vm₁ : Vm) (B : Pt), s.WarmedH vm₁ ∧ Stand p l e R s m args below meth c B.U B.locs B.cells B.slots ∧ Post ⟨T.setVm vm₁, locs, cells, slots⟩ (Value.ref b :: argsL).toArray v B ∧
      ∀ target, Steps p.tables e below (B.U.setTop { g with pc := g.pc + 3, stack := v.toList ++ rest }) target → Steps p.tables e below (T.setTop g) target) ∨
    (∃ (q : Addr) (vm₁ : Vm) (B : Pt), s.WarmedH vm₁ ∧ Stand p l e R s m args below meth c B.U B.locs B.cells B.slots ∧ PostX ⟨T.setVm vm₁, locs, cells, slots⟩ (Value.ref b :: argsL).toArray q B ∧
      Steps p.tables e below (T.setTop g) ((B.U.setTop { g with stack := rest }).pushFrame (.throwing q))) := by
  obtain ⟨mk, methM, hnamed, hmethM, hstM, habM⟩ := Cond.instanceMethod_spec hinst
  obtain ⟨m8, methM', cM, hn8, hmethM', -, -, -, -, -, -, hsigM⟩ := Cond.codeWith_spec hcode
  cases Option.some.inj (hn8.symm.trans hnamed)
  cases hmethM.symm.trans hmethM'
  obtain ⟨c2, r2, m2, q1, q2, q3, q4, kP, hkP, hkPi⟩ := Cond.selects_spec hsel
  cases hcls.symm.trans q1
  cases (State.methodFound?_of_named hnamed hy).symm.trans q2
  cases hnamed.symm.trans q3
  have hselP : selectMethod e.platform s.vm cellB.cls mk = .method mk := by rw [Launch.admits_selectMethod X.admits]; exact q4
  obtain ⟨vm₁, X₁, hstep₁⟩ := X.invokevirtual hexec hown hlink hnamed hmethM hstM hkP hkPi hy (a := b) (cell := cellB) hcell
    (fun z h => by rw [h] at hobj; cases hobj) hselP hmethM habM hkP hkPi (g := g) hg (argsL := argsL) (rest := rest) (hlen _ hsigM) hstack hdg
  rcases hK m meth c ⟨T.setVm vm₁, locs, cells, slots⟩ { g with stack := rest } (.invokevirtual index) mk (Value.ref b :: argsL).toArray X₁ hg hsize hdg hW (X₁.named hnamed) (hpre vm₁ X₁.warmed) with ⟨v, B, X', hpost, hsteps⟩ | ⟨q, B, X', hpost, hsteps⟩
  · exact Or.inl ⟨v, vm₁, B, X₁.warmed, X', hpost, fun target h => hstep₁ _ fun acts => by rw [doInvoke_state]; exact hsteps.trans h⟩
  · exact Or.inr ⟨q, vm₁, B, X₁.warmed, X', hpost, hstep₁ _ fun acts => by rw [doInvoke_state]; exact hsteps⟩
theorem vx_callSX (X : Stand p l e R s m args below meth c T locs cells slots) (hexec : p.tables.exec = Jvm.exec) {own : String} {index : Nat} {y : MethodName} {bytes : ByteArray} {maxL : Nat} {ret : Option FieldType} {hh : List (Nat × Nat × Nat × Nat)}
    (hown : s.vm.findClass own = some m.cls) (hlink : (Cond.methodLink own index y).before args s = true) (hstat : (Cond.static y).before args s = true) (hinit : (Cond.initialized y.cls).before args s = true)
    (hcode : (Cond.codeWith y bytes maxL ret hh).before args s = true) (hy : y.cls ≠ "java/lang/invoke/MethodHandle" ∧ y.cls ≠ "java/lang/invoke/VarHandle")
    {W9 : Nat} {Pre : Pt → Array Value → Prop} {Post : Pt → Array Value → Option Value → Pt → Prop} {PostX : Pt → Array Value → Addr → Pt → Prop} (hK : vx_Back l R p e below s args y 3 W9 Pre Post PostX)
    {g : JFrame} (hg : g.method = m) (hsize : g.locals.size = c.maxLocals) {argsL rest : List Value} (hlen : ∀ sig, parseMethodDescriptor y.desc = some sig → argsL.length = sig.parameters.length)
    (hstack : g.stack = argsL.reverse ++ rest) (hW : 2 * g.monitorRoom + (rest.map fun v => v.category).sum ≤ W9) (hdg : decode c.code g.pc = .ok (.invokestatic index, 3))
    (hpre : ∀ vm₁, s.WarmedH vm₁ → Pre ⟨T.setVm vm₁, locs, cells, slots⟩ argsL.toArray) :
    (∃ (v : Option Value) (vm₁ : Vm) (B : Pt), s.WarmedH vm₁ ∧ Stand p l e R s m args below meth c B.U B.locs B.cells B.slots ∧ Post ⟨T.setVm vm₁, locs, cells, slots⟩ argsL.toArray v B ∧
      ∀ target, Steps p.tables e below (B.U.setTop { g with pc := g.pc + 3, stack := v.toList ++ rest }) target → Steps p.tables e below (T.setTop g) target) ∨
    (∃ (q : Addr) (vm₁ : Vm) (B : Pt), s.WarmedH vm₁ ∧ Stand p l e R s m args below meth c B.U B.locs B.cells B.slots ∧ PostX ⟨T.setVm vm₁, locs, cells, slots⟩ argsL.toArray q B ∧
      Steps p.tables e below (T.setTop g) ((B.U.setTop { g with stack := rest }).pushFrame (.throwing q))) := by
  obtain ⟨mk, methM, cM, hnamed, hmethM, -, -, -, -, -, -, hsigM⟩ := Cond.codeWith_spec hcode
  have hstatic : methM.isStatic = true := Cond.static_spec hnamed hmethM hstat
  obtain ⟨kP, hkP, -⟩ := className_of_methodNamed hnamed
  have hinitP : kP.init = .initialized := Cond.initialized_spec (findClass_of_methodNamed hnamed) hkP hinit
  obtain ⟨vm₁, X₁, hstep₁⟩ := X.invokestatic hexec hown hlink hnamed hmethM hstatic hkP hinitP hy (g := g) hg (argsL := argsL) (rest := rest) (hlen _ hsigM) hstack hdg
  rcases hK m meth c ⟨T.setVm vm₁, locs, cells, slots⟩ { g with stack := rest } (.invokestatic index) mk argsL.toArray X₁ hg hsize hdg hW (X₁.named hnamed) (hpre vm₁ X₁.warmed) with ⟨v, B, X', hpost, hsteps⟩ | ⟨q, B, X', hpost, hsteps⟩
  · exact Or.inl ⟨v, vm₁, B, X₁.warmed, X', hpost, fun target h => hstep₁ _ fun acts => by rw [doInvoke_state]; exact hsteps.trans h⟩
  · exact Or.inr ⟨q, vm₁, B, X₁.warmed, X', hpost, hstep₁ _ fun acts => by rw [doInvoke_state]; exact hsteps⟩
theorem vx_callVW (X : Stand p l e R s m args below meth c T locs cells slots) (hexec : p.tables.exec = Jvm.exec) {own C : String} {index : Nat} {y : MethodName} {bytes : ByteArray} {maxL : Nat} {ret : Option FieldType} {hh : List (Nat × Nat × Nat × Nat)}
    (hown : s.vm.findClass own = some m.cls) (hlink : (Cond.methodLink own index y).before args s = true) (hinst : (Cond.instanceMethod y).before args s = true) (hsel : (Cond.selects C y y).before args s = true)
    (hcode : (Cond.codeWith y bytes maxL ret hh).before args s = true) (hy : y.cls ≠ "java/lang/invoke/MethodHandle" ∧ y.cls ≠ "java/lang/invoke/VarHandle")
    {W9 : Nat} {Pre : Pt → Array Value → Prop} {Post : Pt → Array Value → Option Value → Pt → Prop} (hK : Back l R p e below s args y 3 W9 Pre Post)
    {b : Addr} {cellB : Cell} (hcell : T.heap[b]? = some cellB) (hobj : cellB.vm.isStatics = false) (hcls : s.vm.findClass C = some cellB.cls)
    {g : JFrame} (hg : g.method = m) (hsize : g.locals.size = c.maxLocals) {argsL rest : List Value} (hlen : ∀ sig, parseMethodDescriptor y.desc = some sig → argsL.length = sig.parameters.length)
    (hstack : g.stack = argsL.reverse ++ .ref b :: rest) (hW : 2 * g.monitorRoom + (rest.map fun v => v.category).sum ≤ W9) (hdg : decode c.code g.pc = .ok (.invokevirtual index, 3))
    (hpre : ∀ vm₁, s.WarmedH vm₁ → Pre ⟨T.setVm vm₁, locs, cells, slots⟩ (Value.ref b :: argsL).toArray) :
    ∃ (v : Option Value) (vm₁ : Vm) (B : Pt), s.WarmedH vm₁ ∧ Stand p l e R s m args below meth c B.U B.locs B.cells B.slots ∧ Post ⟨T.setVm vm₁, locs, cells, slots⟩ (Value.ref b :: argsL).toArray v B ∧
      ∀ target, Steps p.tables e below (B.U.setTop { g with pc := g.pc + 3, stack := v.toList ++ rest }) target → Steps p.tables e below (T.setTop g) target := by
  obtain ⟨mk, methM, hnamed, hmethM, hstM, habM⟩ := Cond.instanceMethod_spec hinst
  obtain ⟨m8, methM', cM, hn8, hmethM', -, -, -, -, -, -, hsigM⟩ := Cond.codeWith_spec hcode
  cases Option.some.inj (hn8.symm.trans hnamed)
  cases hmethM.symm.trans hmethM'
  obtain ⟨c2, r2, m2, q1, q2, q3, q4, kP, hkP, hkPi⟩ := Cond.selects_spec hsel
  cases hcls.symm.trans q1
  cases (State.methodFound?_of_named hnamed hy).symm.trans q2
  cases hnamed.symm.trans q3
  have hselP : selectMethod e.platform s.vm cellB.cls mk = .method mk := by rw [Launch.admits_selectMethod X.admits]; exact q4
  obtain ⟨vm₁, X₁, hstep₁⟩ := X.invokevirtual hexec hown hlink hnamed hmethM hstM hkP hkPi hy (a := b) (cell := cellB) hcell
    (fun z h => by rw [h] at hobj; cases hobj) hselP hmethM habM hkP hkPi (g := g) hg (argsL := argsL) (rest := rest) (hlen _ hsigM) hstack hdg
  obtain ⟨v, B, X', hpost, hsteps⟩ := hK m meth c ⟨T.setVm vm₁, locs, cells, slots⟩ { g with stack := rest } (.invokevirtual index) mk (Value.ref b :: argsL).toArray X₁ hg hsize hdg hW (X₁.named hnamed) (hpre vm₁ X₁.warmed)
  exact ⟨v, vm₁, B, X₁.warmed, X', hpost, fun target h => hstep₁ _ fun acts => by rw [doInvoke_state]; exact hsteps.trans h⟩
abbrev vx_CVW (R : Room) (s : State) (args : Array Value) (own C : String) (index : Nat) (y : MethodName) (bytes : ByteArray) (maxL : Nat) (ret : Option FieldType) (hh : List (Nat × Nat × Nat × Nat)) (ws : List Cond) (rm : Room) (mc ms n : Nat) : Prop :=
  (rm.cells = mc ∧ rm.slots = ms ∧ rm.frames + 1 ≤ R.frames ∧ 8 + (maxL + 11) + rm.locals ≤ R.locals ∧ (∀ w ∈ ws, ∀ (a' : Array Value) (U : State), s.WarmedH U.vm → w.before a' U = true) ∧ Cond.codeWith y bytes maxL ret hh ∈ ws) ∧
  (Cond.codeWith y bytes maxL ret hh).before args s = true ∧ (Cond.initialized y.cls).before args s = true ∧ (y.cls ≠ "java/lang/invoke/MethodHandle" ∧ y.cls ≠ "java/lang/invoke/VarHandle") ∧
  (∀ sig, parseMethodDescriptor y.desc = some sig → n = sig.parameters.length) ∧ (Cond.methodLink own index y).before args s = true ∧ (Cond.instanceMethod y).before args s = true ∧ (Cond.selects C y y).before args s = true
theorem vx_cwVW {own C : String} {index maxL mc ms : Nat} {y : MethodName} {bytes : ByteArray} {ret : Option FieldType} {hh : List (Nat × Nat × Nat × Nat)} {Ts ws ws' : List Cond} {rm : Room} (n : Nat) (ht : ∀ w ∈ Ts, w.before args s = true) (hT : GoodIn Ts (wsV own index C y ws)) (hw : ws = Cond.codeWith y bytes maxL ret hh :: ws') (hrc : rm.cells = mc) (hrs : rm.slots = ms)
    (hd : y.cls = C ∧ y.cls ≠ "java/lang/invoke/MethodHandle" ∧ y.cls ≠ "java/lang/invoke/VarHandle" ∧ (parseMethodDescriptor y.desc).map (fun d => d.parameters.length) = some n) (hR : rm.frames + 1 ≤ R.frames ∧ 8 + (maxL + 11) + rm.locals ≤ R.locals) :
    vx_CVW R s args own C index y bytes maxL ret hh ws rm mc ms n := by
  obtain ⟨hC, hd⟩ := hd
  subst hC
  have ok : ∀ w ∈ wsV own index y.cls y ws, w.before args s = true := fun w h => ht w (hT w h).1
  have hG : GoodIn Ts ws := fun w h => hT w (by unfold wsV; exact List.mem_append_right _ h)
  have hc : Cond.codeWith y bytes maxL ret hh ∈ ws := by rw [hw]; exact List.mem_cons_self
  refine ⟨⟨hrc, hrs, hR.1, hR.2, pay_in ht hG, hc⟩, ht _ (hG _ hc).1, ok _ (by simp [wsV]), ⟨hd.1, hd.2.1⟩, fun sig h => ?_, ok _ (by simp [wsV]), ok _ (by simp [wsV]), ok _ (by simp [wsV])⟩
  have h2 := hd.2.2
  rw [h] at h2
  exact (Option.some.inj h2).symm
theorem vx_runVW {y : MethodName} {bytes cc : ByteArray} {maxL nL mc ms n index : Nat} {ret : Option FieldType} {hh : List (Nat × Nat × Nat × Nat)} {ws : List Cond} {rm : Room} {Pc : Array Value → State → Prop} {Qc : Array Value → State → Outcome → State → Prop} {free : Addr → Prop} {Ts : List Cond} {own C : String} {b : Addr} {As rest : List Value} {g : JFrame}
    (S : CallFix p m c cc nL s args Ts own) (hM : Met l y ws rm Pc Qc mc ms free) (cw : vx_CVW R s args own C index y bytes maxL ret hh ws rm mc ms n) (hp : PreV s H C b Pc As)
    (hg : g.method = m) (hn : As.length = n) (hsize : g.locals.size = nL) (hstack : g.stack = As.reverse ++ .ref b :: rest) (hW : 2 * g.monitorRoom + (rest.map fun v => v.category).sum ≤ 8) (hdg : decode cc g.pc = .ok (.invokevirtual index, 3)) (hf : cells + mc ≤ R.cells ∧ slots + ms ≤ R.slots) :
    va_Run p l e R s m args below meth c H locs cells slots mc ms g rest (Qc (Value.ref b :: As).toArray) free := by
  obtain ⟨⟨hrc, hrs, hfr, hlo, hws, hcw⟩, hcode, hini, hy, hlen, hl, hin, hse⟩ := cw
  have hK : Back l R p e below s args y 3 8 (PreOf R mc ms Pc) (PostOf Qc mc ms free) := va_backW (hh := hh) (bytes := bytes) (maxL := maxL) (ret := ret) hM hp.1 hrc hrs hfr hlo hws hcw (fun a' U hW => word_at hW (Or.inl (by first | rfl | simp [Cond.onTables, Cond.keeps, Cond.steady])) hini)
  obtain ⟨hx, hb, hml, ho, -⟩ := S
  obtain ⟨-, ⟨cellB, hcB, hoB, hclB⟩, hPc⟩ := hp
  intro T hT X
  obtain ⟨v, vm₁, ⟨U', l2, c2, s2⟩, hW₁, X', ⟨g', mk, t, L, e1, e2, hq, h1, hL, h2, h3⟩, st⟩ := vx_callVW X hx (C := C) (hh := hh) (bytes := bytes) (maxL := maxL) (ret := ret) ho hl hin hse hcode hy hK (by rw [hT]; exact hcB) hoB hclB hg (hsize.trans hml.symm) (argsL := As) (rest := rest) (fun sig h => hn.trans (hlen sig h)) hstack hW (by rw [hb]; exact hdg)
    (fun vm₁ hW₁ => ⟨hf.1, hf.2, hPc (T.setVm vm₁) hT hW₁⟩)
  dsimp only [Pt.U, Pt.locs, Pt.cells, Pt.slots] at X' e1 e2 h1 h2 h3 st
  subst h1; subst h2; subst h3
  exact ⟨v, (T.setVm vm₁).calling g' mk (Value.ref b :: As).toArray, t, U', L, hT, X', hL, e1, e2, hq, st⟩
section
variable {y : MethodName} {bytes cc : ByteArray} {maxL nL mc ms n index : Nat} {ret : Option FieldType} {ws : List Cond} {rm : Room} {Pc : Array Value → State → Prop} {Qc : Array Value → State → Outcome → State → Prop} {XC : String → State → State → Prop} {free : Addr → Prop} {Ts : List Cond} {own C : String} {b : Addr} {As rest : List Value} {g : JFrame}
theorem vx_runVX {hh : List (Nat × Nat × Nat × Nat)} (S : CallFix p m c cc nL s args Ts own) (hM : vx_Met l y ws rm Pc Qc XC mc ms free) (cw : vx_CVW R s args own C index y bytes maxL ret hh ws rm mc ms n) (hp : PreV s H C b Pc As)
    (hg : g.method = m) (hn : As.length = n) (hsize : g.locals.size = nL) (hstack : g.stack = As.reverse ++ .ref b :: rest) (hW : 2 * g.monitorRoom + (rest.map fun v => v.category).sum ≤ 8) (hdg : decode cc g.pc = .ok (.invokevirtual index, 3)) (hf : cells + mc ≤ R.cells ∧ slots + ms ≤ R.slots) :
    vx_Run p l e R s m args below meth c H locs cells slots mc ms g rest (Qc (Value.ref b :: As).toArray) XC free := by
  obtain ⟨⟨hrc, hrs, hfr, hlo, hws, hcw⟩, hcode, hini, hy, hlen, hl, hin, hse⟩ := cw
  have hK : vx_Back l R p e below s args y 3 8 (PreOf R mc ms Pc) (PostOf Qc mc ms free) (vx_Post XC mc ms free) := vx_backW (hh := hh) (bytes := bytes) (maxL := maxL) (ret := ret) hM hp.1 hrc hrs hfr hlo hws hcw (fun a' U hW => word_at hW (Or.inl (by first | rfl | simp [Cond.onTables, Cond.keeps, Cond.steady])) hini)
  obtain ⟨hx, hb, hml, ho, -⟩ := S
  obtain ⟨-, ⟨cellB, hcB, hoB, hclB⟩, hPc⟩ := hp
  intro T hT X
  rcases vx_callVX X hx (C := C) (hh := hh) (bytes := bytes) (maxL := maxL) (ret := ret) ho hl hin hse hcode hy hK (by rw [hT]; exact hcB) hoB hclB hg (hsize.trans hml.symm) (argsL := As) (rest := rest) (fun sig h => hn.trans (hlen sig h)) hstack hW (by rw [hb]; exact hdg)
    (fun vm₁ hW₁ => ⟨hf.1, hf.2, hPc (T.setVm vm₁) hT hW₁⟩) with ⟨v, vm₁, ⟨U', l2, c2, s2⟩, hW₁, X', ⟨g', mk, t, L, e1, e2, hq, h1, hL, h2, h3⟩, st⟩ | ⟨q, vm₁, ⟨U', l2, c2, s2⟩, hW₁, X', ⟨g', mk, t, L, E, ce, e1, e2, hq, hce, hcv, hcl, h1, hL, h2, h3⟩, st⟩
  · dsimp only [Pt.U, Pt.locs, Pt.cells, Pt.slots] at X' e1 e2 h1 h2 h3 st
    subst h1; subst h2; subst h3
    exact Or.inl ⟨v, (T.setVm vm₁).calling g' mk (Value.ref b :: As).toArray, t, U', L, hT, X', hL, e1, e2, hq, st⟩
  · dsimp only [Pt.U, Pt.locs, Pt.cells, Pt.slots] at X' e1 e2 h1 h2 h3 st hcl
    subst h1; subst h2; subst h3
    exact Or.inr ⟨q, (T.setVm vm₁).calling g' mk (Value.ref b :: As).toArray, t, U', L, E, ce, hT, X', hL, e1, e2, hq, hce, hcv, vx_cls hW₁ hcl, st⟩
theorem vx_runSX {hh : List (Nat × Nat × Nat × Nat)} (S : CallFix p m c cc nL s args Ts own) (hM : vx_Met l y ws rm Pc Qc XC mc ms free) (cw : vx_CSW R s args own index y bytes maxL ret hh ws rm mc ms n) (hp : PreS s H Pc As)
    (hg : g.method = m) (hn : As.length = n) (hsize : g.locals.size = nL) (hstack : g.stack = As.reverse ++ rest) (hW : 2 * g.monitorRoom + (rest.map fun v => v.category).sum ≤ 8) (hdg : decode cc g.pc = .ok (.invokestatic index, 3)) (hf : cells + mc ≤ R.cells ∧ slots + ms ≤ R.slots) :
    vx_Run p l e R s m args below meth c H locs cells slots mc ms g rest (Qc As.toArray) XC free := by
  obtain ⟨⟨hrc, hrs, hfr, hlo, hws, hcw⟩, hcode, hini, hy, hlen, hl, hstt⟩ := cw
  have hK : vx_Back l R p e below s args y 3 8 (PreOf R mc ms Pc) (PostOf Qc mc ms free) (vx_Post XC mc ms free) := vx_backW (hh := hh) (bytes := bytes) (maxL := maxL) (ret := ret) hM hp.1 hrc hrs hfr hlo hws hcw (fun a' U hW => word_at hW (Or.inl (by first | rfl | simp [Cond.onTables, Cond.keeps, Cond.steady])) hini)
  obtain ⟨hx, hb, hml, ho, -⟩ := S
  intro T hT X
  rcases vx_callSX X hx (hh := hh) (bytes := bytes) (maxL := maxL) (ret := ret) ho hl hstt hini hcode hy hK hg (hsize.trans hml.symm) (argsL := As) (rest := rest) (fun sig h => hn.trans (hlen sig h)) hstack hW (by rw [hb]; exact hdg)
    (fun vm₁ hW₁ => ⟨hf.1, hf.2, hp.2 (T.setVm vm₁) hT hW₁⟩) with ⟨v, vm₁, ⟨U', l2, c2, s2⟩, hW₁, X', ⟨g', mk, t, L, e1, e2, hq, h1, hL, h2, h3⟩, st⟩ | ⟨q, vm₁, ⟨U', l2, c2, s2⟩, hW₁, X', ⟨g', mk, t, L, E, ce, e1, e2, hq, hce, hcv, hcl, h1, hL, h2, h3⟩, st⟩
  · dsimp only [Pt.U, Pt.locs, Pt.cells, Pt.slots] at X' e1 e2 h1 h2 h3 st
    subst h1; subst h2; subst h3
    exact Or.inl ⟨v, (T.setVm vm₁).calling g' mk As.toArray, t, U', L, hT, X', hL, e1, e2, hq, st⟩
  · dsimp only [Pt.U, Pt.locs, Pt.cells, Pt.slots] at X' e1 e2 h1 h2 h3 st hcl
    subst h1; subst h2; subst h3
    exact Or.inr ⟨q, (T.setVm vm₁).calling g' mk As.toArray, t, U', L, E, ce, hT, X', hL, e1, e2, hq, hce, hcv, vx_cls hW₁ hcl, st⟩
end
end VXH
theorem vx_ofWH {l : Launch} {y : MethodName} {ws ws' : List Cond} {rm : Room} {Pc : Array Value → State → Prop} {Qc : Array Value → State → Outcome → State → Prop} {XC : String → State → State → Prop} {mc ms : Nat} {free : Addr → Prop} {cc : ByteArray} {maxL : Nat} {ret : Option FieldType} {hh : List (Nat × Nat × Nat × Nat)}
    (hy : plainName y.cls = true) (hw : ws = Cond.codeWith y cc maxL ret hh :: ws')
    (body : ∀ p e s m args below meth c s₁, BodyLoose p l y (headSpec ws rm) cc maxL ret e s m args below meth c s₁ → c.maxLocals = maxL → Pc args s →
      W p l e (headSpec ws rm).room s m args below meth c s.heap [] 0 0 (vx_MQ below Qc XC args s mc ms free) (entryFrame m args maxL)) : vx_Met l y ws rm Pc Qc XC mc ms free := by
  refine MetFree.of_bodyS (code := cc) (maxLocals := maxL) (ret := ret) hy ?_ ?_
  · intro args s m h hn
    obtain ⟨m9, meth, c, hn9, h1, h2, h3, h4, -, h5, h6, -⟩ := Cond.codeWith_spec (atoms_spec (ws := ws) h _ (by rw [hw]; exact List.mem_cons_self))
    cases hn.symm.trans hn9
    exact ⟨meth, c, h1, h2, h3, h4, h5, h6⟩
  · intro p e s m args below meth c s₁ B hml hP _
    have hh0 : s₁.heap = s.heap := by rw [B.state]; rfl
    obtain ⟨t, a1, o, b1, b2, b3⟩ := body p e s m args below meth c s₁ B hml hP s₁ hh0 (Stand.of_body B)
    exact ⟨t, o, a1, b1, b2, b3⟩
/-! ===== END ===== -/
end
section
def RX0 : String := "TrackHouse$Bulks"
def TX0 : u_T := fun k => match k with
  | 0 => ("TrackHouse$Bulks", "people", "[I", true)
  | 1 => ("TrackHouse$Bulks", "fields", "[I", true)
  | 2 => ("TrackHouse$Bulks", "firsts", "[I", true)
  | 3 => ("TrackHouse$Bulks", "counts", "[I", true)
  | _ => ("TrackHouse$Bulks", "size", "I", false)
def tyX0 : Nat → FieldType := fun k => match k with
  | 0 => .array .int
  | 1 => .array .int
  | 2 => .array .int
  | 3 => .array .int
  | _ => .int
abbrev wsX00 : List Cond := u_ws RX0 TX0 5
theorem nmX0 : ∀ a, a < 5 → ∀ b, b < 5 → a ≠ b → (TX0 a).2.1 ≠ (TX0 b).2.1 := by decide +kernel
theorem tyX0_ok : ∀ k, k < 5 → parseFieldDescriptor (TX0 k).2.2.1 = some (tyX0 k) := by decide +kernel
abbrev cX0_init : ByteArray := prog_2_method_1_code
def yX0_init : MethodName := ⟨RX0, "<init>", "()V"⟩
def RX1 : String := "TrackHouse$Finder"
def TX1 : u_T := fun k => match k with
  | 0 => ("TrackHouse$Finder", "sets", "[I", true)
  | 1 => ("TrackHouse$Finder", "query", "LTrackHouse$Query;", true)
  | 2 => ("TrackHouse$Finder", "view", "LTrackHouse$View;", true)
  | _ => ("TrackHouse$Finder", "sight", "LTrackHouse$Sight;", true)
def tyX1 : Nat → FieldType := fun k => match k with
  | 0 => .array .int
  | 1 => .object "TrackHouse$Query"
  | 2 => .object "TrackHouse$View"
  | _ => .object "TrackHouse$Sight"
abbrev wsX10 : List Cond := u_ws RX1 TX1 4
theorem nmX1 : ∀ a, a < 4 → ∀ b, b < 4 → a ≠ b → (TX1 a).2.1 ≠ (TX1 b).2.1 := by decide +kernel
theorem tyX1_ok : ∀ k, k < 4 → parseFieldDescriptor (TX1 k).2.2.1 = some (tyX1 k) := by decide +kernel
abbrev cX1_init : ByteArray := prog_3_method_1_code
def yX1_init : MethodName := ⟨RX1, "<init>", "()V"⟩
abbrev cX1_hits : ByteArray := prog_3_method_2_code
def yX1_hits : MethodName := ⟨RX1, "hits", "()I"⟩
abbrev cX1_isOfOne : ByteArray := prog_3_method_3_code
def yX1_isOfOne : MethodName := ⟨RX1, "isOfOne", "(I)Z"⟩
abbrev cX1_related : ByteArray := prog_3_method_4_code
def yX1_related : MethodName := ⟨RX1, "related", "(III)I"⟩
abbrev cX1_leaves : ByteArray := prog_3_method_5_code
def yX1_leaves : MethodName := ⟨RX1, "leaves", "(I)I"⟩
abbrev cX1_compares : ByteArray := prog_3_method_6_code
def yX1_compares : MethodName := ⟨RX1, "compares", "(II)Z"⟩
abbrev cX1_holds : ByteArray := prog_3_method_7_code
def yX1_holds : MethodName := ⟨RX1, "holds", "(II)Z"⟩
def RX2 : String := "TrackHouse$Flows"
def TX2 : u_T := fun k => match k with
  | 0 => ("TrackHouse$Flows", "states", "[I", true)
  | 1 => ("TrackHouse$Flows", "counts", "[I", true)
  | 2 => ("TrackHouse$Flows", "parts", "[I", true)
  | 3 => ("TrackHouse$Flows", "mapped", "[I", true)
  | _ => ("TrackHouse$Flows", "drafted", "I", false)
def tyX2 : Nat → FieldType := fun k => match k with
  | 0 => .array .int
  | 1 => .array .int
  | 2 => .array .int
  | 3 => .array .int
  | _ => .int
abbrev wsX20 : List Cond := u_ws RX2 TX2 5
theorem nmX2 : ∀ a, a < 5 → ∀ b, b < 5 → a ≠ b → (TX2 a).2.1 ≠ (TX2 b).2.1 := by decide +kernel
theorem tyX2_ok : ∀ k, k < 5 → parseFieldDescriptor (TX2 k).2.2.1 = some (tyX2 k) := by decide +kernel
abbrev cX2_init : ByteArray := prog_4_method_1_code
def yX2_init : MethodName := ⟨RX2, "<init>", "()V"⟩
abbrev cX2_has : ByteArray := prog_4_method_2_code
def yX2_has : MethodName := ⟨RX2, "has", "(II)Z"⟩
abbrev cX2_part : ByteArray := prog_4_method_3_code
def yX2_part : MethodName := ⟨RX2, "part", "(III)I"⟩
abbrev cX2_setPart : ByteArray := prog_4_method_4_code
def yX2_setPart : MethodName := ⟨RX2, "setPart", "(III)V"⟩
abbrev cX2_setEnds : ByteArray := prog_4_method_5_code
def yX2_setEnds : MethodName := ⟨RX2, "setEnds", "(III)V"⟩
abbrev cX2_setTerms : ByteArray := prog_4_method_6_code
def yX2_setTerms : MethodName := ⟨RX2, "setTerms", "(IIIII)V"⟩
abbrev cX2_begin : ByteArray := prog_4_method_7_code
def yX2_begin : MethodName := ⟨RX2, "begin", "(I)V"⟩
abbrev cX2_add : ByteArray := prog_4_method_8_code
def yX2_add : MethodName := ⟨RX2, "add", "(I)V"⟩
abbrev cX2_mappedFrom : ByteArray := prog_4_method_10_code
def yX2_mappedFrom : MethodName := ⟨RX2, "mappedFrom", "(I)I"⟩
abbrev cX2_exchange : ByteArray := prog_4_method_11_code
def yX2_exchange : MethodName := ⟨RX2, "exchange", "(I)V"⟩
abbrev cX2_swap : ByteArray := prog_4_method_12_code
def yX2_swap : MethodName := ⟨RX2, "swap", "([III)V"⟩
def RX3 : String := "TrackHouse$Kinds"
def TX3 : u_T := fun k => match k with
  | 0 => ("TrackHouse$Kinds", "fields", "[I", true)
  | 1 => ("TrackHouse$Kinds", "ways", "[I", true)
  | 2 => ("TrackHouse$Kinds", "overs", "[I", true)
  | 3 => ("TrackHouse$Kinds", "days", "[I", true)
  | 4 => ("TrackHouse$Kinds", "runs", "[I", true)
  | _ => ("TrackHouse$Kinds", "goals", "[I", true)
def tyX3 : Nat → FieldType := fun k => match k with
  | 0 => .array .int
  | 1 => .array .int
  | 2 => .array .int
  | 3 => .array .int
  | 4 => .array .int
  | _ => .array .int
abbrev wsX30 : List Cond := u_ws RX3 TX3 6
theorem nmX3 : ∀ a, a < 6 → ∀ b, b < 6 → a ≠ b → (TX3 a).2.1 ≠ (TX3 b).2.1 := by decide +kernel
theorem tyX3_ok : ∀ k, k < 6 → parseFieldDescriptor (TX3 k).2.2.1 = some (tyX3 k) := by decide +kernel
abbrev cX3_init : ByteArray := prog_5_method_1_code
def yX3_init : MethodName := ⟨RX3, "<init>", "()V"⟩
abbrev cX3_has : ByteArray := prog_5_method_2_code
def yX3_has : MethodName := ⟨RX3, "has", "(II)Z"⟩
def RX4 : String := "TrackHouse$Log"
def TX4 : u_T := fun k => match k with
  | 0 => ("TrackHouse$Log", "days", "[I", true)
  | 1 => ("TrackHouse$Log", "bys", "[I", true)
  | 2 => ("TrackHouse$Log", "items", "[I", true)
  | 3 => ("TrackHouse$Log", "whats", "[I", true)
  | 4 => ("TrackHouse$Log", "others", "[I", true)
  | 5 => ("TrackHouse$Log", "befores", "[I", true)
  | 6 => ("TrackHouse$Log", "afters", "[I", true)
  | _ => ("TrackHouse$Log", "size", "I", false)
def tyX4 : Nat → FieldType := fun k => match k with
  | 0 => .array .int
  | 1 => .array .int
  | 2 => .array .int
  | 3 => .array .int
  | 4 => .array .int
  | 5 => .array .int
  | 6 => .array .int
  | _ => .int
abbrev wsX40 : List Cond := u_ws RX4 TX4 8
theorem nmX4 : ∀ a, a < 8 → ∀ b, b < 8 → a ≠ b → (TX4 a).2.1 ≠ (TX4 b).2.1 := by decide +kernel
theorem tyX4_ok : ∀ k, k < 8 → parseFieldDescriptor (TX4 k).2.2.1 = some (tyX4 k) := by decide +kernel
abbrev cX4_init : ByteArray := prog_6_method_1_code
def yX4_init : MethodName := ⟨RX4, "<init>", "()V"⟩
abbrev cX4_add : ByteArray := prog_6_method_2_code
def yX4_add : MethodName := ⟨RX4, "add", "(IIIIIII)V"⟩
def RX5 : String := "TrackHouse$Query"
def TX5 : u_T := fun k => match k with
  | 0 => ("TrackHouse$Query", "text", "[C", true)
  | 1 => ("TrackHouse$Query", "codes", "[I", true)
  | 2 => ("TrackHouse$Query", "firsts", "[I", true)
  | 3 => ("TrackHouse$Query", "seconds", "[I", true)
  | 4 => ("TrackHouse$Query", "thirds", "[I", true)
  | 5 => ("TrackHouse$Query", "opened", "[I", true)
  | 6 => ("TrackHouse$Query", "openedTypes", "[I", true)
  | 7 => ("TrackHouse$Query", "length", "I", false)
  | 8 => ("TrackHouse$Query", "size", "I", false)
  | 9 => ("TrackHouse$Query", "depth", "I", false)
  | 10 => ("TrackHouse$Query", "place", "I", false)
  | _ => ("TrackHouse$Query", "isDue", "Z", false)
def tyX5 : Nat → FieldType := fun k => match k with
  | 0 => .array .char
  | 1 => .array .int
  | 2 => .array .int
  | 3 => .array .int
  | 4 => .array .int
  | 5 => .array .int
  | 6 => .array .int
  | 7 => .int
  | 8 => .int
  | 9 => .int
  | 10 => .int
  | _ => .boolean
abbrev wsX50 : List Cond := u_ws RX5 TX5 12
theorem nmX5 : ∀ a, a < 12 → ∀ b, b < 12 → a ≠ b → (TX5 a).2.1 ≠ (TX5 b).2.1 := by decide +kernel
theorem tyX5_ok : ∀ k, k < 12 → parseFieldDescriptor (TX5 k).2.2.1 = some (tyX5 k) := by decide +kernel
abbrev cX5_init : ByteArray := prog_7_method_1_code
def yX5_init : MethodName := ⟨RX5, "<init>", "()V"⟩
abbrev cX5_append : ByteArray := prog_7_method_2_code
def yX5_append : MethodName := ⟨RX5, "append", "(C)I"⟩
abbrev cX5_compile : ByteArray := prog_7_method_3_code
def yX5_compile : MethodName := ⟨RX5, "compile", "()I"⟩
abbrev cX5_sign : ByteArray := prog_7_method_4_code
def yX5_sign : MethodName := ⟨RX5, "sign", "()C"⟩
abbrev cX5_takes : ByteArray := prog_7_method_5_code
def yX5_takes : MethodName := ⟨RX5, "takes", "(C)Z"⟩
abbrev cX5_digit : ByteArray := prog_7_method_6_code
def yX5_digit : MethodName := ⟨RX5, "digit", "(I)I"⟩
abbrev cX5_beginsWell : ByteArray := prog_7_method_7_code
def yX5_beginsWell : MethodName := ⟨RX5, "beginsWell", "()Z"⟩
abbrev cX5_opensTyped : ByteArray := prog_7_method_8_code
def yX5_opensTyped : MethodName := ⟨RX5, "opensTyped", "(CI)Z"⟩
abbrev cX5_endsWithTwo : ByteArray := prog_7_method_9_code
def yX5_endsWithTwo : MethodName := ⟨RX5, "endsWithTwo", "(CI)Z"⟩
abbrev cX5_compares : ByteArray := prog_7_method_10_code
def yX5_compares : MethodName := ⟨RX5, "compares", "(I)Z"⟩
abbrev cX5_opens : ByteArray := prog_7_method_11_code
def yX5_opens : MethodName := ⟨RX5, "opens", "(CI)Z"⟩
abbrev cX5_ends : ByteArray := prog_7_method_12_code
def yX5_ends : MethodName := ⟨RX5, "ends", "(IIII)Z"⟩
abbrev cX5_add : ByteArray := prog_7_method_13_code
def yX5_add : MethodName := ⟨RX5, "add", "(IIII)V"⟩
abbrev cX5_goesOnWell : ByteArray := prog_7_method_14_code
def yX5_goesOnWell : MethodName := ⟨RX5, "goesOnWell", "()Z"⟩
abbrev cX5_closes : ByteArray := prog_7_method_15_code
def yX5_closes : MethodName := ⟨RX5, "closes", "(I)Z"⟩
def RX6 : String := "TrackHouse$Ranks"
def TX6 : u_T := fun k => match k with
  | 0 => ("TrackHouse$Ranks", "ranks", "[I", true)
  | 1 => ("TrackHouse$Ranks", "anew", "[I", true)
  | _ => ("TrackHouse$Ranks", "size", "I", false)
def tyX6 : Nat → FieldType := fun k => match k with
  | 0 => .array .int
  | 1 => .array .int
  | _ => .int
abbrev wsX60 : List Cond := u_ws RX6 TX6 3
theorem nmX6 : ∀ a, a < 3 → ∀ b, b < 3 → a ≠ b → (TX6 a).2.1 ≠ (TX6 b).2.1 := by decide +kernel
theorem tyX6_ok : ∀ k, k < 3 → parseFieldDescriptor (TX6 k).2.2.1 = some (tyX6 k) := by decide +kernel
abbrev cX6_init : ByteArray := prog_8_method_1_code
def yX6_init : MethodName := ⟨RX6, "<init>", "()V"⟩
abbrev cX6_append : ByteArray := prog_8_method_2_code
def yX6_append : MethodName := ⟨RX6, "append", "(I)V"⟩
def RX7 : String := "TrackHouse$Rules"
def TX7 : u_T := fun k => match k with
  | 0 => ("TrackHouse$Rules", "triggers", "[I", true)
  | 1 => ("TrackHouse$Rules", "whats", "[I", true)
  | 2 => ("TrackHouse$Rules", "targets", "[I", true)
  | 3 => ("TrackHouse$Rules", "columns", "[I", true)
  | 4 => ("TrackHouse$Rules", "values", "[I", true)
  | 5 => ("TrackHouse$Rules", "kinds", "[I", true)
  | 6 => ("TrackHouse$Rules", "fields", "[I", true)
  | 7 => ("TrackHouse$Rules", "leasts", "[I", true)
  | _ => ("TrackHouse$Rules", "size", "I", false)
def tyX7 : Nat → FieldType := fun k => match k with
  | 0 => .array .int
  | 1 => .array .int
  | 2 => .array .int
  | 3 => .array .int
  | 4 => .array .int
  | 5 => .array .int
  | 6 => .array .int
  | 7 => .array .int
  | _ => .int
abbrev wsX70 : List Cond := u_ws RX7 TX7 9
theorem nmX7 : ∀ a, a < 9 → ∀ b, b < 9 → a ≠ b → (TX7 a).2.1 ≠ (TX7 b).2.1 := by decide +kernel
theorem tyX7_ok : ∀ k, k < 9 → parseFieldDescriptor (TX7 k).2.2.1 = some (tyX7 k) := by decide +kernel
abbrev cX7_init : ByteArray := prog_9_method_1_code
def yX7_init : MethodName := ⟨RX7, "<init>", "()V"⟩
abbrev cX7_isCause : ByteArray := prog_9_method_5_code
def yX7_isCause : MethodName := ⟨RX7, "isCause", "(III)Z"⟩
def RX8 : String := "TrackHouse$Sight"
def TX8 : u_T := fun k => match k with
  | 0 => ("TrackHouse$Sight", "seers", "[I", true)
  | 1 => ("TrackHouse$Sight", "editors", "[I", true)
  | 2 => ("TrackHouse$Sight", "cleared", "[I", true)
  | 3 => ("TrackHouse$Sight", "readers", "[I", true)
  | 4 => ("TrackHouse$Sight", "readable", "[I", true)
  | 5 => ("TrackHouse$Sight", "told", "[I", true)
  | 6 => ("TrackHouse$Sight", "kinds", "LTrackHouse$Kinds;", true)
  | 7 => ("TrackHouse$Sight", "world", "LTrackHouse$World;", false)
  | 8 => ("TrackHouse$Sight", "seen", "I", false)
  | _ => ("TrackHouse$Sight", "edited", "I", false)
def tyX8 : Nat → FieldType := fun k => match k with
  | 0 => .array .int
  | 1 => .array .int
  | 2 => .array .int
  | 3 => .array .int
  | 4 => .array .int
  | 5 => .array .int
  | 6 => .object "TrackHouse$Kinds"
  | 7 => .object "TrackHouse$World"
  | 8 => .int
  | _ => .int
abbrev wsX80 : List Cond := u_ws RX8 TX8 10
theorem nmX8 : ∀ a, a < 10 → ∀ b, b < 10 → a ≠ b → (TX8 a).2.1 ≠ (TX8 b).2.1 := by decide +kernel
theorem tyX8_ok : ∀ k, k < 10 → parseFieldDescriptor (TX8 k).2.2.1 = some (tyX8 k) := by decide +kernel
abbrev cX8_init : ByteArray := prog_10_method_1_code
def yX8_init : MethodName := ⟨RX8, "<init>", "()V"⟩
abbrev cX8_look : ByteArray := prog_10_method_2_code
def yX8_look : MethodName := ⟨RX8, "look", "(LTrackHouse$World;I)V"⟩
abbrev cX8_lookAt : ByteArray := prog_10_method_3_code
def yX8_lookAt : MethodName := ⟨RX8, "lookAt", "(II)V"⟩
abbrev cX8_tell : ByteArray := prog_10_method_4_code
def yX8_tell : MethodName := ⟨RX8, "tell", "(II)V"⟩
abbrev cX8_sees : ByteArray := prog_10_method_5_code
def yX8_sees : MethodName := ⟨RX8, "sees", "(I)Z"⟩
abbrev cX8_canEdit : ByteArray := prog_10_method_6_code
def yX8_canEdit : MethodName := ⟨RX8, "canEdit", "(I)Z"⟩
abbrev cX8_canRead : ByteArray := prog_10_method_7_code
def yX8_canRead : MethodName := ⟨RX8, "canRead", "(II)Z"⟩
abbrev cX8_value : ByteArray := prog_10_method_8_code
def yX8_value : MethodName := ⟨RX8, "value", "(II)I"⟩
abbrev cX8_computed : ByteArray := prog_10_method_9_code
def yX8_computed : MethodName := ⟨RX8, "computed", "(I)I"⟩
abbrev cX8_total : ByteArray := prog_10_method_10_code
def yX8_total : MethodName := ⟨RX8, "total", "(II)I"⟩
def RX9 : String := "TrackHouse$View"
def TX9 : u_T := fun k => match k with
  | 0 => ("TrackHouse$View", "world", "LTrackHouse$World;", true)
  | 1 => ("TrackHouse$View", "been", "[I", true)
  | 2 => ("TrackHouse$View", "came", "[I", true)
  | 3 => ("TrackHouse$View", "lastBys", "[I", true)
  | 4 => ("TrackHouse$View", "lastDays", "[I", true)
  | _ => ("TrackHouse$View", "day", "I", false)
def tyX9 : Nat → FieldType := fun k => match k with
  | 0 => .object "TrackHouse$World"
  | 1 => .array .int
  | 2 => .array .int
  | 3 => .array .int
  | 4 => .array .int
  | _ => .int
abbrev wsX90 : List Cond := u_ws RX9 TX9 6
theorem nmX9 : ∀ a, a < 6 → ∀ b, b < 6 → a ≠ b → (TX9 a).2.1 ≠ (TX9 b).2.1 := by decide +kernel
theorem tyX9_ok : ∀ k, k < 6 → parseFieldDescriptor (TX9 k).2.2.1 = some (tyX9 k) := by decide +kernel
abbrev cX9_init : ByteArray := prog_11_method_1_code
def yX9_init : MethodName := ⟨RX9, "<init>", "()V"⟩
abbrev cX9_readUpTo : ByteArray := prog_11_method_2_code
def yX9_readUpTo : MethodName := ⟨RX9, "readUpTo", "(LTrackHouse$Log;I)V"⟩
abbrev cX9_readIndexed : ByteArray := prog_11_method_3_code
def yX9_readIndexed : MethodName := ⟨RX9, "readIndexed", "(LTrackHouse$Log;III)V"⟩
abbrev cX9_read : ByteArray := prog_11_method_4_code
def yX9_read : MethodName := ⟨RX9, "read", "(LTrackHouse$Log;I)V"⟩
abbrev cX9_cameFrom : ByteArray := prog_11_method_5_code
def yX9_cameFrom : MethodName := ⟨RX9, "cameFrom", "(III)Z"⟩
def RX10 : String := "TrackHouse$World"
def TX10 : u_T := fun k => match k with
  | 0 => ("TrackHouse$World", "cells", "[I", true)
  | 1 => ("TrackHouse$World", "links", "[I", true)
  | 2 => ("TrackHouse$World", "roles", "[I", true)
  | _ => ("TrackHouse$World", "there", "I", false)
def tyX10 : Nat → FieldType := fun k => match k with
  | 0 => .array .int
  | 1 => .array .int
  | 2 => .array .int
  | _ => .int
abbrev wsX100 : List Cond := u_ws RX10 TX10 4
theorem nmX10 : ∀ a, a < 4 → ∀ b, b < 4 → a ≠ b → (TX10 a).2.1 ≠ (TX10 b).2.1 := by decide +kernel
theorem tyX10_ok : ∀ k, k < 4 → parseFieldDescriptor (TX10 k).2.2.1 = some (tyX10 k) := by decide +kernel
abbrev cX10_init : ByteArray := prog_12_method_1_code
def yX10_init : MethodName := ⟨RX10, "<init>", "()V"⟩
abbrev cX10_clear : ByteArray := prog_12_method_2_code
def yX10_clear : MethodName := ⟨RX10, "clear", "()V"⟩
abbrev cX10_size : ByteArray := prog_12_method_3_code
def yX10_size : MethodName := ⟨RX10, "size", "()I"⟩
abbrev cX10_has : ByteArray := prog_12_method_4_code
def yX10_has : MethodName := ⟨RX10, "has", "(I)Z"⟩
abbrev cX10_cell : ByteArray := prog_12_method_5_code
def yX10_cell : MethodName := ⟨RX10, "cell", "(II)I"⟩
abbrev cX10_rolesOf : ByteArray := prog_12_method_6_code
def yX10_rolesOf : MethodName := ⟨RX10, "rolesOf", "(II)I"⟩
abbrev cX10_linksOf : ByteArray := prog_12_method_7_code
def yX10_linksOf : MethodName := ⟨RX10, "linksOf", "(II)I"⟩
abbrev cX10_childrenOf : ByteArray := prog_12_method_8_code
def yX10_childrenOf : MethodName := ⟨RX10, "childrenOf", "(I)I"⟩
abbrev cX10_current : ByteArray := prog_12_method_9_code
def yX10_current : MethodName := ⟨RX10, "current", "(III)I"⟩
abbrev cX10_write : ByteArray := prog_12_method_10_code
def yX10_write : MethodName := ⟨RX10, "write", "(IIII)V"⟩
abbrev cX10_connect : ByteArray := prog_12_method_11_code
def yX10_connect : MethodName := ⟨RX10, "connect", "(IIIZ)V"⟩
abbrev cX10_begin : ByteArray := prog_12_method_12_code
def yX10_begin : MethodName := ⟨RX10, "begin", "(III)V"⟩
abbrev cX10_redo : ByteArray := prog_12_method_13_code
def yX10_redo : MethodName := ⟨RX10, "redo", "(LTrackHouse$Log;I)V"⟩
abbrev cX10_undo : ByteArray := prog_12_method_14_code
def yX10_undo : MethodName := ⟨RX10, "undo", "(LTrackHouse$Log;I)V"⟩
abbrev cX10_copyFrom : ByteArray := prog_12_method_15_code
def yX10_copyFrom : MethodName := ⟨RX10, "copyFrom", "(LTrackHouse$World;)V"⟩
abbrev cX10_isLike : ByteArray := prog_12_method_16_code
def yX10_isLike : MethodName := ⟨RX10, "isLike", "(LTrackHouse$World;)Z"⟩
abbrev cX10_isSame : ByteArray := prog_12_method_17_code
def yX10_isSame : MethodName := ⟨RX10, "isSame", "([I[I)Z"⟩
def RX11 : String := "TrackHouse"
def TX11 : u_T := fun k => match k with
  | 0 => ("TrackHouse", "log", "LTrackHouse$Log;", true)
  | 1 => ("TrackHouse", "live", "LTrackHouse$World;", true)
  | 2 => ("TrackHouse", "twin", "LTrackHouse$World;", true)
  | 3 => ("TrackHouse", "finder", "LTrackHouse$Finder;", true)
  | 4 => ("TrackHouse", "query", "LTrackHouse$Query;", true)
  | 5 => ("TrackHouse", "view", "LTrackHouse$View;", true)
  | 6 => ("TrackHouse", "sight", "LTrackHouse$Sight;", true)
  | 7 => ("TrackHouse", "kinds", "LTrackHouse$Kinds;", true)
  | 8 => ("TrackHouse", "flows", "LTrackHouse$Flows;", true)
  | 9 => ("TrackHouse", "rules", "LTrackHouse$Rules;", true)
  | 10 => ("TrackHouse", "ranks", "LTrackHouse$Ranks;", true)
  | 11 => ("TrackHouse", "bulks", "LTrackHouse$Bulks;", true)
  | 12 => ("TrackHouse", "watched", "[I", true)
  | 13 => ("TrackHouse", "asked", "[I", true)
  | 14 => ("TrackHouse", "today", "I", false)
  | _ => ("TrackHouse", "indexed", "I", false)
def tyX11 : Nat → FieldType := fun k => match k with
  | 0 => .object "TrackHouse$Log"
  | 1 => .object "TrackHouse$World"
  | 2 => .object "TrackHouse$World"
  | 3 => .object "TrackHouse$Finder"
  | 4 => .object "TrackHouse$Query"
  | 5 => .object "TrackHouse$View"
  | 6 => .object "TrackHouse$Sight"
  | 7 => .object "TrackHouse$Kinds"
  | 8 => .object "TrackHouse$Flows"
  | 9 => .object "TrackHouse$Rules"
  | 10 => .object "TrackHouse$Ranks"
  | 11 => .object "TrackHouse$Bulks"
  | 12 => .array .int
  | 13 => .array .int
  | 14 => .int
  | _ => .int
abbrev wsX110 : List Cond := u_ws RX11 TX11 16
theorem nmX11 : ∀ a, a < 16 → ∀ b, b < 16 → a ≠ b → (TX11 a).2.1 ≠ (TX11 b).2.1 := by decide +kernel
theorem tyX11_ok : ∀ k, k < 16 → parseFieldDescriptor (TX11 k).2.2.1 = some (tyX11 k) := by decide +kernel
abbrev cX11_init : ByteArray := prog_1_method_1_code
def yX11_init : MethodName := ⟨RX11, "<init>", "()V"⟩
abbrev cX11_grant : ByteArray := prog_1_method_2_code
def yX11_grant : MethodName := ⟨RX11, "grant", "(III)I"⟩
abbrev cX11_scheme : ByteArray := prog_1_method_3_code
def yX11_scheme : MethodName := ⟨RX11, "scheme", "(III)I"⟩
abbrev cX11_secure : ByteArray := prog_1_method_4_code
def yX11_secure : MethodName := ⟨RX11, "secure", "(II)I"⟩
abbrev cX11_reads : ByteArray := prog_1_method_5_code
def yX11_reads : MethodName := ⟨RX11, "reads", "(II)I"⟩
abbrev cX11_pass : ByteArray := prog_1_method_6_code
def yX11_pass : MethodName := ⟨RX11, "pass", "(I)I"⟩
abbrev cX11_index : ByteArray := prog_1_method_7_code
def yX11_index : MethodName := ⟨RX11, "index", "()I"⟩
abbrev cX11_entries : ByteArray := prog_1_method_8_code
def yX11_entries : MethodName := ⟨RX11, "entries", "()I"⟩
abbrev cX11_kind : ByteArray := prog_1_method_9_code
def yX11_kind : MethodName := ⟨RX11, "kind", "(IIII)V"⟩
abbrev cX11_draft : ByteArray := prog_1_method_10_code
def yX11_draft : MethodName := ⟨RX11, "draft", "(I)I"⟩
abbrev cX11_state : ByteArray := prog_1_method_11_code
def yX11_state : MethodName := ⟨RX11, "state", "(I)I"⟩
abbrev cX11_transition : ByteArray := prog_1_method_13_code
def yX11_transition : MethodName := ⟨RX11, "transition", "(IIIIII)I"⟩
abbrev cX11_publish : ByteArray := prog_1_method_14_code
def yX11_publish : MethodName := ⟨RX11, "publish", "(I)I"⟩
abbrev cX11_create : ByteArray := prog_1_method_16_code
def yX11_create : MethodName := ⟨RX11, "create", "(III)I"⟩
abbrev cX11_set : ByteArray := prog_1_method_17_code
def yX11_set : MethodName := ⟨RX11, "set", "(IIII)I"⟩
abbrev cX11_assign : ByteArray := prog_1_method_18_code
def yX11_assign : MethodName := ⟨RX11, "assign", "(III)I"⟩
abbrev cX11_move : ByteArray := prog_1_method_19_code
def yX11_move : MethodName := ⟨RX11, "move", "(III)I"⟩
abbrev cX11_nest : ByteArray := prog_1_method_20_code
def yX11_nest : MethodName := ⟨RX11, "nest", "(III)I"⟩
abbrev cX11_level : ByteArray := prog_1_method_22_code
def yX11_level : MethodName := ⟨RX11, "level", "(III)Z"⟩
abbrev cX11_transfer : ByteArray := prog_1_method_23_code
def yX11_transfer : MethodName := ⟨RX11, "transfer", "(III)I"⟩
abbrev cX11_sprint : ByteArray := prog_1_method_24_code
def yX11_sprint : MethodName := ⟨RX11, "sprint", "(III)I"⟩
abbrev cX11_type : ByteArray := prog_1_method_26_code
def yX11_type : MethodName := ⟨RX11, "type", "(C)I"⟩
abbrev cX11_wipe : ByteArray := prog_1_method_27_code
def yX11_wipe : MethodName := ⟨RX11, "wipe", "()I"⟩
abbrev cX11_fault : ByteArray := prog_1_method_28_code
def yX11_fault : MethodName := ⟨RX11, "fault", "()I"⟩
abbrev cX11_count : ByteArray := prog_1_method_29_code
def yX11_count : MethodName := ⟨RX11, "count", "(II)I"⟩
abbrev cX11_found : ByteArray := prog_1_method_30_code
def yX11_found : MethodName := ⟨RX11, "found", "(III)I"⟩
abbrev cX11_sum : ByteArray := prog_1_method_31_code
def yX11_sum : MethodName := ⟨RX11, "sum", "(III)I"⟩
abbrev cX11_stateOn : ByteArray := prog_1_method_32_code
def yX11_stateOn : MethodName := ⟨RX11, "stateOn", "(II)I"⟩
abbrev cX11_stateOnAnew : ByteArray := prog_1_method_33_code
def yX11_stateOnAnew : MethodName := ⟨RX11, "stateOnAnew", "(II)I"⟩
abbrev cX11_field : ByteArray := prog_1_method_34_code
def yX11_field : MethodName := ⟨RX11, "field", "(III)I"⟩
abbrev cX11_mustExist : ByteArray := prog_1_method_47_code
def yX11_mustExist : MethodName := ⟨RX11, "mustExist", "(Z)V"⟩
abbrev cX11_mustFit : ByteArray := prog_1_method_48_code
def yX11_mustFit : MethodName := ⟨RX11, "mustFit", "(Z)V"⟩
abbrev cX11_mustBeAllowed : ByteArray := prog_1_method_49_code
def yX11_mustBeAllowed : MethodName := ⟨RX11, "mustBeAllowed", "(Z)V"⟩
abbrev cX11_isPerson : ByteArray := prog_1_method_50_code
def yX11_isPerson : MethodName := ⟨RX11, "isPerson", "(I)Z"⟩
abbrev cX11_isProject : ByteArray := prog_1_method_51_code
def yX11_isProject : MethodName := ⟨RX11, "isProject", "(I)Z"⟩
abbrev cX11_isKind : ByteArray := prog_1_method_52_code
def yX11_isKind : MethodName := ⟨RX11, "isKind", "(I)Z"⟩
abbrev cX11_isState : ByteArray := prog_1_method_53_code
def yX11_isState : MethodName := ⟨RX11, "isState", "(I)Z"⟩
abbrev cX11_isSprint : ByteArray := prog_1_method_54_code
def yX11_isSprint : MethodName := ⟨RX11, "isSprint", "(I)Z"⟩
abbrev cX11_isField : ByteArray := prog_1_method_55_code
def yX11_isField : MethodName := ⟨RX11, "isField", "(I)Z"⟩
abbrev cX11_isAnyField : ByteArray := prog_1_method_56_code
def yX11_isAnyField : MethodName := ⟨RX11, "isAnyField", "(I)Z"⟩
abbrev cX11_isRoles : ByteArray := prog_1_method_57_code
def yX11_isRoles : MethodName := ⟨RX11, "isRoles", "(I)Z"⟩
abbrev cX11_isNumber : ByteArray := prog_1_method_58_code
def yX11_isNumber : MethodName := ⟨RX11, "isNumber", "(I)Z"⟩
abbrev cX11_isValue : ByteArray := prog_1_method_59_code
def yX11_isValue : MethodName := ⟨RX11, "isValue", "(I)Z"⟩
abbrev cX11_isDay : ByteArray := prog_1_method_60_code
def yX11_isDay : MethodName := ⟨RX11, "isDay", "(I)Z"⟩
abbrev cX11_isSeen : ByteArray := prog_1_method_63_code
def yX11_isSeen : MethodName := ⟨RX11, "isSeen", "(II)Z"⟩
abbrev cX11_canEditIn : ByteArray := prog_1_method_64_code
def yX11_canEditIn : MethodName := ⟨RX11, "canEditIn", "(II)Z"⟩
abbrev cX11_canWrite : ByteArray := prog_1_method_65_code
def yX11_canWrite : MethodName := ⟨RX11, "canWrite", "(II)Z"⟩
abbrev cX11_stepTo : ByteArray := prog_1_method_66_code
def yX11_stepTo : MethodName := ⟨RX11, "stepTo", "(III)I"⟩
abbrev cX11_isMet : ByteArray := prog_1_method_67_code
def yX11_isMet : MethodName := ⟨RX11, "isMet", "(III)Z"⟩
abbrev cX11_isAtOrAbove : ByteArray := prog_1_method_68_code
def yX11_isAtOrAbove : MethodName := ⟨RX11, "isAtOrAbove", "(II)Z"⟩
abbrev cX11_setCell : ByteArray := prog_1_method_70_code
def yX11_setCell : MethodName := ⟨RX11, "setCell", "(IIII)I"⟩
abbrev cX11_change : ByteArray := prog_1_method_71_code
def yX11_change : MethodName := ⟨RX11, "change", "(IIIII)V"⟩
abbrev cX11_takeBack : ByteArray := prog_1_method_72_code
def yX11_takeBack : MethodName := ⟨RX11, "takeBack", "(I)V"⟩
abbrev cX11_isWithinLimit : ByteArray := prog_1_method_73_code
def yX11_isWithinLimit : MethodName := ⟨RX11, "isWithinLimit", "(I)Z"⟩
abbrev cX11_isSettled : ByteArray := prog_1_method_74_code
def yX11_isSettled : MethodName := ⟨RX11, "isSettled", "(II)Z"⟩
abbrev cX11_goesThrough : ByteArray := prog_1_method_75_code
def yX11_goesThrough : MethodName := ⟨RX11, "goesThrough", "(IIZ)Z"⟩
abbrev cX11_wake : ByteArray := prog_1_method_76_code
def yX11_wake : MethodName := ⟨RX11, "wake", "(IIZI)V"⟩
abbrev cX11_isWoken : ByteArray := prog_1_method_77_code
def yX11_isWoken : MethodName := ⟨RX11, "isWoken", "(II)Z"⟩
abbrev cX11_targetsOf : ByteArray := prog_1_method_78_code
def yX11_targetsOf : MethodName := ⟨RX11, "targetsOf", "(II)I"⟩
abbrev cX11_canTake : ByteArray := prog_1_method_79_code
def yX11_canTake : MethodName := ⟨RX11, "canTake", "(II)Z"⟩
abbrev cX11_lookOn : ByteArray := prog_1_method_80_code
def yX11_lookOn : MethodName := ⟨RX11, "lookOn", "(II)V"⟩
abbrev cX11_at : ByteArray := prog_1_method_85_code
def yX11_at : MethodName := ⟨RX11, "at", "([II)I"⟩
abbrev cX11_put : ByteArray := prog_1_method_86_code
def yX11_put : MethodName := ⟨RX11, "put", "([III)V"⟩
abbrev cX11_bit : ByteArray := prog_1_method_87_code
def yX11_bit : MethodName := ⟨RX11, "bit", "(I)I"⟩
abbrev cX11_isIn : ByteArray := prog_1_method_88_code
def yX11_isIn : MethodName := ⟨RX11, "isIn", "(II)Z"⟩
def RX12 : String := "TrackHouseModel$Flow"
def TX12 : u_T := fun k => match k with
  | _ => ("", "", "", false)
def tyX12 : Nat → FieldType := fun k => match k with
  | _ => .int
abbrev wsX120 : List Cond := u_ws RX12 TX12 0
theorem nmX12 : ∀ a, a < 0 → ∀ b, b < 0 → a ≠ b → (TX12 a).2.1 ≠ (TX12 b).2.1 := by decide +kernel
theorem tyX12_ok : ∀ k, k < 0 → parseFieldDescriptor (TX12 k).2.2.1 = some (tyX12 k) := by decide +kernel
def RX13 : String := "TrackHouseModel$World"
def TX13 : u_T := fun k => match k with
  | _ => ("", "", "", false)
def tyX13 : Nat → FieldType := fun k => match k with
  | _ => .int
abbrev wsX130 : List Cond := u_ws RX13 TX13 0
theorem nmX13 : ∀ a, a < 0 → ∀ b, b < 0 → a ≠ b → (TX13 a).2.1 ≠ (TX13 b).2.1 := by decide +kernel
theorem tyX13_ok : ∀ k, k < 0 → parseFieldDescriptor (TX13 k).2.2.1 = some (tyX13 k) := by decide +kernel
def RX14 : String := "TrackHouseModel"
def TX14 : u_T := fun k => match k with
  | _ => ("", "", "", false)
def tyX14 : Nat → FieldType := fun k => match k with
  | _ => .int
abbrev wsX140 : List Cond := u_ws RX14 TX14 0
theorem nmX14 : ∀ a, a < 0 → ∀ b, b < 0 → a ≠ b → (TX14 a).2.1 ≠ (TX14 b).2.1 := by decide +kernel
theorem tyX14_ok : ∀ k, k < 0 → parseFieldDescriptor (TX14 k).2.2.1 = some (tyX14 k) := by decide +kernel
def RJx145de : String := "java/io/Serializable"
def TJx145de : u_T := fun k => match k with
  | _ => ("", "", "", false)
def tyJx145de : Nat → FieldType := fun k => match k with
  | _ => .int
def RJ6 : String := "java/lang/Integer"
def TJ6 : u_T := fun k => match k with
  | _ => ("", "", "", false)
def tyJ6 : Nat → FieldType := fun k => match k with
  | _ => .int
abbrev cJ6_bitCount_0f7a4 : ByteArray := prog_21_method_49_code
def yJ6_bitCount_0f7a4 : MethodName := ⟨RJ6, "bitCount", "(I)I"⟩
def RJ9 : String := "java/lang/Math"
def TJ9 : u_T := fun k => match k with
  | _ => ("", "", "", false)
def tyJ9 : Nat → FieldType := fun k => match k with
  | _ => .int
abbrev cJ9_max_7cf53 : ByteArray := prog_22_method_65_code
def yJ9_max_7cf53 : MethodName := ⟨RJ9, "max", "(II)I"⟩
abbrev cJ9_min_7cf53 : ByteArray := prog_22_method_69_code
def yJ9_min_7cf53 : MethodName := ⟨RJ9, "min", "(II)I"⟩
def RJ0 : String := "java/lang/String"
def TJ0 : u_T := fun k => match k with
  | _ => ("", "", "", false)
def tyJ0 : Nat → FieldType := fun k => match k with
  | _ => .int
def RJ10 : String := "java/lang/System"
def TJ10 : u_T := fun k => match k with
  | _ => ("", "", "", false)
def tyJ10 : Nat → FieldType := fun k => match k with
  | _ => .int
def RJ7 : String := "java/util/Arrays"
def TJ7 : u_T := fun k => match k with
  | _ => ("", "", "", false)
def tyJ7 : Nat → FieldType := fun k => match k with
  | _ => .int
abbrev cJ7_fill_53178 : ByteArray := prog_27_method_103_code
def yJ7_fill_53178 : MethodName := ⟨RJ7, "fill", "([II)V"⟩
abbrev vwCl : List vw_C := [(RX0, TX0, 5), (RX1, TX1, 4), (RX2, TX2, 5), (RX3, TX3, 6), (RX4, TX4, 8), (RX5, TX5, 12), (RX6, TX6, 3), (RX7, TX7, 9), (RX8, TX8, 10), (RX9, TX9, 6), (RX10, TX10, 4), (RX11, TX11, 16)]
end
section
/-! AN ABSTRACT MEMORY, and a small machine over it. Cells by their number from N0 on: T what each is, G its references, S its numbers, n how many -/
abbrev z_V : Type := Int32 ⊕ (Option Nat ⊕ (Int32 ⊕ Unit))
abbrev z_i (x : Int32) : z_V := .inl x
abbrev z_r (k : Nat) : z_V := .inr (.inl (some k))
abbrev z_n : z_V := .inr (.inl none)
abbrev z_l (x : Int32) : z_V := .inr (.inr (.inl x))
abbrev z_s : z_V := .inr (.inr (.inr ()))
/-- the script: where it lies, its length, its ints -/
abbrev z_B : Type := Nat × Nat × (Nat → Int32)
def z_c (N0 : Nat) (b : z_B) : z_V → Value
  | .inl x => .int x
  | .inr (.inl r) => va_rf (r.map (fun k => N0 + k))
  | .inr (.inr (.inl x)) => .long x.toInt64
  | .inr (.inr (.inr _)) => .ref b.1
def z_ct : z_V → Nat
  | .inl _ => 1
  | .inr (.inl _) => 1
  | .inr (.inr (.inl _)) => 2
  | .inr (.inr (.inr _)) => 1
theorem z_ct_c (N0 : Nat) (b : z_B) (v : z_V) : (z_c N0 b v).category = z_ct v := by
  rcases v with x | r | x | u
  · rfl
  · cases r <;> rfl
  · rfl
  · rfl
abbrev z_W : Type := (Nat → Nat × Nat) × (Nat → Nat → Option Nat) × (Nat → Nat → Int32) × Nat
def z_kd (d : String) : Nat := if d = "I" then 0 else if d = "Z" then 2 else 1
def z_fv (N0 : Nat) (r : vw_C) (g : Nat → Option Nat) (f : Nat → Int32) (j : Nat) : Value := if z_kd (r.2.1 j).2.2.1 = 1 then va_rf ((g j).map (fun k => N0 + k)) else .int (f j)
def z_at (D : va_G) (cA : Nat → ClassId) (N0 : Nat) (sh : Nat × Nat) (g : Nat → Option Nat) (f : Nat → Int32) (a : Nat) (H : Heap) : Prop :=
  match sh.1 with
  | 0 => True
  | 1 => ∃ r : vw_C, vwCl[sh.2]? = some r ∧ t_OB a (D.1 sh.2) r.2.2 (D.2 sh.2) H (z_fv N0 r g f)
  | 2 => H[a]? = some (arrV (cA 0) sh.2 (fun j => .int (f j)))
  | 3 => H[a]? = some (arrV (cA 1) sh.2 (fun j => .int (f j)))
  | 4 => H[a]? = some (arrV (cA 2) sh.2 (fun j => .int (f j)))
  | 5 => H[a]? = some (arrV (cA 3) sh.2 (fun j => .long (f j).toInt64))
  | 6 => H[a]? = some (arrV (cA 4) sh.2 (fun j => va_rf ((g j).map (fun k => N0 + k))))
  | _ => True
theorem z_at.kept {D : va_G} {cA : Nat → ClassId} {N0 : Nat} {sh : Nat × Nat} {g : Nat → Option Nat} {f : Nat → Int32} {a : Nat} {H H1 : Heap} (h : z_at D cA N0 sh g f a H) (hq : H1[a]? = H[a]?) : z_at D cA N0 sh g f a H1 := by
  obtain ⟨t, c⟩ := sh
  match t, h with
  | 0, _ => trivial
  | 1, ⟨r, h1, h2⟩ => exact ⟨r, h1, h2.kept hq⟩
  | 2, h => exact hq.trans h
  | 3, h => exact hq.trans h
  | 4, h => exact hq.trans h
  | 5, h => exact hq.trans h
  | 6, h => exact hq.trans h
  | _ + 7, _ => trivial
def z_rep (D : va_G) (cA : Nat → ClassId) (N0 : Nat) (w : z_W) (H : Heap) : Prop := H.size = N0 + w.2.2.2 ∧ ∀ k : Nat, z_at D cA N0 (w.1 k) (w.2.1 k) (w.2.2.1 k) (N0 + k) H
theorem z_rep.set {D : va_G} {cA : Nat → ClassId} {N0 : Nat} {w : z_W} {H H1 : Heap} {k : Nat} (G' : Nat → Nat → Option Nat) (S' : Nat → Nat → Int32) (h : z_rep D cA N0 w H) (hz : H1.size = H.size) (hq : ∀ q : Nat, q ≠ N0 + k → H1[q]? = H[q]?)
    (ho : ∀ j, j ≠ k → G' j = w.2.1 j ∧ S' j = w.2.2.1 j) (ha : z_at D cA N0 (w.1 k) (G' k) (S' k) (N0 + k) H1) : z_rep D cA N0 (w.1, G', S', w.2.2.2) H1 := by
  refine ⟨hz.trans h.1, fun j => ?_⟩
  by_cases hj : j = k
  · subst hj; exact ha
  · obtain ⟨h1, h2⟩ := ho j hj
    show z_at D cA N0 (w.1 j) (G' j) (S' j) (N0 + j) H1
    rw [h1, h2]
    exact (h.2 j).kept (hq _ (fun e => hj (by omega)))
def z_uS (S : Nat → Nat → Int32) (k j : Nat) (v : Int32) : Nat → Nat → Int32 := fun k' => if k' = k then upd (S k) j v else S k'
def z_uG (G : Nat → Nat → Option Nat) (k j : Nat) (v : Option Nat) : Nat → Nat → Option Nat := fun k' => if k' = k then (fun j' => if j' = j then v else G k j') else G k'
theorem z_uS_self (S : Nat → Nat → Int32) (k j : Nat) (v : Int32) : z_uS S k j v k = upd (S k) j v := by simp [z_uS]
theorem z_uS_ne (S : Nat → Nat → Int32) {k k' : Nat} (j : Nat) (v : Int32) (h : k' ≠ k) : z_uS S k j v k' = S k' := by simp [z_uS, h]
theorem z_uG_self (G : Nat → Nat → Option Nat) (k j : Nat) (v : Option Nat) : z_uG G k j v k = (fun j' => if j' = j then v else G k j') := by simp [z_uG]
theorem z_uG_ne (G : Nat → Nat → Option Nat) {k k' : Nat} (j : Nat) (v : Option Nat) (h : k' ≠ k) : z_uG G k j v k' = G k' := by simp [z_uG, h]
/-- a machine that stands in a method: program, launch, .., its end Q; the classes' numbers D, the array classes' cA, the first own cell N0, the script b -/
abbrev z_X : Type := Program × Launch × Env × Room × State × MethodId × Array Value × List Frame × Method × Code × (State → Prop) × va_G × (Nat → ClassId) × Nat × z_B
/-- a method: name, bytes, locals, what it returns, the fields that it names: pool index, class, slot, kind -/
abbrev z_Y : Type := MethodName × ByteArray × Nat × Option FieldType × List (Nat × Nat × Nat × Nat)
/-- where it is: pc, locals, stack, memory, cells and slots used -/
abbrev z_K : Type := Nat × List (Nat × z_V) × List z_V × z_W × Nat × Nat
def z_tys (cA : Nat → ClassId) : List (ClassId × FieldType) := [(cA 0, .int), (cA 1, .int), (cA 2, .char)]
def z_WB : List Cond := lw_tbl.filter goodWord
/-- words that stay, but not as the good ones do -/
def z_isN : Cond → Bool
  | .fieldLinkNest .. => true
  | .methodLinkNest .. => true
  | .castable .. => true
  | .declares .. => true
  | _ => false
def z_NB : List Cond := lw_tbl.filter z_isN
theorem z_warmD {x : MethodName} {s U : State} (hW : s.WarmedH U.vm) (hZ : va_Nw (.declares x) s) : va_Nw (.declares x) U := va_tabs rfl (rfl : (s.setVm U.vm).vm = U.vm) (by rw [Cond.declares_setVm hW.alike]; exact hZ)
theorem z_N_warm {w : Cond} (hw : z_isN w = true) {s U : State} (hW : s.WarmedH U.vm) (h : va_Nw w s) : va_Nw w U := by
  cases w <;> first | (cases hw; done) | exact va_Nw.warmF hW h | exact va_Nw.warmM hW h | exact va_Nw.warmC hW h | exact z_warmD hW h
theorem z_N_tab {w : Cond} (hw : z_isN w = true) : w.onTables = true := by
  cases w <;> first | (cases hw; done) | rfl
def z_fok (own : String) (q : Nat × Nat × Nat × Nat) : Prop :=
  ∃ r : vw_C, vwCl[q.2.1]? = some r ∧ q.2.2.1 < r.2.2 ∧ q.2.2.2 = z_kd (r.2.1 q.2.2.1).2.2.1 + (if (r.2.1 q.2.2.1).2.2.2 = true then 4 else 0) ∧ (r.2.1 q.2.2.1).1 = r.1 ∧
    (Cond.fieldLink own q.1 r.1 (r.2.1 q.2.2.1).2.1 (r.2.1 q.2.2.1).2.2.1 ∈ z_WB ∨ ∃ host : String, Cond.fieldLinkNest own q.1 r.1 (r.2.1 q.2.2.1).2.1 (r.2.1 q.2.2.1).2.2.1 host ∈ z_NB)
/-- what every own class keeps to -/
def z_cok (r : vw_C) : Prop := (∃ ty0 : Nat → FieldType, (∀ k, k < r.2.2 → parseFieldDescriptor (r.2.1 k).2.2.1 = some (ty0 k)) ∧
    ∀ k, k < r.2.2 → (z_kd (r.2.1 k).2.2.1 = 0 → ty0 k = .int) ∧ (z_kd (r.2.1 k).2.2.1 = 2 → ty0 k = .boolean) ∧ (z_kd (r.2.1 k).2.2.1 = 1 → (∃ n, ty0 k = .object n) ∨ ∃ t, ty0 k = .array t)) ∧
  (∀ a, a < r.2.2 → ∀ b, b < r.2.2 → a ≠ b → (r.2.1 a).2.1 ≠ (r.2.1 b).2.1) ∧ (∀ w ∈ u_ws r.1 r.2.1 r.2.2, w ∈ z_WB)
/-- the class's own texts; the exceptions that aren't each other -/
def z_SR : List (String × Nat × String) := [("TrackHouse", 402, "no such person, project, kind, item, rule, day or place"), ("TrackHouse", 409, "an argument is out of its range"), ("TrackHouse", 414, "that is refused as things stand")]
def z_NC : List (String × String) := [("java/lang/IllegalArgumentException", "java/lang/IllegalStateException"), ("java/lang/IllegalArgumentException", "java/lang/IndexOutOfBoundsException"), ("java/lang/IllegalStateException", "java/lang/IllegalArgumentException"), ("java/lang/IllegalStateException", "java/lang/IndexOutOfBoundsException"), ("java/lang/IndexOutOfBoundsException", "java/lang/IllegalArgumentException"), ("java/lang/IndexOutOfBoundsException", "java/lang/IllegalStateException")]
def z_env (D : va_G) (cA : Nat → ClassId) (N0 : Nat) (b : z_B) (U : State) (H : Heap) : Prop :=
  va_K D vwCl (z_tys cA) U ∧ vx_Zq Bundle.tN "UNASSIGNED_STACK" Bundle.steD (fun q => N0 ≤ q) U H ∧ vx_Zq Bundle.tN "SUPPRESSED_SENTINEL" Bundle.listD (fun q => N0 ≤ q) U H ∧ (∀ w ∈ z_NB, va_Nw w U) ∧ (∀ q ∈ z_SR, ∃ a, vk_R q.1 q.2.1 q.2.2 a U) ∧ (∀ q ∈ z_NC, va_Nc q.1 q.2 U) ∧ va_T .int b.1 b.2.1 (fun j => .int (b.2.2 j)) (fun q => N0 ≤ q) U H
def z_C (X : z_X) (Y : z_Y) : Prop :=
  match X, Y with
  | (p, l, _, _, s, m, args, _, meth, c, _, D, cA, N0, b), (y, bs, nL, ret, ft) =>
    p.tables.exec = Jvm.exec ∧ c.code = bs ∧ c.maxLocals = nL ∧ s.vm.findClass y.cls = some m.cls ∧ (∀ w ∈ z_WB, w.before args s = true) ∧ z_env D cA N0 b s s.heap ∧ meth.locks = false ∧ meth.sig.returnType = ret ∧ meth.name = y.name ∧
      (∀ q ∈ ft, z_fok y.cls q) ∧ l.stackTraces = false ∧ N0 ≤ s.heap.size
def z_G (X : z_X) (Y : z_Y) (k : z_K) : Prop :=
  match X with
  | (p, l, e, R, s, m, args, below, meth, c, Q, D, cA, N0, b) => ∀ (H : Heap) (locs : List Loc) (ls : Array Slot), z_rep D cA N0 k.2.2.2.1 H → va_S (fun q => N0 ≤ q) s.heap H locs →
      lv_has ls Y.2.2.1 (k.2.1.map (fun q => (q.1, z_c N0 b q.2))) → W p l e R s m args below meth c H locs k.2.2.2.2.1 k.2.2.2.2.2 Q (F0 m k.1 ls (k.2.2.1.map (z_c N0 b)))
def z_ld (lv : List (Nat × z_V)) (i : Nat) : Option z_V := (lv.find? (fun q => q.1 == i)).map (fun q => q.2)
def z_st (lv : List (Nat × z_V)) (i : Nat) (v : z_V) : List (Nat × z_V) := (i, v) :: lv.filter (fun q => !(q.1 == i) && !(q.1 + 1 == i && z_ct q.2 == 2))
theorem z_ld_ok {lv : List (Nat × z_V)} {i : Nat} {v : z_V} {N0 nL : Nat} {b : z_B} {ls : Array Slot} (h : lv_has ls nL (lv.map (fun q => (q.1, z_c N0 b q.2)))) (hi : z_ld lv i = some v) : ls[i]? = some (.val (z_c N0 b v)) := by
  unfold z_ld at hi
  cases hf : lv.find? (fun q => q.1 == i) with
  | none => rw [hf] at hi; cases hi
  | some q =>
    rw [hf] at hi
    have h1 := List.find?_some hf
    have h2 : q ∈ lv := List.mem_of_find?_eq_some hf
    have h3 : q.1 = i := by simpa using h1
    have h4 : q.2 = v := Option.some.inj hi
    have h5 := h.2.2 (q.1, z_c N0 b q.2) (List.mem_map.mpr ⟨q, h2, rfl⟩)
    rw [← h3, ← h4]; exact h5
theorem z_st_eq (lv : List (Nat × z_V)) (i : Nat) (v : z_V) (N0 : Nat) (b : z_B) : (i, z_c N0 b v) :: (lv.map (fun q => (q.1, z_c N0 b q.2))).filter (fun q => !(q.1 == i) && !(q.1 + 1 == i && q.2.category == 2)) = (z_st lv i v).map (fun q => (q.1, z_c N0 b q.2)) := by
  unfold z_st
  rw [List.filter_map, List.map_cons]
  congr 1
  congr 1
  congr 1
  funext q
  simp [z_ct_c]
end
section
theorem z_iadd {X : z_X} {Y : z_Y} {pc nc ns : Nat} {lv : List (Nat × z_V)} {st : List z_V} {w : z_W} {x y : Int32} (C : z_C X Y) (hd : decode Y.2.1 pc = .ok (.iadd, 1)) (k : z_G X Y (pc + 1, lv, .inl (x + y) :: st, w, nc, ns)) : z_G X Y (pc, lv, .inl y :: .inl x :: st, w, nc, ns) := by
  obtain ⟨p, l, e, R, s, m, args, below, meth, c, Q, D, cA, N0, b⟩ := X
  obtain ⟨y0, bs, nL, ret, ft⟩ := Y
  obtain ⟨hx, hb, hml, hown, hts, henv, hlk, hrt, hnm, hft, htr, hN0⟩ := C
  intro H locs ls hR hS hl
  exact lv_iadd hx hb hd (k H locs ls hR hS hl)

theorem z_isub {X : z_X} {Y : z_Y} {pc nc ns : Nat} {lv : List (Nat × z_V)} {st : List z_V} {w : z_W} {x y : Int32} (C : z_C X Y) (hd : decode Y.2.1 pc = .ok (.isub, 1)) (k : z_G X Y (pc + 1, lv, .inl (x - y) :: st, w, nc, ns)) : z_G X Y (pc, lv, .inl y :: .inl x :: st, w, nc, ns) := by
  obtain ⟨p, l, e, R, s, m, args, below, meth, c, Q, D, cA, N0, b⟩ := X
  obtain ⟨y0, bs, nL, ret, ft⟩ := Y
  obtain ⟨hx, hb, hml, hown, hts, henv, hlk, hrt, hnm, hft, htr, hN0⟩ := C
  intro H locs ls hR hS hl
  exact lv_isub hx hb hd (k H locs ls hR hS hl)

theorem z_imul {X : z_X} {Y : z_Y} {pc nc ns : Nat} {lv : List (Nat × z_V)} {st : List z_V} {w : z_W} {x y : Int32} (C : z_C X Y) (hd : decode Y.2.1 pc = .ok (.imul, 1)) (k : z_G X Y (pc + 1, lv, .inl (x * y) :: st, w, nc, ns)) : z_G X Y (pc, lv, .inl y :: .inl x :: st, w, nc, ns) := by
  obtain ⟨p, l, e, R, s, m, args, below, meth, c, Q, D, cA, N0, b⟩ := X
  obtain ⟨y0, bs, nL, ret, ft⟩ := Y
  obtain ⟨hx, hb, hml, hown, hts, henv, hlk, hrt, hnm, hft, htr, hN0⟩ := C
  intro H locs ls hR hS hl
  exact lv_imul hx hb hd (k H locs ls hR hS hl)

theorem z_iand {X : z_X} {Y : z_Y} {pc nc ns : Nat} {lv : List (Nat × z_V)} {st : List z_V} {w : z_W} {x y : Int32} (C : z_C X Y) (hd : decode Y.2.1 pc = .ok (.iand, 1)) (k : z_G X Y (pc + 1, lv, .inl (x &&& y) :: st, w, nc, ns)) : z_G X Y (pc, lv, .inl y :: .inl x :: st, w, nc, ns) := by
  obtain ⟨p, l, e, R, s, m, args, below, meth, c, Q, D, cA, N0, b⟩ := X
  obtain ⟨y0, bs, nL, ret, ft⟩ := Y
  obtain ⟨hx, hb, hml, hown, hts, henv, hlk, hrt, hnm, hft, htr, hN0⟩ := C
  intro H locs ls hR hS hl
  exact lv_iand hx hb hd (k H locs ls hR hS hl)

theorem z_ior {X : z_X} {Y : z_Y} {pc nc ns : Nat} {lv : List (Nat × z_V)} {st : List z_V} {w : z_W} {x y : Int32} (C : z_C X Y) (hd : decode Y.2.1 pc = .ok (.ior, 1)) (k : z_G X Y (pc + 1, lv, .inl (x ||| y) :: st, w, nc, ns)) : z_G X Y (pc, lv, .inl y :: .inl x :: st, w, nc, ns) := by
  obtain ⟨p, l, e, R, s, m, args, below, meth, c, Q, D, cA, N0, b⟩ := X
  obtain ⟨y0, bs, nL, ret, ft⟩ := Y
  obtain ⟨hx, hb, hml, hown, hts, henv, hlk, hrt, hnm, hft, htr, hN0⟩ := C
  intro H locs ls hR hS hl
  exact lv_ior hx hb hd (k H locs ls hR hS hl)

theorem z_ixor {X : z_X} {Y : z_Y} {pc nc ns : Nat} {lv : List (Nat × z_V)} {st : List z_V} {w : z_W} {x y : Int32} (C : z_C X Y) (hd : decode Y.2.1 pc = .ok (.ixor, 1)) (k : z_G X Y (pc + 1, lv, .inl (x ^^^ y) :: st, w, nc, ns)) : z_G X Y (pc, lv, .inl y :: .inl x :: st, w, nc, ns) := by
  obtain ⟨p, l, e, R, s, m, args, below, meth, c, Q, D, cA, N0, b⟩ := X
  obtain ⟨y0, bs, nL, ret, ft⟩ := Y
  obtain ⟨hx, hb, hml, hown, hts, henv, hlk, hrt, hnm, hft, htr, hN0⟩ := C
  intro H locs ls hR hS hl
  exact lv_ixor hx hb hd (k H locs ls hR hS hl)

theorem z_ishl {X : z_X} {Y : z_Y} {pc nc ns : Nat} {lv : List (Nat × z_V)} {st : List z_V} {w : z_W} {x y : Int32} (C : z_C X Y) (hd : decode Y.2.1 pc = .ok (.ishl, 1)) (k : z_G X Y (pc + 1, lv, .inl (x <<< (y &&& 31)) :: st, w, nc, ns)) : z_G X Y (pc, lv, .inl y :: .inl x :: st, w, nc, ns) := by
  obtain ⟨p, l, e, R, s, m, args, below, meth, c, Q, D, cA, N0, b⟩ := X
  obtain ⟨y0, bs, nL, ret, ft⟩ := Y
  obtain ⟨hx, hb, hml, hown, hts, henv, hlk, hrt, hnm, hft, htr, hN0⟩ := C
  intro H locs ls hR hS hl
  exact lv_ishl hx hb hd (k H locs ls hR hS hl)

theorem z_ishr {X : z_X} {Y : z_Y} {pc nc ns : Nat} {lv : List (Nat × z_V)} {st : List z_V} {w : z_W} {x y : Int32} (C : z_C X Y) (hd : decode Y.2.1 pc = .ok (.ishr, 1)) (k : z_G X Y (pc + 1, lv, .inl (x >>> (y &&& 31)) :: st, w, nc, ns)) : z_G X Y (pc, lv, .inl y :: .inl x :: st, w, nc, ns) := by
  obtain ⟨p, l, e, R, s, m, args, below, meth, c, Q, D, cA, N0, b⟩ := X
  obtain ⟨y0, bs, nL, ret, ft⟩ := Y
  obtain ⟨hx, hb, hml, hown, hts, henv, hlk, hrt, hnm, hft, htr, hN0⟩ := C
  intro H locs ls hR hS hl
  exact lv_ishr hx hb hd (k H locs ls hR hS hl)

theorem z_iushr {X : z_X} {Y : z_Y} {pc nc ns : Nat} {lv : List (Nat × z_V)} {st : List z_V} {w : z_W} {x y : Int32} (C : z_C X Y) (hd : decode Y.2.1 pc = .ok (.iushr, 1)) (k : z_G X Y (pc + 1, lv, .inl ((x.toUInt32 >>> (y.toUInt32 &&& Int32.toUInt32 31)).toInt32) :: st, w, nc, ns)) : z_G X Y (pc, lv, .inl y :: .inl x :: st, w, nc, ns) := by
  obtain ⟨p, l, e, R, s, m, args, below, meth, c, Q, D, cA, N0, b⟩ := X
  obtain ⟨y0, bs, nL, ret, ft⟩ := Y
  obtain ⟨hx, hb, hml, hown, hts, henv, hlk, hrt, hnm, hft, htr, hN0⟩ := C
  intro H locs ls hR hS hl
  exact lv_iushr hx hb hd rfl (k H locs ls hR hS hl)

theorem z_idiv {X : z_X} {Y : z_Y} {pc nc ns : Nat} {lv : List (Nat × z_V)} {st : List z_V} {w : z_W} {x y : Int32} (C : z_C X Y) (hd : decode Y.2.1 pc = .ok (.idiv, 1)) (hne : ¬ y = 0) (k : z_G X Y (pc + 1, lv, .inl (x / y) :: st, w, nc, ns)) : z_G X Y (pc, lv, .inl y :: .inl x :: st, w, nc, ns) := by
  obtain ⟨p, l, e, R, s, m, args, below, meth, c, Q, D, cA, N0, b⟩ := X
  obtain ⟨y0, bs, nL, ret, ft⟩ := Y
  obtain ⟨hx, hb, hml, hown, hts, henv, hlk, hrt, hnm, hft, htr, hN0⟩ := C
  intro H locs ls hR hS hl
  exact lv_idiv hx hb hd hne (k H locs ls hR hS hl)

theorem z_irem {X : z_X} {Y : z_Y} {pc nc ns : Nat} {lv : List (Nat × z_V)} {st : List z_V} {w : z_W} {x y : Int32} (C : z_C X Y) (hd : decode Y.2.1 pc = .ok (.irem, 1)) (hne : ¬ y = 0) (k : z_G X Y (pc + 1, lv, .inl (x - x / y * y) :: st, w, nc, ns)) : z_G X Y (pc, lv, .inl y :: .inl x :: st, w, nc, ns) := by
  obtain ⟨p, l, e, R, s, m, args, below, meth, c, Q, D, cA, N0, b⟩ := X
  obtain ⟨y0, bs, nL, ret, ft⟩ := Y
  obtain ⟨hx, hb, hml, hown, hts, henv, hlk, hrt, hnm, hft, htr, hN0⟩ := C
  intro H locs ls hR hS hl
  exact lv_irem hx hb hd hne (k H locs ls hR hS hl)

theorem z_iconst {X : z_X} {Y : z_Y} {pc nc ns : Nat} {lv : List (Nat × z_V)} {st : List z_V} {w : z_W} {n : Int} (C : z_C X Y) (hd : decode Y.2.1 pc = .ok (.iconst n, 1)) (k : z_G X Y (pc + 1, lv, .inl (Int32.ofInt n) :: st, w, nc, ns)) : z_G X Y (pc, lv, st, w, nc, ns) := by
  obtain ⟨p, l, e, R, s, m, args, below, meth, c, Q, D, cA, N0, b⟩ := X
  obtain ⟨y0, bs, nL, ret, ft⟩ := Y
  obtain ⟨hx, hb, hml, hown, hts, henv, hlk, hrt, hnm, hft, htr, hN0⟩ := C
  intro H locs ls hR hS hl
  exact lv_iconst hx hb hd rfl (k H locs ls hR hS hl)

theorem z_bipush {X : z_X} {Y : z_Y} {pc nc ns : Nat} {lv : List (Nat × z_V)} {st : List z_V} {w : z_W} {n : Int} (C : z_C X Y) (hd : decode Y.2.1 pc = .ok (.bipush n, 2)) (k : z_G X Y (pc + 2, lv, .inl (Int8.ofInt n).toInt32 :: st, w, nc, ns)) : z_G X Y (pc, lv, st, w, nc, ns) := by
  obtain ⟨p, l, e, R, s, m, args, below, meth, c, Q, D, cA, N0, b⟩ := X
  obtain ⟨y0, bs, nL, ret, ft⟩ := Y
  obtain ⟨hx, hb, hml, hown, hts, henv, hlk, hrt, hnm, hft, htr, hN0⟩ := C
  intro H locs ls hR hS hl
  exact lv_bipush hx hb hd rfl (k H locs ls hR hS hl)

theorem z_sipush {X : z_X} {Y : z_Y} {pc nc ns : Nat} {lv : List (Nat × z_V)} {st : List z_V} {w : z_W} {n : Int} (C : z_C X Y) (hd : decode Y.2.1 pc = .ok (.sipush n, 3)) (k : z_G X Y (pc + 3, lv, .inl (Int16.ofInt n).toInt32 :: st, w, nc, ns)) : z_G X Y (pc, lv, st, w, nc, ns) := by
  obtain ⟨p, l, e, R, s, m, args, below, meth, c, Q, D, cA, N0, b⟩ := X
  obtain ⟨y0, bs, nL, ret, ft⟩ := Y
  obtain ⟨hx, hb, hml, hown, hts, henv, hlk, hrt, hnm, hft, htr, hN0⟩ := C
  intro H locs ls hR hS hl
  exact lv_sipush hx hb hd rfl (k H locs ls hR hS hl)

theorem z_lconst {X : z_X} {Y : z_Y} {pc nc ns : Nat} {lv : List (Nat × z_V)} {st : List z_V} {w : z_W} {n : Fin 2} {x : Int32} (C : z_C X Y) (hd : decode Y.2.1 pc = .ok (.lconst n, 1)) (hv : Int64.ofNat (n : Nat) = x.toInt64) (k : z_G X Y (pc + 1, lv, z_l x :: st, w, nc, ns)) : z_G X Y (pc, lv, st, w, nc, ns) := by
  obtain ⟨p, l, e, R, s, m, args, below, meth, c, Q, D, cA, N0, b⟩ := X
  obtain ⟨y0, bs, nL, ret, ft⟩ := Y
  obtain ⟨hx, hb, hml, hown, hts, henv, hlk, hrt, hnm, hft, htr, hN0⟩ := C
  intro H locs ls hR hS hl
  exact lv_lconst hx hb hd hv (k H locs ls hR hS hl)

theorem z_null {X : z_X} {Y : z_Y} {pc nc ns : Nat} {lv : List (Nat × z_V)} {st : List z_V} {w : z_W} (C : z_C X Y) (hd : decode Y.2.1 pc = .ok (.aconst_null, 1)) (k : z_G X Y (pc + 1, lv, z_n :: st, w, nc, ns)) : z_G X Y (pc, lv, st, w, nc, ns) := by
  obtain ⟨p, l, e, R, s, m, args, below, meth, c, Q, D, cA, N0, b⟩ := X
  obtain ⟨y0, bs, nL, ret, ft⟩ := Y
  obtain ⟨hx, hb, hml, hown, hts, henv, hlk, hrt, hnm, hft, htr, hN0⟩ := C
  intro H locs ls hR hS hl
  exact lv_null hx hb hd (k H locs ls hR hS hl)

theorem z_iload_n {X : z_X} {Y : z_Y} {pc nc ns : Nat} {lv : List (Nat × z_V)} {st : List z_V} {w : z_W} {j : Fin 4} {x : Int32} (C : z_C X Y) (hd : decode Y.2.1 pc = .ok (.iload_n j, 1)) (hi : z_ld lv j = some (.inl x)) (k : z_G X Y (pc + 1, lv, .inl x :: st, w, nc, ns)) : z_G X Y (pc, lv, st, w, nc, ns) := by
  obtain ⟨p, l, e, R, s, m, args, below, meth, c, Q, D, cA, N0, b⟩ := X
  obtain ⟨y0, bs, nL, ret, ft⟩ := Y
  obtain ⟨hx, hb, hml, hown, hts, henv, hlk, hrt, hnm, hft, htr, hN0⟩ := C
  intro H locs ls hR hS hl
  exact lv_iload_n hx hb hd rfl (z_ld_ok hl hi) (k H locs ls hR hS hl)

theorem z_iload {X : z_X} {Y : z_Y} {pc nc ns : Nat} {lv : List (Nat × z_V)} {st : List z_V} {w : z_W} {j : Nat} {x : Int32} (C : z_C X Y) (hd : decode Y.2.1 pc = .ok (.iload j, 2)) (hi : z_ld lv j = some (.inl x)) (k : z_G X Y (pc + 2, lv, .inl x :: st, w, nc, ns)) : z_G X Y (pc, lv, st, w, nc, ns) := by
  obtain ⟨p, l, e, R, s, m, args, below, meth, c, Q, D, cA, N0, b⟩ := X
  obtain ⟨y0, bs, nL, ret, ft⟩ := Y
  obtain ⟨hx, hb, hml, hown, hts, henv, hlk, hrt, hnm, hft, htr, hN0⟩ := C
  intro H locs ls hR hS hl
  exact lv_iload hx hb hd (z_ld_ok hl hi) (k H locs ls hR hS hl)

theorem z_aload_n {X : z_X} {Y : z_Y} {pc nc ns : Nat} {lv : List (Nat × z_V)} {st : List z_V} {w : z_W} {j : Fin 4} {r : Option Nat} (C : z_C X Y) (hd : decode Y.2.1 pc = .ok (.aload_n j, 1)) (hi : z_ld lv j = some (.inr (.inl r))) (k : z_G X Y (pc + 1, lv, .inr (.inl r) :: st, w, nc, ns)) : z_G X Y (pc, lv, st, w, nc, ns) := by
  obtain ⟨p, l, e, R, s, m, args, below, meth, c, Q, D, cA, N0, b⟩ := X
  obtain ⟨y0, bs, nL, ret, ft⟩ := Y
  obtain ⟨hx, hb, hml, hown, hts, henv, hlk, hrt, hnm, hft, htr, hN0⟩ := C
  intro H locs ls hR hS hl
  have h1 := z_ld_ok hl hi
  cases r with
  | none => exact lv_aload_nN hx hb hd rfl h1 (k H locs ls hR hS hl)
  | some a => exact lv_aload_n hx hb hd rfl h1 (k H locs ls hR hS hl)

theorem z_sload_n {X : z_X} {Y : z_Y} {pc nc ns : Nat} {lv : List (Nat × z_V)} {st : List z_V} {w : z_W} {j : Fin 4} (C : z_C X Y) (hd : decode Y.2.1 pc = .ok (.aload_n j, 1)) (hi : z_ld lv j = some z_s) (k : z_G X Y (pc + 1, lv, z_s :: st, w, nc, ns)) : z_G X Y (pc, lv, st, w, nc, ns) := by
  obtain ⟨p, l, e, R, s, m, args, below, meth, c, Q, D, cA, N0, b⟩ := X
  obtain ⟨y0, bs, nL, ret, ft⟩ := Y
  obtain ⟨hx, hb, hml, hown, hts, henv, hlk, hrt, hnm, hft, htr, hN0⟩ := C
  intro H locs ls hR hS hl
  exact lv_aload_n hx hb hd rfl (z_ld_ok hl hi) (k H locs ls hR hS hl)

theorem z_aload {X : z_X} {Y : z_Y} {pc nc ns : Nat} {lv : List (Nat × z_V)} {st : List z_V} {w : z_W} {j : Nat} {r : Option Nat} (C : z_C X Y) (hd : decode Y.2.1 pc = .ok (.aload j, 2)) (hi : z_ld lv j = some (.inr (.inl r))) (k : z_G X Y (pc + 2, lv, .inr (.inl r) :: st, w, nc, ns)) : z_G X Y (pc, lv, st, w, nc, ns) := by
  obtain ⟨p, l, e, R, s, m, args, below, meth, c, Q, D, cA, N0, b⟩ := X
  obtain ⟨y0, bs, nL, ret, ft⟩ := Y
  obtain ⟨hx, hb, hml, hown, hts, henv, hlk, hrt, hnm, hft, htr, hN0⟩ := C
  intro H locs ls hR hS hl
  have h1 := z_ld_ok hl hi
  cases r with
  | none => exact lv_aloadN hx hb hd h1 (k H locs ls hR hS hl)
  | some a => exact lv_aload hx hb hd h1 (k H locs ls hR hS hl)

theorem z_sload {X : z_X} {Y : z_Y} {pc nc ns : Nat} {lv : List (Nat × z_V)} {st : List z_V} {w : z_W} {j : Nat} (C : z_C X Y) (hd : decode Y.2.1 pc = .ok (.aload j, 2)) (hi : z_ld lv j = some z_s) (k : z_G X Y (pc + 2, lv, z_s :: st, w, nc, ns)) : z_G X Y (pc, lv, st, w, nc, ns) := by
  obtain ⟨p, l, e, R, s, m, args, below, meth, c, Q, D, cA, N0, b⟩ := X
  obtain ⟨y0, bs, nL, ret, ft⟩ := Y
  obtain ⟨hx, hb, hml, hown, hts, henv, hlk, hrt, hnm, hft, htr, hN0⟩ := C
  intro H locs ls hR hS hl
  exact lv_aload hx hb hd (z_ld_ok hl hi) (k H locs ls hR hS hl)

theorem z_istore_n {X : z_X} {Y : z_Y} {pc nc ns : Nat} {lv : List (Nat × z_V)} {st : List z_V} {w : z_W} {j : Fin 4} {x : Int32} (C : z_C X Y) (hd : decode Y.2.1 pc = .ok (.istore_n j, 1)) (hj : (j : Nat) < Y.2.2.1) (k : z_G X Y (pc + 1, z_st lv j (.inl x), st, w, nc, ns)) : z_G X Y (pc, lv, .inl x :: st, w, nc, ns) := by
  obtain ⟨p, l, e, R, s, m, args, below, meth, c, Q, D, cA, N0, b⟩ := X
  obtain ⟨y0, bs, nL, ret, ft⟩ := Y
  obtain ⟨hx, hb, hml, hown, hts, henv, hlk, hrt, hnm, hft, htr, hN0⟩ := C
  intro H locs ls hR hS hl
  exact lv_istore_n hx hb hd rfl hl hj (z_st_eq lv _ (.inl x) N0 b) (fun ls' hl' => k H locs ls' hR hS hl')

theorem z_istore {X : z_X} {Y : z_Y} {pc nc ns : Nat} {lv : List (Nat × z_V)} {st : List z_V} {w : z_W} {j : Nat} {x : Int32} (C : z_C X Y) (hd : decode Y.2.1 pc = .ok (.istore j, 2)) (hj : (j : Nat) < Y.2.2.1) (k : z_G X Y (pc + 2, z_st lv j (.inl x), st, w, nc, ns)) : z_G X Y (pc, lv, .inl x :: st, w, nc, ns) := by
  obtain ⟨p, l, e, R, s, m, args, below, meth, c, Q, D, cA, N0, b⟩ := X
  obtain ⟨y0, bs, nL, ret, ft⟩ := Y
  obtain ⟨hx, hb, hml, hown, hts, henv, hlk, hrt, hnm, hft, htr, hN0⟩ := C
  intro H locs ls hR hS hl
  exact lv_istore hx hb hd hl hj (z_st_eq lv _ (.inl x) N0 b) (fun ls' hl' => k H locs ls' hR hS hl')

theorem z_astore_n {X : z_X} {Y : z_Y} {pc nc ns : Nat} {lv : List (Nat × z_V)} {st : List z_V} {w : z_W} {j : Fin 4} {r : Option Nat} (C : z_C X Y) (hd : decode Y.2.1 pc = .ok (.astore_n j, 1)) (hj : (j : Nat) < Y.2.2.1) (k : z_G X Y (pc + 1, z_st lv j (.inr (.inl r)), st, w, nc, ns)) : z_G X Y (pc, lv, .inr (.inl r) :: st, w, nc, ns) := by
  obtain ⟨p, l, e, R, s, m, args, below, meth, c, Q, D, cA, N0, b⟩ := X
  obtain ⟨y0, bs, nL, ret, ft⟩ := Y
  obtain ⟨hx, hb, hml, hown, hts, henv, hlk, hrt, hnm, hft, htr, hN0⟩ := C
  intro H locs ls hR hS hl
  cases r with
  | none => exact lv_astore_nN hx hb hd rfl hl hj (z_st_eq lv _ z_n N0 b) (fun ls' hl' => k H locs ls' hR hS hl')
  | some a => exact lv_astore_n hx hb hd rfl hl hj (z_st_eq lv _ (z_r a) N0 b) (fun ls' hl' => k H locs ls' hR hS hl')

theorem z_astore {X : z_X} {Y : z_Y} {pc nc ns : Nat} {lv : List (Nat × z_V)} {st : List z_V} {w : z_W} {j : Nat} {r : Option Nat} (C : z_C X Y) (hd : decode Y.2.1 pc = .ok (.astore j, 2)) (hj : (j : Nat) < Y.2.2.1) (k : z_G X Y (pc + 2, z_st lv j (.inr (.inl r)), st, w, nc, ns)) : z_G X Y (pc, lv, .inr (.inl r) :: st, w, nc, ns) := by
  obtain ⟨p, l, e, R, s, m, args, below, meth, c, Q, D, cA, N0, b⟩ := X
  obtain ⟨y0, bs, nL, ret, ft⟩ := Y
  obtain ⟨hx, hb, hml, hown, hts, henv, hlk, hrt, hnm, hft, htr, hN0⟩ := C
  intro H locs ls hR hS hl
  cases r with
  | none => exact lv_astoreN hx hb hd hl hj (z_st_eq lv _ z_n N0 b) (fun ls' hl' => k H locs ls' hR hS hl')
  | some a => exact lv_astore hx hb hd hl hj (z_st_eq lv _ (z_r a) N0 b) (fun ls' hl' => k H locs ls' hR hS hl')

theorem z_iinc {X : z_X} {Y : z_Y} {pc nc ns : Nat} {lv : List (Nat × z_V)} {st : List z_V} {w : z_W} {j : Nat} {n : Int} {x : Int32} (C : z_C X Y) (hd : decode Y.2.1 pc = .ok (.iinc j n, 3)) (hi : z_ld lv j = some (.inl x)) (hj : j < Y.2.2.1) (k : z_G X Y (pc + 3, z_st lv j (.inl (x + Int32.ofInt n)), st, w, nc, ns)) : z_G X Y (pc, lv, st, w, nc, ns) := by
  obtain ⟨p, l, e, R, s, m, args, below, meth, c, Q, D, cA, N0, b⟩ := X
  obtain ⟨y0, bs, nL, ret, ft⟩ := Y
  obtain ⟨hx, hb, hml, hown, hts, henv, hlk, hrt, hnm, hft, htr, hN0⟩ := C
  intro H locs ls hR hS hl
  have h1 : ∃ k0 : Nat, (lv.map (fun q => (q.1, z_c N0 b q.2)))[k0]? = some (j, Value.int x) := by
    unfold z_ld at hi
    cases hf : lv.find? (fun q => q.1 == j) with
    | none => rw [hf] at hi; cases hi
    | some q =>
      rw [hf] at hi
      have h2 : q ∈ lv := List.mem_of_find?_eq_some hf
      have h1 := List.find?_some hf
      have h3 : q.1 = j := by simpa using h1
      have h4 : q.2 = .inl x := Option.some.inj hi
      apply List.getElem?_of_mem
      refine List.mem_map.mpr ⟨q, h2, ?_⟩
      rw [h3, h4]; rfl
  obtain ⟨k0, hk0⟩ := h1
  exact lv_iinc hx hb hd hl hk0 rfl hj (z_st_eq lv _ (.inl (x + Int32.ofInt n)) N0 b) (fun ls' hl' => k H locs ls' hR hS hl')

theorem z_i2l {X : z_X} {Y : z_Y} {pc nc ns : Nat} {lv : List (Nat × z_V)} {st : List z_V} {w : z_W} {x : Int32} (C : z_C X Y) (hd : decode Y.2.1 pc = .ok (.i2l, 1)) (k : z_G X Y (pc + 1, lv, z_l x :: st, w, nc, ns)) : z_G X Y (pc, lv, .inl x :: st, w, nc, ns) := by
  obtain ⟨p, l, e, R, s, m, args, below, meth, c, Q, D, cA, N0, b⟩ := X
  obtain ⟨y0, bs, nL, ret, ft⟩ := Y
  obtain ⟨hx, hb, hml, hown, hts, henv, hlk, hrt, hnm, hft, htr, hN0⟩ := C
  intro H locs ls hR hS hl
  exact lv_i2l hx hb hd rfl (k H locs ls hR hS hl)

theorem z_i2c {X : z_X} {Y : z_Y} {pc nc ns : Nat} {lv : List (Nat × z_V)} {st : List z_V} {w : z_W} {x : Int32} (C : z_C X Y) (hd : decode Y.2.1 pc = .ok (.i2c, 1)) (k : z_G X Y (pc + 1, lv, .inl (x.toUInt32 % 65536).toInt32 :: st, w, nc, ns)) : z_G X Y (pc, lv, .inl x :: st, w, nc, ns) := by
  obtain ⟨p, l, e, R, s, m, args, below, meth, c, Q, D, cA, N0, b⟩ := X
  obtain ⟨y0, bs, nL, ret, ft⟩ := Y
  obtain ⟨hx, hb, hml, hown, hts, henv, hlk, hrt, hnm, hft, htr, hN0⟩ := C
  intro H locs ls hR hS hl
  exact lv_i2c hx hb hd rfl (k H locs ls hR hS hl)

theorem z_lcmp {X : z_X} {Y : z_Y} {pc nc ns : Nat} {lv : List (Nat × z_V)} {st : List z_V} {w : z_W} {x y : Int32} (C : z_C X Y) (hd : decode Y.2.1 pc = .ok (.lcmp, 1)) (k : z_G X Y (pc + 1, lv, .inl (lg_cmp x.toInt64 y.toInt64) :: st, w, nc, ns)) : z_G X Y (pc, lv, z_l y :: z_l x :: st, w, nc, ns) := by
  obtain ⟨p, l, e, R, s, m, args, below, meth, c, Q, D, cA, N0, b⟩ := X
  obtain ⟨y0, bs, nL, ret, ft⟩ := Y
  obtain ⟨hx, hb, hml, hown, hts, henv, hlk, hrt, hnm, hft, htr, hN0⟩ := C
  intro H locs ls hR hS hl
  exact W.lcmp hx hb hd (k H locs ls hR hS hl)

theorem z_dup {X : z_X} {Y : z_Y} {pc nc ns : Nat} {lv : List (Nat × z_V)} {st : List z_V} {w : z_W} {v : z_V} (C : z_C X Y) (hd : decode Y.2.1 pc = .ok (.dup, 1)) (hv : z_ct v = 1) (k : z_G X Y (pc + 1, lv, v :: v :: st, w, nc, ns)) : z_G X Y (pc, lv, v :: st, w, nc, ns) := by
  obtain ⟨p, l, e, R, s, m, args, below, meth, c, Q, D, cA, N0, b⟩ := X
  obtain ⟨y0, bs, nL, ret, ft⟩ := Y
  obtain ⟨hx, hb, hml, hown, hts, henv, hlk, hrt, hnm, hft, htr, hN0⟩ := C
  intro H locs ls hR hS hl
  exact lv_dup hx hb hd ((z_ct_c N0 b v).trans hv) (k H locs ls hR hS hl)

theorem z_pop {X : z_X} {Y : z_Y} {pc nc ns : Nat} {lv : List (Nat × z_V)} {st : List z_V} {w : z_W} {v : z_V} (C : z_C X Y) (hd : decode Y.2.1 pc = .ok (.pop, 1)) (hv : z_ct v = 1) (k : z_G X Y (pc + 1, lv, st, w, nc, ns)) : z_G X Y (pc, lv, v :: st, w, nc, ns) := by
  obtain ⟨p, l, e, R, s, m, args, below, meth, c, Q, D, cA, N0, b⟩ := X
  obtain ⟨y0, bs, nL, ret, ft⟩ := Y
  obtain ⟨hx, hb, hml, hown, hts, henv, hlk, hrt, hnm, hft, htr, hN0⟩ := C
  intro H locs ls hR hS hl
  exact lv_pop hx hb hd ((z_ct_c N0 b v).trans hv) (k H locs ls hR hS hl)

theorem z_dup2 {X : z_X} {Y : z_Y} {pc nc ns : Nat} {lv : List (Nat × z_V)} {st : List z_V} {w : z_W} {v u : z_V} (C : z_C X Y) (hd : decode Y.2.1 pc = .ok (.dup2, 1)) (hv : z_ct v = 1) (hu : z_ct u = 1) (k : z_G X Y (pc + 1, lv, v :: u :: v :: u :: st, w, nc, ns)) : z_G X Y (pc, lv, v :: u :: st, w, nc, ns) := by
  obtain ⟨p, l, e, R, s, m, args, below, meth, c, Q, D, cA, N0, b⟩ := X
  obtain ⟨y0, bs, nL, ret, ft⟩ := Y
  obtain ⟨hx, hb, hml, hown, hts, henv, hlk, hrt, hnm, hft, htr, hN0⟩ := C
  intro H locs ls hR hS hl
  exact lv_dup2_11 hx hb hd ((z_ct_c N0 b v).trans hv) ((z_ct_c N0 b u).trans hu) (k H locs ls hR hS hl)

theorem z_goto {X : z_X} {Y : z_Y} {pc nc ns : Nat} {lv : List (Nat × z_V)} {st : List z_V} {w : z_W} {off : Int} {tgt : Nat} (C : z_C X Y) (hd : decode Y.2.1 pc = .ok (.goto off, 3)) (ht : (pc : Int) + off = (tgt : Int)) (k : z_G X Y (tgt, lv, st, w, nc, ns)) : z_G X Y (pc, lv, st, w, nc, ns) := by
  obtain ⟨p, l, e, R, s, m, args, below, meth, c, Q, D, cA, N0, b⟩ := X
  obtain ⟨y0, bs, nL, ret, ft⟩ := Y
  obtain ⟨hx, hb, hml, hown, hts, henv, hlk, hrt, hnm, hft, htr, hN0⟩ := C
  intro H locs ls hR hS hl
  exact lv_goto hx hb hd ht (k H locs ls hR hS hl)
end
section
theorem z_inWB {w : Cond} (h : w ∈ lw_tbl) (g : goodWord w = true) : w ∈ z_WB := List.mem_filter.mpr ⟨h, g⟩
theorem z_inWBs {ws : List Cond} (h : ws.all (fun w => decide (w ∈ lw_tbl) && goodWord w) = true) : ∀ w ∈ ws, w ∈ z_WB := by
  intro w hw
  have h1 := List.all_eq_true.mp h w hw
  simp only [Bool.and_eq_true, decide_eq_true_eq] at h1
  exact z_inWB h1.1 h1.2
set_option maxRecDepth 100000 in
theorem z_ws0 : ∀ w ∈ u_ws RX0 TX0 5, w ∈ z_WB := z_inWBs (by decide +kernel)
theorem z_kds0 : ∀ k, k < 5 → (z_kd (TX0 k).2.2.1 = 0 → tyX0 k = .int) ∧ (z_kd (TX0 k).2.2.1 = 2 → tyX0 k = .boolean) ∧ (z_kd (TX0 k).2.2.1 = 1 → (match tyX0 k with | .object _ => true | .array _ => true | _ => false) = true) := by decide +kernel
theorem z_cok0 : z_cok (RX0, TX0, 5) := ⟨⟨tyX0, tyX0_ok, fun k hk => ⟨(z_kds0 k hk).1, (z_kds0 k hk).2.1, fun h => by
  have h1 := (z_kds0 k hk).2.2 h
  generalize tyX0 k = t at h1
  cases t <;> simp at h1 ⊢⟩⟩, nmX0, z_ws0⟩
set_option maxRecDepth 100000 in
theorem z_ws1 : ∀ w ∈ u_ws RX1 TX1 4, w ∈ z_WB := z_inWBs (by decide +kernel)
theorem z_kds1 : ∀ k, k < 4 → (z_kd (TX1 k).2.2.1 = 0 → tyX1 k = .int) ∧ (z_kd (TX1 k).2.2.1 = 2 → tyX1 k = .boolean) ∧ (z_kd (TX1 k).2.2.1 = 1 → (match tyX1 k with | .object _ => true | .array _ => true | _ => false) = true) := by decide +kernel
theorem z_cok1 : z_cok (RX1, TX1, 4) := ⟨⟨tyX1, tyX1_ok, fun k hk => ⟨(z_kds1 k hk).1, (z_kds1 k hk).2.1, fun h => by
  have h1 := (z_kds1 k hk).2.2 h
  generalize tyX1 k = t at h1
  cases t <;> simp at h1 ⊢⟩⟩, nmX1, z_ws1⟩
set_option maxRecDepth 100000 in
theorem z_ws2 : ∀ w ∈ u_ws RX2 TX2 5, w ∈ z_WB := z_inWBs (by decide +kernel)
theorem z_kds2 : ∀ k, k < 5 → (z_kd (TX2 k).2.2.1 = 0 → tyX2 k = .int) ∧ (z_kd (TX2 k).2.2.1 = 2 → tyX2 k = .boolean) ∧ (z_kd (TX2 k).2.2.1 = 1 → (match tyX2 k with | .object _ => true | .array _ => true | _ => false) = true) := by decide +kernel
theorem z_cok2 : z_cok (RX2, TX2, 5) := ⟨⟨tyX2, tyX2_ok, fun k hk => ⟨(z_kds2 k hk).1, (z_kds2 k hk).2.1, fun h => by
  have h1 := (z_kds2 k hk).2.2 h
  generalize tyX2 k = t at h1
  cases t <;> simp at h1 ⊢⟩⟩, nmX2, z_ws2⟩
set_option maxRecDepth 100000 in
theorem z_ws3 : ∀ w ∈ u_ws RX3 TX3 6, w ∈ z_WB := z_inWBs (by decide +kernel)
theorem z_kds3 : ∀ k, k < 6 → (z_kd (TX3 k).2.2.1 = 0 → tyX3 k = .int) ∧ (z_kd (TX3 k).2.2.1 = 2 → tyX3 k = .boolean) ∧ (z_kd (TX3 k).2.2.1 = 1 → (match tyX3 k with | .object _ => true | .array _ => true | _ => false) = true) := by decide +kernel
theorem z_cok3 : z_cok (RX3, TX3, 6) := ⟨⟨tyX3, tyX3_ok, fun k hk => ⟨(z_kds3 k hk).1, (z_kds3 k hk).2.1, fun h => by
  have h1 := (z_kds3 k hk).2.2 h
  generalize tyX3 k = t at h1
  cases t <;> simp at h1 ⊢⟩⟩, nmX3, z_ws3⟩
set_option maxRecDepth 100000 in
theorem z_ws4 : ∀ w ∈ u_ws RX4 TX4 8, w ∈ z_WB := z_inWBs (by decide +kernel)
theorem z_kds4 : ∀ k, k < 8 → (z_kd (TX4 k).2.2.1 = 0 → tyX4 k = .int) ∧ (z_kd (TX4 k).2.2.1 = 2 → tyX4 k = .boolean) ∧ (z_kd (TX4 k).2.2.1 = 1 → (match tyX4 k with | .object _ => true | .array _ => true | _ => false) = true) := by decide +kernel
theorem z_cok4 : z_cok (RX4, TX4, 8) := ⟨⟨tyX4, tyX4_ok, fun k hk => ⟨(z_kds4 k hk).1, (z_kds4 k hk).2.1, fun h => by
  have h1 := (z_kds4 k hk).2.2 h
  generalize tyX4 k = t at h1
  cases t <;> simp at h1 ⊢⟩⟩, nmX4, z_ws4⟩
set_option maxRecDepth 100000 in
theorem z_ws5 : ∀ w ∈ u_ws RX5 TX5 12, w ∈ z_WB := z_inWBs (by decide +kernel)
theorem z_kds5 : ∀ k, k < 12 → (z_kd (TX5 k).2.2.1 = 0 → tyX5 k = .int) ∧ (z_kd (TX5 k).2.2.1 = 2 → tyX5 k = .boolean) ∧ (z_kd (TX5 k).2.2.1 = 1 → (match tyX5 k with | .object _ => true | .array _ => true | _ => false) = true) := by decide +kernel
theorem z_cok5 : z_cok (RX5, TX5, 12) := ⟨⟨tyX5, tyX5_ok, fun k hk => ⟨(z_kds5 k hk).1, (z_kds5 k hk).2.1, fun h => by
  have h1 := (z_kds5 k hk).2.2 h
  generalize tyX5 k = t at h1
  cases t <;> simp at h1 ⊢⟩⟩, nmX5, z_ws5⟩
set_option maxRecDepth 100000 in
theorem z_ws6 : ∀ w ∈ u_ws RX6 TX6 3, w ∈ z_WB := z_inWBs (by decide +kernel)
theorem z_kds6 : ∀ k, k < 3 → (z_kd (TX6 k).2.2.1 = 0 → tyX6 k = .int) ∧ (z_kd (TX6 k).2.2.1 = 2 → tyX6 k = .boolean) ∧ (z_kd (TX6 k).2.2.1 = 1 → (match tyX6 k with | .object _ => true | .array _ => true | _ => false) = true) := by decide +kernel
theorem z_cok6 : z_cok (RX6, TX6, 3) := ⟨⟨tyX6, tyX6_ok, fun k hk => ⟨(z_kds6 k hk).1, (z_kds6 k hk).2.1, fun h => by
  have h1 := (z_kds6 k hk).2.2 h
  generalize tyX6 k = t at h1
  cases t <;> simp at h1 ⊢⟩⟩, nmX6, z_ws6⟩
set_option maxRecDepth 100000 in
theorem z_ws7 : ∀ w ∈ u_ws RX7 TX7 9, w ∈ z_WB := z_inWBs (by decide +kernel)
theorem z_kds7 : ∀ k, k < 9 → (z_kd (TX7 k).2.2.1 = 0 → tyX7 k = .int) ∧ (z_kd (TX7 k).2.2.1 = 2 → tyX7 k = .boolean) ∧ (z_kd (TX7 k).2.2.1 = 1 → (match tyX7 k with | .object _ => true | .array _ => true | _ => false) = true) := by decide +kernel
theorem z_cok7 : z_cok (RX7, TX7, 9) := ⟨⟨tyX7, tyX7_ok, fun k hk => ⟨(z_kds7 k hk).1, (z_kds7 k hk).2.1, fun h => by
  have h1 := (z_kds7 k hk).2.2 h
  generalize tyX7 k = t at h1
  cases t <;> simp at h1 ⊢⟩⟩, nmX7, z_ws7⟩
set_option maxRecDepth 100000 in
theorem z_ws8 : ∀ w ∈ u_ws RX8 TX8 10, w ∈ z_WB := z_inWBs (by decide +kernel)
theorem z_kds8 : ∀ k, k < 10 → (z_kd (TX8 k).2.2.1 = 0 → tyX8 k = .int) ∧ (z_kd (TX8 k).2.2.1 = 2 → tyX8 k = .boolean) ∧ (z_kd (TX8 k).2.2.1 = 1 → (match tyX8 k with | .object _ => true | .array _ => true | _ => false) = true) := by decide +kernel
theorem z_cok8 : z_cok (RX8, TX8, 10) := ⟨⟨tyX8, tyX8_ok, fun k hk => ⟨(z_kds8 k hk).1, (z_kds8 k hk).2.1, fun h => by
  have h1 := (z_kds8 k hk).2.2 h
  generalize tyX8 k = t at h1
  cases t <;> simp at h1 ⊢⟩⟩, nmX8, z_ws8⟩
set_option maxRecDepth 100000 in
theorem z_ws9 : ∀ w ∈ u_ws RX9 TX9 6, w ∈ z_WB := z_inWBs (by decide +kernel)
theorem z_kds9 : ∀ k, k < 6 → (z_kd (TX9 k).2.2.1 = 0 → tyX9 k = .int) ∧ (z_kd (TX9 k).2.2.1 = 2 → tyX9 k = .boolean) ∧ (z_kd (TX9 k).2.2.1 = 1 → (match tyX9 k with | .object _ => true | .array _ => true | _ => false) = true) := by decide +kernel
theorem z_cok9 : z_cok (RX9, TX9, 6) := ⟨⟨tyX9, tyX9_ok, fun k hk => ⟨(z_kds9 k hk).1, (z_kds9 k hk).2.1, fun h => by
  have h1 := (z_kds9 k hk).2.2 h
  generalize tyX9 k = t at h1
  cases t <;> simp at h1 ⊢⟩⟩, nmX9, z_ws9⟩
set_option maxRecDepth 100000 in
theorem z_ws10 : ∀ w ∈ u_ws RX10 TX10 4, w ∈ z_WB := z_inWBs (by decide +kernel)
theorem z_kds10 : ∀ k, k < 4 → (z_kd (TX10 k).2.2.1 = 0 → tyX10 k = .int) ∧ (z_kd (TX10 k).2.2.1 = 2 → tyX10 k = .boolean) ∧ (z_kd (TX10 k).2.2.1 = 1 → (match tyX10 k with | .object _ => true | .array _ => true | _ => false) = true) := by decide +kernel
theorem z_cok10 : z_cok (RX10, TX10, 4) := ⟨⟨tyX10, tyX10_ok, fun k hk => ⟨(z_kds10 k hk).1, (z_kds10 k hk).2.1, fun h => by
  have h1 := (z_kds10 k hk).2.2 h
  generalize tyX10 k = t at h1
  cases t <;> simp at h1 ⊢⟩⟩, nmX10, z_ws10⟩
set_option maxRecDepth 100000 in
theorem z_ws11 : ∀ w ∈ u_ws RX11 TX11 16, w ∈ z_WB := z_inWBs (by decide +kernel)
theorem z_kds11 : ∀ k, k < 16 → (z_kd (TX11 k).2.2.1 = 0 → tyX11 k = .int) ∧ (z_kd (TX11 k).2.2.1 = 2 → tyX11 k = .boolean) ∧ (z_kd (TX11 k).2.2.1 = 1 → (match tyX11 k with | .object _ => true | .array _ => true | _ => false) = true) := by decide +kernel
theorem z_cok11 : z_cok (RX11, TX11, 16) := ⟨⟨tyX11, tyX11_ok, fun k hk => ⟨(z_kds11 k hk).1, (z_kds11 k hk).2.1, fun h => by
  have h1 := (z_kds11 k hk).2.2 h
  generalize tyX11 k = t at h1
  cases t <;> simp at h1 ⊢⟩⟩, nmX11, z_ws11⟩
theorem z_cls {ci : Nat} {r : vw_C} (h : vwCl[ci]? = some r) : z_cok r := by
  match ci, h with
  | 0, h => cases h; exact z_cok0
  | 1, h => cases h; exact z_cok1
  | 2, h => cases h; exact z_cok2
  | 3, h => cases h; exact z_cok3
  | 4, h => cases h; exact z_cok4
  | 5, h => cases h; exact z_cok5
  | 6, h => cases h; exact z_cok6
  | 7, h => cases h; exact z_cok7
  | 8, h => cases h; exact z_cok8
  | 9, h => cases h; exact z_cok9
  | 10, h => cases h; exact z_cok10
  | 11, h => cases h; exact z_cok11
  | n + 12, h => simp [vwCl] at h
end
section
theorem z_if_eq {X : z_X} {Y : z_Y} {pc nc ns : Nat} {lv : List (Nat × z_V)} {st : List z_V} {w : z_W} {x : Int32} {off : Int} (tgt : Nat) (C : z_C X Y) (hd : decode Y.2.1 pc = .ok (.ifCond .eq off, 3)) (ht : (pc : Int) + off = (tgt : Int)) (kt : x = 0 → z_G X Y (tgt, lv, st, w, nc, ns)) (kf : ¬ x = 0 → z_G X Y (pc + 3, lv, st, w, nc, ns)) : z_G X Y (pc, lv, .inl x :: st, w, nc, ns) := by
  obtain ⟨p, l, e, R, s, m, args, below, meth, c, Q, D, cA, N0, b⟩ := X
  obtain ⟨y0, bs, nL, ret, ft⟩ := Y
  obtain ⟨hx, hb, hml, hown, hts, henv, hlk, hrt, hnm, hft, htr, hN0⟩ := C
  intro H locs ls hR hS hl
  exact lv_if_eq hx hb hd ht (fun h => kt h H locs ls hR hS hl) (fun h => kf h H locs ls hR hS hl)

theorem z_if_ne {X : z_X} {Y : z_Y} {pc nc ns : Nat} {lv : List (Nat × z_V)} {st : List z_V} {w : z_W} {x : Int32} {off : Int} (tgt : Nat) (C : z_C X Y) (hd : decode Y.2.1 pc = .ok (.ifCond .ne off, 3)) (ht : (pc : Int) + off = (tgt : Int)) (kt : ¬ x = 0 → z_G X Y (tgt, lv, st, w, nc, ns)) (kf : x = 0 → z_G X Y (pc + 3, lv, st, w, nc, ns)) : z_G X Y (pc, lv, .inl x :: st, w, nc, ns) := by
  obtain ⟨p, l, e, R, s, m, args, below, meth, c, Q, D, cA, N0, b⟩ := X
  obtain ⟨y0, bs, nL, ret, ft⟩ := Y
  obtain ⟨hx, hb, hml, hown, hts, henv, hlk, hrt, hnm, hft, htr, hN0⟩ := C
  intro H locs ls hR hS hl
  exact lv_if_ne hx hb hd ht (fun h => kt h H locs ls hR hS hl) (fun h => kf h H locs ls hR hS hl)

theorem z_if_lt {X : z_X} {Y : z_Y} {pc nc ns : Nat} {lv : List (Nat × z_V)} {st : List z_V} {w : z_W} {x : Int32} {off : Int} (tgt : Nat) (C : z_C X Y) (hd : decode Y.2.1 pc = .ok (.ifCond .lt off, 3)) (ht : (pc : Int) + off = (tgt : Int)) (kt : x < 0 → z_G X Y (tgt, lv, st, w, nc, ns)) (kf : ¬ x < 0 → z_G X Y (pc + 3, lv, st, w, nc, ns)) : z_G X Y (pc, lv, .inl x :: st, w, nc, ns) := by
  obtain ⟨p, l, e, R, s, m, args, below, meth, c, Q, D, cA, N0, b⟩ := X
  obtain ⟨y0, bs, nL, ret, ft⟩ := Y
  obtain ⟨hx, hb, hml, hown, hts, henv, hlk, hrt, hnm, hft, htr, hN0⟩ := C
  intro H locs ls hR hS hl
  exact lv_if_lt hx hb hd ht (fun h => kt h H locs ls hR hS hl) (fun h => kf h H locs ls hR hS hl)

theorem z_if_ge {X : z_X} {Y : z_Y} {pc nc ns : Nat} {lv : List (Nat × z_V)} {st : List z_V} {w : z_W} {x : Int32} {off : Int} (tgt : Nat) (C : z_C X Y) (hd : decode Y.2.1 pc = .ok (.ifCond .ge off, 3)) (ht : (pc : Int) + off = (tgt : Int)) (kt : 0 ≤ x → z_G X Y (tgt, lv, st, w, nc, ns)) (kf : ¬ 0 ≤ x → z_G X Y (pc + 3, lv, st, w, nc, ns)) : z_G X Y (pc, lv, .inl x :: st, w, nc, ns) := by
  obtain ⟨p, l, e, R, s, m, args, below, meth, c, Q, D, cA, N0, b⟩ := X
  obtain ⟨y0, bs, nL, ret, ft⟩ := Y
  obtain ⟨hx, hb, hml, hown, hts, henv, hlk, hrt, hnm, hft, htr, hN0⟩ := C
  intro H locs ls hR hS hl
  exact lv_if_ge hx hb hd ht (fun h => kt h H locs ls hR hS hl) (fun h => kf h H locs ls hR hS hl)

theorem z_if_gt {X : z_X} {Y : z_Y} {pc nc ns : Nat} {lv : List (Nat × z_V)} {st : List z_V} {w : z_W} {x : Int32} {off : Int} (tgt : Nat) (C : z_C X Y) (hd : decode Y.2.1 pc = .ok (.ifCond .gt off, 3)) (ht : (pc : Int) + off = (tgt : Int)) (kt : 0 < x → z_G X Y (tgt, lv, st, w, nc, ns)) (kf : ¬ 0 < x → z_G X Y (pc + 3, lv, st, w, nc, ns)) : z_G X Y (pc, lv, .inl x :: st, w, nc, ns) := by
  obtain ⟨p, l, e, R, s, m, args, below, meth, c, Q, D, cA, N0, b⟩ := X
  obtain ⟨y0, bs, nL, ret, ft⟩ := Y
  obtain ⟨hx, hb, hml, hown, hts, henv, hlk, hrt, hnm, hft, htr, hN0⟩ := C
  intro H locs ls hR hS hl
  exact lv_if_gt hx hb hd ht (fun h => kt h H locs ls hR hS hl) (fun h => kf h H locs ls hR hS hl)

theorem z_if_le {X : z_X} {Y : z_Y} {pc nc ns : Nat} {lv : List (Nat × z_V)} {st : List z_V} {w : z_W} {x : Int32} {off : Int} (tgt : Nat) (C : z_C X Y) (hd : decode Y.2.1 pc = .ok (.ifCond .le off, 3)) (ht : (pc : Int) + off = (tgt : Int)) (kt : x ≤ 0 → z_G X Y (tgt, lv, st, w, nc, ns)) (kf : ¬ x ≤ 0 → z_G X Y (pc + 3, lv, st, w, nc, ns)) : z_G X Y (pc, lv, .inl x :: st, w, nc, ns) := by
  obtain ⟨p, l, e, R, s, m, args, below, meth, c, Q, D, cA, N0, b⟩ := X
  obtain ⟨y0, bs, nL, ret, ft⟩ := Y
  obtain ⟨hx, hb, hml, hown, hts, henv, hlk, hrt, hnm, hft, htr, hN0⟩ := C
  intro H locs ls hR hS hl
  exact lv_if_le hx hb hd ht (fun h => kt h H locs ls hR hS hl) (fun h => kf h H locs ls hR hS hl)

theorem z_icmp_eq {X : z_X} {Y : z_Y} {pc nc ns : Nat} {lv : List (Nat × z_V)} {st : List z_V} {w : z_W} {x y : Int32} {off : Int} (tgt : Nat) (C : z_C X Y) (hd : decode Y.2.1 pc = .ok (.if_icmp .eq off, 3)) (ht : (pc : Int) + off = (tgt : Int)) (kt : x = y → z_G X Y (tgt, lv, st, w, nc, ns)) (kf : ¬ x = y → z_G X Y (pc + 3, lv, st, w, nc, ns)) : z_G X Y (pc, lv, .inl y :: .inl x :: st, w, nc, ns) := by
  obtain ⟨p, l, e, R, s, m, args, below, meth, c, Q, D, cA, N0, b⟩ := X
  obtain ⟨y0, bs, nL, ret, ft⟩ := Y
  obtain ⟨hx, hb, hml, hown, hts, henv, hlk, hrt, hnm, hft, htr, hN0⟩ := C
  intro H locs ls hR hS hl
  exact lv_icmp_eq hx hb hd ht (fun h => kt h H locs ls hR hS hl) (fun h => kf h H locs ls hR hS hl)

theorem z_icmp_ne {X : z_X} {Y : z_Y} {pc nc ns : Nat} {lv : List (Nat × z_V)} {st : List z_V} {w : z_W} {x y : Int32} {off : Int} (tgt : Nat) (C : z_C X Y) (hd : decode Y.2.1 pc = .ok (.if_icmp .ne off, 3)) (ht : (pc : Int) + off = (tgt : Int)) (kt : ¬ x = y → z_G X Y (tgt, lv, st, w, nc, ns)) (kf : x = y → z_G X Y (pc + 3, lv, st, w, nc, ns)) : z_G X Y (pc, lv, .inl y :: .inl x :: st, w, nc, ns) := by
  obtain ⟨p, l, e, R, s, m, args, below, meth, c, Q, D, cA, N0, b⟩ := X
  obtain ⟨y0, bs, nL, ret, ft⟩ := Y
  obtain ⟨hx, hb, hml, hown, hts, henv, hlk, hrt, hnm, hft, htr, hN0⟩ := C
  intro H locs ls hR hS hl
  exact lv_icmp_ne hx hb hd ht (fun h => kt h H locs ls hR hS hl) (fun h => kf h H locs ls hR hS hl)

theorem z_icmp_lt {X : z_X} {Y : z_Y} {pc nc ns : Nat} {lv : List (Nat × z_V)} {st : List z_V} {w : z_W} {x y : Int32} {off : Int} (tgt : Nat) (C : z_C X Y) (hd : decode Y.2.1 pc = .ok (.if_icmp .lt off, 3)) (ht : (pc : Int) + off = (tgt : Int)) (kt : x < y → z_G X Y (tgt, lv, st, w, nc, ns)) (kf : ¬ x < y → z_G X Y (pc + 3, lv, st, w, nc, ns)) : z_G X Y (pc, lv, .inl y :: .inl x :: st, w, nc, ns) := by
  obtain ⟨p, l, e, R, s, m, args, below, meth, c, Q, D, cA, N0, b⟩ := X
  obtain ⟨y0, bs, nL, ret, ft⟩ := Y
  obtain ⟨hx, hb, hml, hown, hts, henv, hlk, hrt, hnm, hft, htr, hN0⟩ := C
  intro H locs ls hR hS hl
  exact lv_icmp_lt hx hb hd ht (fun h => kt h H locs ls hR hS hl) (fun h => kf h H locs ls hR hS hl)

theorem z_icmp_ge {X : z_X} {Y : z_Y} {pc nc ns : Nat} {lv : List (Nat × z_V)} {st : List z_V} {w : z_W} {x y : Int32} {off : Int} (tgt : Nat) (C : z_C X Y) (hd : decode Y.2.1 pc = .ok (.if_icmp .ge off, 3)) (ht : (pc : Int) + off = (tgt : Int)) (kt : y ≤ x → z_G X Y (tgt, lv, st, w, nc, ns)) (kf : ¬ y ≤ x → z_G X Y (pc + 3, lv, st, w, nc, ns)) : z_G X Y (pc, lv, .inl y :: .inl x :: st, w, nc, ns) := by
  obtain ⟨p, l, e, R, s, m, args, below, meth, c, Q, D, cA, N0, b⟩ := X
  obtain ⟨y0, bs, nL, ret, ft⟩ := Y
  obtain ⟨hx, hb, hml, hown, hts, henv, hlk, hrt, hnm, hft, htr, hN0⟩ := C
  intro H locs ls hR hS hl
  exact lv_icmp_ge hx hb hd ht (fun h => kt h H locs ls hR hS hl) (fun h => kf h H locs ls hR hS hl)

theorem z_icmp_gt {X : z_X} {Y : z_Y} {pc nc ns : Nat} {lv : List (Nat × z_V)} {st : List z_V} {w : z_W} {x y : Int32} {off : Int} (tgt : Nat) (C : z_C X Y) (hd : decode Y.2.1 pc = .ok (.if_icmp .gt off, 3)) (ht : (pc : Int) + off = (tgt : Int)) (kt : y < x → z_G X Y (tgt, lv, st, w, nc, ns)) (kf : ¬ y < x → z_G X Y (pc + 3, lv, st, w, nc, ns)) : z_G X Y (pc, lv, .inl y :: .inl x :: st, w, nc, ns) := by
  obtain ⟨p, l, e, R, s, m, args, below, meth, c, Q, D, cA, N0, b⟩ := X
  obtain ⟨y0, bs, nL, ret, ft⟩ := Y
  obtain ⟨hx, hb, hml, hown, hts, henv, hlk, hrt, hnm, hft, htr, hN0⟩ := C
  intro H locs ls hR hS hl
  exact lv_icmp_gt hx hb hd ht (fun h => kt h H locs ls hR hS hl) (fun h => kf h H locs ls hR hS hl)

theorem z_icmp_le {X : z_X} {Y : z_Y} {pc nc ns : Nat} {lv : List (Nat × z_V)} {st : List z_V} {w : z_W} {x y : Int32} {off : Int} (tgt : Nat) (C : z_C X Y) (hd : decode Y.2.1 pc = .ok (.if_icmp .le off, 3)) (ht : (pc : Int) + off = (tgt : Int)) (kt : x ≤ y → z_G X Y (tgt, lv, st, w, nc, ns)) (kf : ¬ x ≤ y → z_G X Y (pc + 3, lv, st, w, nc, ns)) : z_G X Y (pc, lv, .inl y :: .inl x :: st, w, nc, ns) := by
  obtain ⟨p, l, e, R, s, m, args, below, meth, c, Q, D, cA, N0, b⟩ := X
  obtain ⟨y0, bs, nL, ret, ft⟩ := Y
  obtain ⟨hx, hb, hml, hown, hts, henv, hlk, hrt, hnm, hft, htr, hN0⟩ := C
  intro H locs ls hR hS hl
  exact lv_icmp_le hx hb hd ht (fun h => kt h H locs ls hR hS hl) (fun h => kf h H locs ls hR hS hl)

theorem z_lookup {X : z_X} {Y : z_Y} {pc nc ns : Nat} {lv : List (Nat × z_V)} {st : List z_V} {w : z_W} {dflt : Int} {ps : Array (Int × Int)} {len : Nat} {x : Int32} {off : Int} (tgt : Nat) (C : z_C X Y) (hd : decode Y.2.1 pc = .ok (.lookupswitch dflt ps, len)) (hp : (ps.toList.zip (ps.toList.drop 1)).all (fun (a, next) => a.1 < next.1) = true) (ho : Op.lookupswitch.offset ps.toList dflt x.toInt = off) (ht : (pc : Int) + off = (tgt : Int)) (k : z_G X Y (tgt, lv, st, w, nc, ns)) : z_G X Y (pc, lv, .inl x :: st, w, nc, ns) := by
  obtain ⟨p, l, e, R, s, m, args, below, meth, c, Q, D, cA, N0, b⟩ := X
  obtain ⟨y0, bs, nL, ret, ft⟩ := Y
  obtain ⟨hx, hb, hml, hown, hts, henv, hlk, hrt, hnm, hft, htr, hN0⟩ := C
  intro H locs ls hR hS hl
  exact lv_lookup hx hb hd hp ho ht (k H locs ls hR hS hl)

theorem z_tableOut {X : z_X} {Y : z_Y} {pc nc ns : Nat} {lv : List (Nat × z_V)} {st : List z_V} {w : z_W} {dflt lo hi : Int} {offs : Array Int} {len : Nat} {x : Int32} (tgt : Nat) (C : z_C X Y) (hd : decode Y.2.1 pc = .ok (.tableswitch dflt lo hi offs, len)) (h : x.toInt < lo ∨ hi < x.toInt) (ht : (pc : Int) + dflt = (tgt : Int)) (k : z_G X Y (tgt, lv, st, w, nc, ns)) : z_G X Y (pc, lv, .inl x :: st, w, nc, ns) := by
  obtain ⟨p, l, e, R, s, m, args, below, meth, c, Q, D, cA, N0, b⟩ := X
  obtain ⟨y0, bs, nL, ret, ft⟩ := Y
  obtain ⟨hx, hb, hml, hown, hts, henv, hlk, hrt, hnm, hft, htr, hN0⟩ := C
  intro H locs ls hR hS hl
  exact lv_tableOut hx hb hd h ht (k H locs ls hR hS hl)

theorem z_tableIn {X : z_X} {Y : z_Y} {pc nc ns : Nat} {lv : List (Nat × z_V)} {st : List z_V} {w : z_W} {dflt lo hi : Int} {offs : Array Int} {len : Nat} {x : Int32} {off : Int} (tgt : Nat) (C : z_C X Y) (hd : decode Y.2.1 pc = .ok (.tableswitch dflt lo hi offs, len)) (h1 : ¬ x.toInt < lo) (h2 : ¬ hi < x.toInt) (ho : offs[(x.toInt - lo).toNat]? = some off) (ht : (pc : Int) + off = (tgt : Int)) (k : z_G X Y (tgt, lv, st, w, nc, ns)) : z_G X Y (pc, lv, .inl x :: st, w, nc, ns) := by
  obtain ⟨p, l, e, R, s, m, args, below, meth, c, Q, D, cA, N0, b⟩ := X
  obtain ⟨y0, bs, nL, ret, ft⟩ := Y
  obtain ⟨hx, hb, hml, hown, hts, henv, hlk, hrt, hnm, hft, htr, hN0⟩ := C
  intro H locs ls hR hS hl
  exact lv_tableIn hx hb hd h1 h2 ho ht (k H locs ls hR hS hl)

def z_gv (kd : Nat) (g : Option Nat) (f : Int32) : z_V := match kd with
  | 1 => .inr (.inl g)
  | 5 => .inr (.inl g)
  | _ => .inl f
theorem z_kd_in (d : String) : z_kd d = 0 ∨ z_kd d = 1 ∨ z_kd d = 2 := by
  unfold z_kd
  split
  · exact Or.inl rfl
  · split
    · exact Or.inr (Or.inr rfl)
    · exact Or.inr (Or.inl rfl)
theorem z_fvc {r : vw_C} {j kd : Nat} (h : kd = z_kd (r.2.1 j).2.2.1 + (if (r.2.1 j).2.2.2 = true then 4 else 0)) (N0 : Nat) (b : z_B) (g : Nat → Option Nat) (f : Nat → Int32) : z_fv N0 r g f j = z_c N0 b (z_gv kd (g j) (f j)) := by
  subst h
  unfold z_fv
  cases hq : (r.2.1 j).2.2.2 <;> rcases z_kd_in (r.2.1 j).2.2.1 with h | h | h <;> simp [h, z_gv, z_c]

theorem z_get {X : z_X} {Y : z_Y} {pc nc ns : Nat} {lv : List (Nat × z_V)} {st : List z_V} {w : z_W} {idx ci j kd a : Nat} (C : z_C X Y) (hd : decode Y.2.1 pc = .ok (.getfield idx, 3)) (hf : (idx, ci, j, kd) ∈ Y.2.2.2.2) (hT : w.1 a = (1, ci)) (k : z_G X Y (pc + 3, lv, z_gv kd (w.2.1 a j) (w.2.2.1 a j) :: st, w, nc, ns)) : z_G X Y (pc, lv, z_r a :: st, w, nc, ns) := by
  obtain ⟨p, l, e, R, s, m, args, below, meth, c, Q, D, cA, N0, b⟩ := X
  obtain ⟨y0, bs, nL, ret, ft⟩ := Y
  obtain ⟨hx, hb, hml, hown, hts, henv, hlk, hrt, hnm, hft, htr, hN0⟩ := C
  intro H locs ls hR hS hl
  obtain ⟨r, hr, hk, hkd, hdecl, hlink⟩ := hft _ hf
  dsimp only at hr hk hkd hdecl hlink
  have hA := hR.2 a
  rw [hT] at hA
  obtain ⟨r', hr', hob⟩ := hA
  cases hr.symm.trans hr'
  obtain ⟨C0, T0, N⟩ := r
  dsimp only at hdecl hlink hk hob hr hkd
  have hin := (z_cls hr).2.2
  dsimp only at hin
  have hfs : ∀ j0, j0 < N → vp_V ((List.range N).map (z_fv N0 (C0, T0, N) (w.2.1 a) (w.2.2.1 a))) j0 = z_fv N0 (C0, T0, N) (w.2.1 a) (w.2.2.1 a) j0 := fun j0 h0 => by simp [vp_V, h0]
  have hP : va_P D vwCl [(N0 + a, .inr (ci, (List.range N).map (z_fv N0 (C0, T0, N) (w.2.1 a) (w.2.2.1 a))))] H := by
    intro k0 q hq
    have hz : k0 < 1 := (List.getElem?_eq_some_iff.mp hq).1
    rw [show k0 = 0 by omega] at hq
    cases hq
    exact ⟨(C0, T0, N), hr, hob.to (fun j0 h0 => (hfs j0 h0).symm)⟩
  have hv : ((List.range N).map (z_fv N0 (C0, T0, N) (w.2.1 a) (w.2.2.1 a)))[j]? = some (z_c N0 b (z_gv kd (w.2.1 a j) (w.2.2.1 a j))) := by
    rw [← z_fvc (r := (C0, T0, N)) hkd]; simp [hk]
  rcases hlink with h1 | ⟨host, h1⟩
  · exact va_get hx hb hts hin hown henv.1 hP 0 rfl hr j hk (hts _ h1) (fun x h => by rw [hdecl] at h; exact h) hv hd (k H locs ls hR hS hl)
  · exact va_getN hx hb hts hin hown henv.1 hP 0 rfl hr j hk (va_Nw.use rfl (henv.2.2.2.1 _ h1)) (fun x h => by rw [hdecl] at h; exact h) hv hd (k H locs ls hR hS hl)

def z_wr (w : z_W) (a j : Nat) (v : z_V) : z_W := match v with
  | .inl x => (w.1, w.2.1, z_uS w.2.2.1 a j x, w.2.2.2)
  | .inr (.inl r) => (w.1, z_uG w.2.1 a j r, w.2.2.1, w.2.2.2)
  | _ => w
/-- what may be stored in a field of a kind -/
def z_pok (kd : Nat) (v : z_V) : Prop := match kd, v with
  | 0, .inl _ => True
  | 1, .inr (.inl _) => True
  | 2, .inl x => x = 0 ∨ x = 1
  | _, _ => False
theorem z_fv_put {r : vw_C} {N0 j kd : Nat} {b : z_B} {g : Nat → Option Nat} {f : Nat → Int32} {v : z_V} (hkd : kd = z_kd (r.2.1 j).2.2.1) (hv : z_pok kd v) (w : z_W) (a : Nat) (hg : g = w.2.1 a) (hf : f = w.2.2.1 a) (j0 : Nat) :
    updV (z_fv N0 r g f) j (z_c N0 b v) j0 = z_fv N0 r ((z_wr w a j v).2.1 a) ((z_wr w a j v).2.2.1 a) j0 := by
  subst hg; subst hf; subst hkd
  rcases v with x | r0 | x | u
  · show _ = z_fv N0 r (w.2.1 a) (z_uS w.2.2.1 a j x a) j0
    rw [z_uS_self]
    by_cases hj : j0 = j
    · subst hj
      rcases z_kd_in (r.2.1 j0).2.2.1 with h | h | h
      · simp [updV, z_fv, h, upd, z_c]
      · rw [h] at hv; exact absurd hv (by simp [z_pok])
      · simp [updV, z_fv, h, upd, z_c]
    · simp [updV, z_fv, hj, upd]
  · show _ = z_fv N0 r (z_uG w.2.1 a j r0 a) (w.2.2.1 a) j0
    rw [z_uG_self]
    by_cases hj : j0 = j
    · subst hj
      rcases z_kd_in (r.2.1 j0).2.2.1 with h | h | h
      · rw [h] at hv; exact absurd hv (by simp [z_pok])
      · simp [updV, z_fv, h, z_c]
      · rw [h] at hv; exact absurd hv (by simp [z_pok])
    · simp [updV, z_fv, hj]
  · exact absurd hv (by unfold z_pok; split <;> simp_all)
  · exact absurd hv (by unfold z_pok; split <;> simp_all)
theorem z_wr_o {w : z_W} {a j : Nat} {v : z_V} (i : Nat) (hi : i ≠ a) : (z_wr w a j v).2.1 i = w.2.1 i ∧ (z_wr w a j v).2.2.1 i = w.2.2.1 i := by
  rcases v with x | r0 | x | u
  · exact ⟨rfl, z_uS_ne _ _ _ hi⟩
  · exact ⟨z_uG_ne _ _ _ hi, rfl⟩
  · exact ⟨rfl, rfl⟩
  · exact ⟨rfl, rfl⟩
theorem z_wr_T {w : z_W} {a j : Nat} {v : z_V} : ((z_wr w a j v).1, (z_wr w a j v).2.1, (z_wr w a j v).2.2.1, (z_wr w a j v).2.2.2) = z_wr w a j v := rfl
theorem z_wr_1 {w : z_W} {a j : Nat} {v : z_V} : (z_wr w a j v).1 = w.1 := by rcases v with x | r0 | x | u <;> rfl
theorem z_wr_n {w : z_W} {a j : Nat} {v : z_V} : (z_wr w a j v).2.2.2 = w.2.2.2 := by rcases v with x | r0 | x | u <;> rfl
theorem z_ptype {r : vw_C} {j : Nat} (hr : z_cok r) (hk : j < r.2.2) {v : z_V} (hv : z_pok (z_kd (r.2.1 j).2.2.1) v) (N0 : Nat) (b : z_B) : ∃ ty, parseFieldDescriptor (r.2.1 j).2.2.1 = some ty ∧ narrow ty (z_c N0 b v) = z_c N0 b v ∧ fits ty (z_c N0 b v) = true := by
  obtain ⟨⟨ty0, h1, h2⟩, -⟩ := hr
  refine ⟨ty0 j, h1 j hk, ?_⟩
  obtain ⟨q0, q2, q1⟩ := h2 j hk
  rcases v with x | r0 | x | u
  · rcases z_kd_in (r.2.1 j).2.2.1 with h | h | h
    · rw [q0 h]; exact ⟨rfl, rfl⟩
    · rw [h] at hv; exact absurd hv (by simp [z_pok])
    · rw [h] at hv
      rw [q2 h]
      rcases (show x = 0 ∨ x = 1 from hv) with rfl | rfl <;> exact ⟨rfl, rfl⟩
  · rcases z_kd_in (r.2.1 j).2.2.1 with h | h | h
    · rw [h] at hv; exact absurd hv (by simp [z_pok])
    · rcases q1 h with ⟨n, hn⟩ | ⟨t, ht⟩
      · rw [hn]; cases r0 <;> exact ⟨rfl, rfl⟩
      · rw [ht]; cases r0 <;> exact ⟨rfl, rfl⟩
    · rw [h] at hv; exact absurd hv (by simp [z_pok])
  · exact absurd hv (by unfold z_pok; split <;> simp_all)
  · exact absurd hv (by unfold z_pok; split <;> simp_all)

theorem z_put {X : z_X} {Y : z_Y} {pc nc ns : Nat} {lv : List (Nat × z_V)} {st : List z_V} {w : z_W} {idx ci j kd a : Nat} {v : z_V} (C : z_C X Y) (hd : decode Y.2.1 pc = .ok (.putfield idx, 3)) (hf : (idx, ci, j, kd) ∈ Y.2.2.2.2) (hT : w.1 a = (1, ci)) (hv : z_pok kd v) (k : z_G X Y (pc + 3, lv, st, z_wr w a j v, nc, ns)) : z_G X Y (pc, lv, v :: z_r a :: st, w, nc, ns) := by
  obtain ⟨p, l, e, R, s, m, args, below, meth, c, Q, D, cA, N0, b⟩ := X
  obtain ⟨y0, bs, nL, ret, ft⟩ := Y
  obtain ⟨hx, hb, hml, hown, hts, henv, hlk, hrt, hnm, hft, htr, hN0⟩ := C
  intro H locs ls hR hS hl
  obtain ⟨r, hr, hk, hkd, hdecl, hlink⟩ := hft _ hf
  dsimp only at hr hk hkd hdecl hlink
  have hA := hR.2 a
  rw [hT] at hA
  obtain ⟨r', hr', hob⟩ := hA
  cases hr.symm.trans hr'
  have hcok := z_cls hr
  obtain ⟨C0, T0, N⟩ := r
  dsimp only at hdecl hlink hk hob hr hkd
  have hnf : (T0 j).2.2.2 = false := by
    cases hq : (T0 j).2.2.2 with
    | false => rfl
    | true =>
      rw [hq, if_pos rfl] at hkd
      exact absurd hv (by rw [hkd]; unfold z_pok; split <;> simp_all)
  have hkd' : kd = z_kd (T0 j).2.2.1 := by rw [hkd, hnf]; rfl
  have hv' := hv
  obtain ⟨ty, hd9, hn, hfit⟩ := z_ptype (r := (C0, T0, N)) hcok hk (v := v) (by rw [← hkd']; exact hv) N0 b
  dsimp only at hd9
  obtain ⟨ty0, hty, -⟩ := hcok.1
  have hin := hcok.2.2
  dsimp only at hin hty
  have hap := va_apart (own := y0.cls) hts hin ty0 hty hcok.2.1 henv.1 hr
  obtain ⟨cell, q1, q2, q3, q4⟩ := hob
  obtain ⟨hSl, hfc, kC, hkC, hkind⟩ := henv.1.1 ci _ hr
  obtain ⟨cf, kf, fi, f, hi, hsl⟩ := hSl j hk
  have hlay := hts _ (hin _ (u_in_lay hk))
  unfold u_lay at hlay
  rw [if_neg (by rw [hnf]; decide)] at hlay
  have hst := (u_facts hfc hkC (u_lays hts hin hk) hi).1
  have h6 := u_store hfc hkC hkind hlay hi hd9 hn hfit
  have hrep : ∀ H1 : Heap, H1[N0 + a]? = some (cell.setSlot f.slot (z_c N0 b v)) → H1.size = H.size → (∀ q, q ≠ N0 + a → H1[q]? = H[q]?) → z_rep D cA N0 (z_wr w a j v) H1 := by
    intro H1 e1 e2 e3
    rw [hsl] at e1
    have h9 := z_rep.set (k := a) (z_wr w a j v).2.1 (z_wr w a j v).2.2.1 hR e2 e3 (fun i hi => z_wr_o i hi) (by
      rw [hT]
      exact ⟨(C0, T0, N), hr, t_OB.to (V := updV (z_fv N0 (C0, T0, N) (w.2.1 a) (w.2.2.1 a)) j (z_c N0 b v)) ⟨_, e1, q2, q3, t_set q4 hap hk _⟩ (fun j0 _ => z_fv_put (r := (C0, T0, N)) hkd' hv' w a rfl rfl j0)⟩)
    rw [← z_wr_1 (w := w) (a := a) (j := j) (v := v), ← z_wr_n (w := w) (a := a) (j := j) (v := v)] at h9
    exact h9
  have hcell : (H[N0 + a]?) = some cell := q1
  rcases hlink with h1 | ⟨host, h1⟩
  · refine W.putK hx hb (f := f) ⟨hown, hts _ h1, ⟨_, _, _, by rw [hdecl] at hi; exact hi⟩, hst⟩ (by rw [q2]; exact h6) q1 q3 (by rw [hsl]; exact k2_hasslot (q4 j hk)) rfl rfl hd fun H1 e1 e2 e3 => ?_
    exact k H1 _ ls (hrep H1 e1 e2 e3) (hS.put e2 e3 (Nat.le_add_right _ _)) hl
  · refine va_WputK hx hb (f := f) hown (va_Nw.use rfl (henv.2.2.2.1 _ h1)) (by rw [hdecl] at hi; exact hi) hst (by rw [q2]; exact h6) q1 q3 (by rw [hsl]; exact k2_hasslot (q4 j hk)) rfl rfl hd fun H1 e1 e2 e3 => ?_
    exact k H1 _ ls (hrep H1 e1 e2 e3) (hS.put e2 e3 (Nat.le_add_right _ _)) hl

theorem z_putF {X : z_X} {Y : z_Y} {pc nc ns : Nat} {lv : List (Nat × z_V)} {st : List z_V} {w : z_W} {idx ci j kd a : Nat} {v : z_V} (C : z_C X Y) (hd : decode Y.2.1 pc = .ok (.putfield idx, 3)) (hf : (idx, ci, j, kd + 4) ∈ Y.2.2.2.2) (hin2 : Y.1.name = "<init>") (ho : ∀ r : vw_C, vwCl[ci]? = some r → Y.1.cls = r.1) (hT : w.1 a = (1, ci)) (hv : z_pok kd v) (k : z_G X Y (pc + 3, lv, st, z_wr w a j v, nc, ns)) : z_G X Y (pc, lv, v :: z_r a :: st, w, nc, ns) := by
  obtain ⟨p, l, e, R, s, m, args, below, meth, c, Q, D, cA, N0, b⟩ := X
  obtain ⟨y0, bs, nL, ret, ft⟩ := Y
  obtain ⟨hx, hb, hml, hown, hts, henv, hlk, hrt, hnm, hft, htr, hN0⟩ := C
  intro H locs ls hR hS hl
  obtain ⟨r, hr, hk, hkd, hdecl, hlink⟩ := hft _ hf
  dsimp only at hr hk hkd hdecl hlink
  have hA := hR.2 a
  rw [hT] at hA
  obtain ⟨r', hr', hob⟩ := hA
  cases hr.symm.trans hr'
  have hcok := z_cls hr
  obtain ⟨C0, T0, N⟩ := r
  dsimp only at hdecl hlink hk hob hr hkd
  have hnf : (T0 j).2.2.2 = true := by
    cases hq : (T0 j).2.2.2 with
    | true => rfl
    | false =>
      rw [hq] at hkd
      rcases z_kd_in (T0 j).2.2.1 with h | h | h <;> rw [h] at hkd <;> simp at hkd
  have hkd' : kd = z_kd (T0 j).2.2.1 := by rw [hnf, if_pos rfl] at hkd; omega
  have hv' := hv
  obtain ⟨ty, hd9, hn, hfit⟩ := z_ptype (r := (C0, T0, N)) hcok hk (v := v) (by rw [← hkd']; exact hv) N0 b
  dsimp only at hd9
  obtain ⟨ty0, hty, -⟩ := hcok.1
  have hin := hcok.2.2
  dsimp only at hin hty
  have hap := va_apart (own := y0.cls) hts hin ty0 hty hcok.2.1 henv.1 hr
  obtain ⟨cell, q1, q2, q3, q4⟩ := hob
  obtain ⟨hSl, hfc, kC, hkC, hkind⟩ := henv.1.1 ci _ hr
  obtain ⟨cf, kf, fi, f, hi, hsl⟩ := hSl j hk
  have hlay := hts _ (hin _ (u_in_lay hk))
  unfold u_lay at hlay
  rw [if_pos hnf] at hlay
  have hst := (u_facts hfc hkC (u_lays hts hin hk) hi).1
  have hcf : m.cls = cf := by
    obtain ⟨_, _, c', _, _, _, -, -, hf', -, -, -, hown2, -⟩ := Cond.laysFinal_spec hlay
    have e1 : c' = cf := by have := hi.symm.trans hf'; simp at this; exact this.1.symm
    rw [hdecl, ← (show y0.cls = C0 from ho _ hr)] at hown2
    rw [← e1]; exact Option.some.inj (hown.symm.trans hown2)
  have h6 := u_fits hfc hkC hkind (Or.inr hlay) hi hd9 hn hfit
  have hrep : ∀ H1 : Heap, H1[N0 + a]? = some (cell.setSlot f.slot (z_c N0 b v)) → H1.size = H.size → (∀ q, q ≠ N0 + a → H1[q]? = H[q]?) → z_rep D cA N0 (z_wr w a j v) H1 := by
    intro H1 e1 e2 e3
    rw [hsl] at e1
    have h9 := z_rep.set (k := a) (z_wr w a j v).2.1 (z_wr w a j v).2.2.1 hR e2 e3 (fun i hi => z_wr_o i hi) (by
      rw [hT]
      exact ⟨(C0, T0, N), hr, t_OB.to (V := updV (z_fv N0 (C0, T0, N) (w.2.1 a) (w.2.2.1 a)) j (z_c N0 b v)) ⟨_, e1, q2, q3, t_set q4 hap hk _⟩ (fun j0 _ => z_fv_put (r := (C0, T0, N)) hkd' hv' w a rfl rfl j0)⟩)
    rw [← z_wr_1 (w := w) (a := a) (j := j) (v := v), ← z_wr_n (w := w) (a := a) (j := j) (v := v)] at h9
    exact h9
  rcases hlink with h1 | ⟨host, h1⟩
  · refine W.putFinK hx hb hown (hts _ h1) (by rw [hdecl] at hi; exact hi) hst hcf (hnm.trans hin2) (by rw [q2]; exact h6) q1 q3 (by rw [hsl]; exact k2_hasslot (q4 j hk)) rfl rfl hd fun H1 e1 e2 e3 => ?_
    exact k H1 _ ls (hrep H1 e1 e2 e3) (hS.put e2 e3 (Nat.le_add_right _ _)) hl
  · have ha : N0 + a < H.size := (Array.getElem?_eq_some_iff.mp q1).1
    refine va_Wputf hx hb hown (va_Nw.use rfl (henv.2.2.2.1 _ h1)) (by rw [hdecl] at hi; exact hi) hst (Or.inr ⟨hcf, hnm.trans hin2⟩) q1 (by rw [q3]; exact fun h => by cases h) (by rw [hsl]; exact k2_hasslot (q4 j hk)) h6.1 (by rw [q3, q2]; exact h6.2) rfl rfl hd ?_
    have e1 : (H.setIfInBounds (N0 + a) (cell.setSlot f.slot (z_c N0 b v)))[N0 + a]? = some (cell.setSlot f.slot (z_c N0 b v)) := by simp [Array.getElem?_setIfInBounds, ha]
    have e2 : (H.setIfInBounds (N0 + a) (cell.setSlot f.slot (z_c N0 b v))).size = H.size := by simp
    have e3 : ∀ q, q ≠ N0 + a → (H.setIfInBounds (N0 + a) (cell.setSlot f.slot (z_c N0 b v)))[q]? = H[q]? := fun q hq => by simp [Array.getElem?_setIfInBounds, Ne.symm hq]
    exact k _ _ ls (hrep _ e1 e2 e3) (hS.put e2 e3 (Nat.le_add_right _ _)) hl
end
section
theorem z_iald {X : z_X} {Y : z_Y} {pc nc ns : Nat} {lv : List (Nat × z_V)} {st : List z_V} {w : z_W} {a len : Nat} {i : Int32} (C : z_C X Y) (hd : decode Y.2.1 pc = .ok (.iaload, 1)) (hT : w.1 a = (2, len)) (hin : vp_in i len) (k : z_G X Y (pc + 1, lv, .inl (w.2.2.1 a i.toNatClampNeg) :: st, w, nc, ns)) : z_G X Y (pc, lv, .inl i :: z_r a :: st, w, nc, ns) := by
  obtain ⟨p, l, e, R, s, m, args, below, meth, c, Q, D, cA, N0, b⟩ := X
  obtain ⟨y0, bs, nL, ret, ft⟩ := Y
  obtain ⟨hx, hb, hml, hown, hts, henv, hlk, hrt, hnm, hft, htr, hN0⟩ := C
  intro H locs ls hR hS hl
  have hA := hR.2 a
  rw [hT] at hA
  have hlt : i.toNatClampNeg < len := Nat.not_le.mp fun q => hin (Or.inr q)
  exact W.iald (v := .int (w.2.2.1 a i.toNatClampNeg)) hx hb hA ((henv.1.2 0 _ rfl).1 len _) (fun q => by cases q) (by rw [arrV_size]; exact hin) (by rw [arrV_read _ _ hlt]) rfl rfl hd (k H locs ls hR hS hl)

theorem z_cald {X : z_X} {Y : z_Y} {pc nc ns : Nat} {lv : List (Nat × z_V)} {st : List z_V} {w : z_W} {a len : Nat} {i : Int32} (C : z_C X Y) (hd : decode Y.2.1 pc = .ok (.caload, 1)) (hT : w.1 a = (4, len)) (hin : vp_in i len) (k : z_G X Y (pc + 1, lv, .inl (w.2.2.1 a i.toNatClampNeg) :: st, w, nc, ns)) : z_G X Y (pc, lv, .inl i :: z_r a :: st, w, nc, ns) := by
  obtain ⟨p, l, e, R, s, m, args, below, meth, c, Q, D, cA, N0, b⟩ := X
  obtain ⟨y0, bs, nL, ret, ft⟩ := Y
  obtain ⟨hx, hb, hml, hown, hts, henv, hlk, hrt, hnm, hft, htr, hN0⟩ := C
  intro H locs ls hR hS hl
  have hA := hR.2 a
  rw [hT] at hA
  have hlt : i.toNatClampNeg < len := Nat.not_le.mp fun q => hin (Or.inr q)
  exact W.cald (v := .int (w.2.2.1 a i.toNatClampNeg)) hx hb hA ((henv.1.2 2 _ rfl).1 len _) (fun q => by cases q) (by rw [arrV_size]; exact hin) (by rw [arrV_read _ _ hlt]) rfl rfl hd (k H locs ls hR hS hl)

theorem z_alen {X : z_X} {Y : z_Y} {pc nc ns : Nat} {lv : List (Nat × z_V)} {st : List z_V} {w : z_W} {a len : Nat} (C : z_C X Y) (hd : decode Y.2.1 pc = .ok (.arraylength, 1)) (hT : w.1 a = (2, len)) (k : z_G X Y (pc + 1, lv, .inl (Int32.ofNat len) :: st, w, nc, ns)) : z_G X Y (pc, lv, z_r a :: st, w, nc, ns) := by
  obtain ⟨p, l, e, R, s, m, args, below, meth, c, Q, D, cA, N0, b⟩ := X
  obtain ⟨y0, bs, nL, ret, ft⟩ := Y
  obtain ⟨hx, hb, hml, hown, hts, henv, hlk, hrt, hnm, hft, htr, hN0⟩ := C
  intro H locs ls hR hS hl
  have hA := hR.2 a
  rw [hT] at hA
  exact W.alen (n := Int32.ofNat len) hx hb hA ((henv.1.2 0 _ rfl).1 len _) (by rw [arrV_size] <;> rfl) rfl rfl hd (k H locs ls hR hS hl)

theorem z_iast {X : z_X} {Y : z_Y} {pc nc ns : Nat} {lv : List (Nat × z_V)} {st : List z_V} {w : z_W} {a len : Nat} {i x : Int32} (C : z_C X Y) (hd : decode Y.2.1 pc = .ok (.iastore, 1)) (hT : w.1 a = (2, len)) (hin : vp_in i len) (k : z_G X Y (pc + 1, lv, st, (w.1, w.2.1, z_uS w.2.2.1 a i.toNatClampNeg x, w.2.2.2), nc, ns)) : z_G X Y (pc, lv, .inl x :: .inl i :: z_r a :: st, w, nc, ns) := by
  obtain ⟨p, l, e, R, s, m, args, below, meth, c, Q, D, cA, N0, b⟩ := X
  obtain ⟨y0, bs, nL, ret, ft⟩ := Y
  obtain ⟨hx, hb, hml, hown, hts, henv, hlk, hrt, hnm, hft, htr, hN0⟩ := C
  intro H locs ls hR hS hl
  have hA := hR.2 a
  rw [hT] at hA
  have hA : H[N0 + a]? = some (arrV (cA 0) len (fun j => .int (w.2.2.1 a j))) := hA
  refine W.iast hx hb hA ((henv.1.2 0 _ rfl).1 len _) (fun q => by cases q) (by rw [arrV_size]; exact hin) rfl rfl hd fun H1 e z oq => ?_
  refine k H1 _ ls (z_rep.set (k := a) w.2.1 (z_uS w.2.2.1 a i.toNatClampNeg x) hR z oq (fun j hj => ⟨rfl, z_uS_ne _ _ _ hj⟩) ?_) (hS.put z oq (Nat.le_add_right _ _)) hl
  rw [hT, z_uS_self]
  show H1[N0 + a]? = some (arrV (cA 0) len (fun j => .int (upd (w.2.2.1 a) i.toNatClampNeg x j)))
  rw [e]
  try rw [show narrow .boolean (.int x) = .int (vp_nar .boolean x) from rfl]
  try rw [show narrow .char (.int x) = .int (vp_nar .char x) from rfl]
  rw [arrV_store]
  congr 2
  funext q
  by_cases hq : q = i.toNatClampNeg
  · subst hq
    simp [updV, upd]
  · simp [updV, upd, hq]

theorem z_cast {X : z_X} {Y : z_Y} {pc nc ns : Nat} {lv : List (Nat × z_V)} {st : List z_V} {w : z_W} {a len : Nat} {i x : Int32} (C : z_C X Y) (hd : decode Y.2.1 pc = .ok (.castore, 1)) (hT : w.1 a = (4, len)) (hin : vp_in i len) (k : z_G X Y (pc + 1, lv, st, (w.1, w.2.1, z_uS w.2.2.1 a i.toNatClampNeg (vp_nar .char x), w.2.2.2), nc, ns)) : z_G X Y (pc, lv, .inl x :: .inl i :: z_r a :: st, w, nc, ns) := by
  obtain ⟨p, l, e, R, s, m, args, below, meth, c, Q, D, cA, N0, b⟩ := X
  obtain ⟨y0, bs, nL, ret, ft⟩ := Y
  obtain ⟨hx, hb, hml, hown, hts, henv, hlk, hrt, hnm, hft, htr, hN0⟩ := C
  intro H locs ls hR hS hl
  have hA := hR.2 a
  rw [hT] at hA
  have hA : H[N0 + a]? = some (arrV (cA 2) len (fun j => .int (w.2.2.1 a j))) := hA
  refine W.cast hx hb hA ((henv.1.2 2 _ rfl).1 len _) (fun q => by cases q) (by rw [arrV_size]; exact hin) rfl rfl hd fun H1 e z oq => ?_
  refine k H1 _ ls (z_rep.set (k := a) w.2.1 (z_uS w.2.2.1 a i.toNatClampNeg (vp_nar .char x)) hR z oq (fun j hj => ⟨rfl, z_uS_ne _ _ _ hj⟩) ?_) (hS.put z oq (Nat.le_add_right _ _)) hl
  rw [hT, z_uS_self]
  show H1[N0 + a]? = some (arrV (cA 2) len (fun j => .int (upd (w.2.2.1 a) i.toNatClampNeg (vp_nar .char x) j)))
  rw [e]
  try rw [show narrow .boolean (.int x) = .int (vp_nar .boolean x) from rfl]
  try rw [show narrow .char (.int x) = .int (vp_nar .char x) from rfl]
  rw [arrV_store]
  congr 2
  funext q
  by_cases hq : q = i.toNatClampNeg
  · subst hq
    simp [updV, upd]
  · simp [updV, upd, hq]

/-- a new cell -/
def z_nw (w : z_W) (sh : Nat × Nat) : z_W := (fun k => if k = w.2.2.2 then sh else w.1 k, fun k => if k = w.2.2.2 then (fun _ => none) else w.2.1 k, fun k => if k = w.2.2.2 then (fun _ => 0) else w.2.2.1 k, w.2.2.2 + 1)
theorem z_rep.nw {D : va_G} {cA : Nat → ClassId} {N0 : Nat} {w : z_W} {H H1 : Heap} {sh : Nat × Nat} (h : z_rep D cA N0 w H) (hz : H1.size = H.size + 1) (hq : ∀ q : Nat, q < H.size → H1[q]? = H[q]?)
    (ha : z_at D cA N0 sh (fun _ => none) (fun _ => 0) H.size H1) : z_rep D cA N0 (z_nw w sh) H1 := by
  refine ⟨by rw [hz, h.1]; rfl, fun j => ?_⟩
  by_cases hj : j = w.2.2.2
  · subst hj
    show z_at D cA N0 (if w.2.2.2 = w.2.2.2 then sh else w.1 _) (if w.2.2.2 = w.2.2.2 then (fun _ => none) else w.2.1 _) (if w.2.2.2 = w.2.2.2 then (fun _ => 0) else w.2.2.1 _) (N0 + w.2.2.2) H1
    rw [if_pos rfl, if_pos rfl, if_pos rfl, ← h.1]
    exact ha
  · show z_at D cA N0 (if j = w.2.2.2 then sh else w.1 j) (if j = w.2.2.2 then (fun _ => none) else w.2.1 j) (if j = w.2.2.2 then (fun _ => 0) else w.2.2.1 j) (N0 + j) H1
    rw [if_neg hj, if_neg hj, if_neg hj]
    refine (h.2 j).kept ?_
    have h1 := h.1
    by_cases hl : N0 + j < H.size
    · exact hq _ hl
    · rw [Array.getElem?_eq_none (by omega), Array.getElem?_eq_none (by omega)]
theorem z_S_nw {A : Nat → Prop} {H0 H H1 : Heap} {locs : List Loc} (h : va_S A H0 H locs) (hz : H1.size = H.size + 1) (hq : ∀ q : Nat, q < H.size → H1[q]? = H[q]?) : va_S A H0 H1 locs :=
  ⟨Nat.le_trans h.1 (by omega), fun x h1 h2 => (hq x (Nat.lt_of_lt_of_le h1 h.1)).trans (h.2.1 x h1 h2), h.2.2⟩
def z_atag : ArrayType → Nat
  | .int => 2
  | .boolean => 3
  | .char => 4
  | .long => 5
  | _ => 0

theorem z_new {X : z_X} {Y : z_Y} {pc nc ns : Nat} {lv : List (Nat × z_V)} {st : List z_V} {w : z_W} {idx ci : Nat} {r : vw_C} {rm : Room} (C : z_C X Y) (hd : decode Y.2.1 pc = .ok (.new idx, 3)) (hrm : X.2.2.2.1 = rm) (hc : vwCl[ci]? = some r) (h1 : Cond.classLink Y.1.cls idx r.1 ∈ z_WB) (h2 : Cond.instantiable r.1 r.2.2 ∈ z_WB) (h3 : Cond.initialized r.1 ∈ z_WB) (hcells : nc + 1 ≤ rm.cells) (hslots : ns + r.2.2 ≤ rm.slots) (k : z_G X Y (pc + 3, lv, z_r w.2.2.2 :: st, z_nw w (1, ci), nc + 1, ns + r.2.2)) : z_G X Y (pc, lv, st, w, nc, ns) := by
  obtain ⟨p, l, e, R, s, m, args, below, meth, c, Q, D, cA, N0, b⟩ := X
  obtain ⟨y0, bs, nL, ret, ft⟩ := Y
  obtain ⟨hx, hb, hml, hown, hts, henv, hlk, hrt, hnm, hft, htr, hN0⟩ := C
  intro H locs ls hR hS hl
  have hKn := henv.1.1 ci _ hc
  obtain ⟨⟨ty0, hty, hk9⟩, -, hin⟩ := z_cls hc
  cases hrm
  refine W.newcK hx hb hown (hts _ h1) (hts _ h2) (hts _ h3) rfl hd hcells hslots hKn.2.1 rfl fun H1 kC hkC e1 z1 o1 => ?_
  have h9 := k H1 locs ls (hR.nw z1 o1 ?_) (z_S_nw hS z1 o1) hl
  · rw [show (Value.ref H.size : Value) = z_c N0 b (z_r w.2.2.2) from by rw [hR.1]; rfl]
    exact h9
  · refine ⟨r, hc, (u_born ty0 hts hin hKn hkC e1 hty).to (fun j hj => ?_)⟩
    unfold z_fv
    obtain ⟨q0, q2, q1⟩ := hk9 j hj
    rcases z_kd_in (r.2.1 j).2.2.1 with h | h | h
    · rw [h, q0 h]; rfl
    · rw [h]; rcases q1 h with ⟨n, hn⟩ | ⟨t, ht⟩
      · rw [hn]; rfl
      · rw [ht]; rfl
    · rw [h, q2 h]; rfl

theorem z_newa {X : z_X} {Y : z_Y} {pc nc ns : Nat} {lv : List (Nat × z_V)} {st : List z_V} {w : z_W} {aty : ArrayType} {i : Int32} {N : Nat} {rm : Room} (hty : aty = .int ∨ aty = .char) (C : z_C X Y) (hd : decode Y.2.1 pc = .ok (.newarray aty, 2)) (hrm : X.2.2.2.1 = rm) (h1 : Cond.arrayClass (newarray.typeOf aty) ∈ z_WB) (hn : ¬ i < 0) (hN : i.toNatClampNeg = N) (hbytes : N * componentBytes (newarray.typeOf aty) ≤ 536870912) (hcells : nc + 1 ≤ rm.cells) (hslots : ns + N ≤ rm.slots) (k : z_G X Y (pc + 2, lv, z_r w.2.2.2 :: st, z_nw w (z_atag aty, N), nc + 1, ns + N)) : z_G X Y (pc, lv, .inl i :: st, w, nc, ns) := by
  obtain ⟨p, l, e, R, s, m, args, below, meth, c, Q, D, cA, N0, b⟩ := X
  obtain ⟨y0, bs, nL, ret, ft⟩ := Y
  obtain ⟨hx, hb, hml, hown, hts, henv, hlk, hrt, hnm, hft, htr, hN0⟩ := C
  intro H locs ls hR hS hl
  cases hrm
  subst hN
  refine va_newaK hx hb (hts _ h1) rfl hd rfl hn rfl hbytes hcells hslots rfl fun H1 cX e1 z1 o1 hAr hNm => ?_
  have h9 := k H1 locs ls (hR.nw z1 o1 ?_) (z_S_nw hS z1 o1) hl
  · rw [show (Value.ref H.size : Value) = z_c N0 b (z_r w.2.2.2) from by rw [hR.1]; rfl]
    exact h9
  · have n0 : s.vm.findClass "[I" = some (cA 0) := (henv.1.2 0 _ rfl).2
    have n2 : s.vm.findClass "[C" = some (cA 2) := (henv.1.2 2 _ rfl).2
    rcases hty with rfl | rfl
    · have e0 : cX = cA 0 := Option.some.inj ((show s.vm.findClass "[I" = some cX from hNm).symm.trans n0)
      subst e0; exact e1
    · have e0 : cX = cA 2 := Option.some.inj ((show s.vm.findClass "[C" = some cX from hNm).symm.trans n2)
      subst e0; exact e1
end
section
/-! METHODS: what a method owes, its end, its body, and calls of it -/
def z_Qc (D : va_G) (cA : Nat → ClassId) (N0 : Nat) (b : z_B) (Post : Option z_V → z_W → Prop) : Array Value → State → Outcome → State → Prop := fun _ st o t =>
  (∃ (v : Option z_V) (w' : z_W), o = .returned (v.map (z_c N0 b)) ∧ Post v w' ∧ z_rep D cA N0 w' t.heap) ∧ va_F (fun q => N0 ≤ q) st t
def z_XC (D : va_G) (cA : Nat → ClassId) (N0 : Nat) (PX : String → z_W → Prop) : String → State → State → Prop := fun E st t => (∃ w' : z_W, PX E w' ∧ z_rep D cA N0 w' t.heap) ∧ va_F (fun q => N0 ≤ q) st t
/-- this end takes a return -/
def z_RT (X : z_X) (rm : Room) (Post : Option z_V → z_W → Prop) : Prop :=
  match X with
  | (p, l, e, R, s, m, args, below, meth, c, Q, D, cA, N0, b) => ∀ (H : Heap) (locs : List Loc) (g : JFrame), W p l e R s m args below meth c H locs rm.cells rm.slots (MQ below (z_Qc D cA N0 b Post) args s rm.cells rm.slots (fun q => N0 ≤ q)) g →
      W p l e R s m args below meth c H locs rm.cells rm.slots Q g
def z_M (X : z_X) (Y : z_Y) (rm : Room) (Post : Option z_V → z_W → Prop) : Prop := z_C X Y ∧ X.2.2.2.1 = rm ∧ z_RT X rm Post
/-- thrown: the frame at pc, an exception of class E over it -/
def z_GX (X : z_X) (Y : z_Y) (E : String) (k : z_K) : Prop :=
  match X with
  | (p, l, e, R, s, m, args, below, meth, c, Q, D, cA, N0, b) => ∀ (H : Heap) (locs : List Loc) (ls : Array Slot) (ce : Cell) (q : Addr), z_rep D cA N0 k.2.2.2.1 H → va_S (fun q => N0 ≤ q) s.heap H locs →
      lv_has ls Y.2.2.1 (k.2.1.map (fun q => (q.1, z_c N0 b q.2))) → H[q]? = some ce → ce.vm = .none → s.vm.findClass E = some ce.cls → vx_W p l e R s m args below meth c H locs k.2.2.2.2.1 k.2.2.2.2.2 Q (F0 m k.1 ls (k.2.2.1.map (z_c N0 b))) q
/-- this end takes a throw -/
def z_XT (X : z_X) (Y : z_Y) (rm : Room) (PX : String → z_W → Prop) : Prop := ∀ (E : String) (k : z_K), PX E k.2.2.2.1 → k.2.2.2.2.1 ≤ rm.cells → k.2.2.2.2.2 ≤ rm.slots → z_GX X Y E k
def z_MX (X : z_X) (Y : z_Y) (rm : Room) (Post : Option z_V → z_W → Prop) (PX : String → z_W → Prop) : Prop := z_M X Y rm Post ∧ z_XT X Y rm PX
theorem z_iret {X : z_X} {Y : z_Y} {rm : Room} {Post : Option z_V → z_W → Prop} {pc nc ns : Nat} {lv : List (Nat × z_V)} {w : z_W} {x : Int32} (M : z_M X Y rm Post) (hd : decode Y.2.1 pc = .ok (.ireturn, 1)) (ty : FieldType) (hty : Y.2.2.2.1 = some ty) (hn : narrow ty (.int x) = .int x)
    (hc : nc ≤ rm.cells) (hs : ns ≤ rm.slots) (hp : Post (some (.inl x)) w) : z_G X Y (pc, lv, [.inl x], w, nc, ns) := by
  obtain ⟨C, hrm, hRT⟩ := M
  obtain ⟨p, l, e, R, s, m, args, below, meth, c, Q, D, cA, N0, b⟩ := X
  obtain ⟨y0, bs, nL, ret, ft⟩ := Y
  obtain ⟨hx, hb, hml, hown, hts, henv, hlk, hrt, hnm, hft, htr, hN0⟩ := C
  intro H locs ls hR hS hl
  exact W.widen hc hs (hRT _ _ _ (W.zret hx hb (hrt.trans hty) hn (fun t ht hW => ⟨⟨some (.inl x), w, rfl, hp, by rw [ht]; exact hR⟩, hS.F ht⟩) hS.2.2 hd hlk))
theorem z_vret {X : z_X} {Y : z_Y} {rm : Room} {Post : Option z_V → z_W → Prop} {pc nc ns : Nat} {lv : List (Nat × z_V)} {w : z_W} (M : z_M X Y rm Post) (hd : decode Y.2.1 pc = .ok (.return_, 1)) (hty : Y.2.2.2.1 = none)
    (hc : nc ≤ rm.cells) (hs : ns ≤ rm.slots) (hp : Post none w) : z_G X Y (pc, lv, [], w, nc, ns) := by
  obtain ⟨C, hrm, hRT⟩ := M
  obtain ⟨p, l, e, R, s, m, args, below, meth, c, Q, D, cA, N0, b⟩ := X
  obtain ⟨y0, bs, nL, ret, ft⟩ := Y
  obtain ⟨hx, hb, hml, hown, hts, henv, hlk, hrt, hnm, hft, htr, hN0⟩ := C
  intro H locs ls hR hS hl
  exact W.widen hc hs (hRT _ _ _ (W.vret hx hb (hrt.trans hty) (fun t ht hW => ⟨⟨none, w, rfl, hp, by rw [ht]; exact hR⟩, hS.F ht⟩) hS.2.2 hd hlk))
theorem z_env.same {D : va_G} {cA : Nat → ClassId} {N0 : Nat} {b : z_B} {u U : State} {H : Heap} (hvm : u.vm = U.vm) (h : z_env D cA N0 b u H) : z_env D cA N0 b U H := by
  have ha : u.vm.Alike U.vm := by rw [hvm]; exact Vm.Alike.refl _
  exact ⟨va_K.moved ha h.1, vx_Zq.moved ha h.2.1, vx_Zq.moved ha h.2.2.1, fun w hw => va_Nw.same (z_N_tab (List.mem_filter.mp hw).2) hvm (h.2.2.2.1 w hw), fun q hq => (h.2.2.2.2.1 q hq).imp fun a ha => vk_R.same hvm.symm ha, fun q hq => va_Nc.moved ha (h.2.2.2.2.2.1 q hq), va_T.moved ha h.2.2.2.2.2.2⟩
theorem z_env.warm {D : va_G} {cA : Nat → ClassId} {N0 : Nat} {b : z_B} {u U : State} {H : Heap} (hW : u.WarmedH U.vm) (h : z_env D cA N0 b u H) : z_env D cA N0 b U H :=
  ⟨va_K.moved hW.alike h.1, vx_Zq.moved hW.alike h.2.1, vx_Zq.moved hW.alike h.2.2.1, fun w hw => z_N_warm (List.mem_filter.mp hw).2 hW (h.2.2.2.1 w hw), fun q hq => (h.2.2.2.2.1 q hq).imp fun a ha => vk_R.warm hW ha, fun q hq => va_Nc.moved hW.alike (h.2.2.2.2.2.1 q hq), va_T.moved hW.alike h.2.2.2.2.2.2⟩
theorem z_env.kept {D : va_G} {cA : Nat → ClassId} {N0 : Nat} {b : z_B} {U : State} {H H1 : Heap} (h : z_env D cA N0 b U H) (hq : ∀ a : Nat, a < H.size → ¬ N0 ≤ a → H1[a]? = H[a]?) : z_env D cA N0 b U H1 := ⟨h.1, vx_Zq.kept h.2.1 hq, vx_Zq.kept h.2.2.1 hq, h.2.2.2.1, h.2.2.2.2.1, h.2.2.2.2.2.1, va_T.kept h.2.2.2.2.2.2 hq⟩
def z_wsY (Y : z_Y) : List Cond := Cond.code Y.1 Y.2.1 Y.2.2.1 Y.2.2.2.1 :: z_WB
/-- what a method needs at its start -/
def z_Pc (D : va_G) (cA : Nat → ClassId) (N0 : Nat) (b : z_B) (av : List z_V) (w : z_W) : Array Value → State → Prop := va_Pc (av.map (z_c N0 b)) (fun U => z_env D cA N0 b U U.heap ∧ z_rep D cA N0 w U.heap)
theorem z_Pc_blind {D : va_G} {cA : Nat → ClassId} {N0 : Nat} {b : z_B} {av : List z_V} {w : z_W} : FrameBlind (z_Pc D cA N0 b av w) := fun a U g mk h => ⟨h.1, z_env.same (u := U) (U := U.calling g mk a) rfl h.2.1, h.2.2⟩
/-- a method's contract: from these arguments and this memory it returns, and Post -/
def z_Run (rm : Room) (Y : z_Y) (av : List z_V) (w : z_W) (Post : Option z_V → z_W → Prop) : Prop :=
  ∀ (l : Launch) (D : va_G) (cA : Nat → ClassId) (N0 : Nat) (b : z_B), l.stackTraces = false → Met l Y.1 (z_wsY Y) rm (z_Pc D cA N0 b av w) (z_Qc D cA N0 b Post) rm.cells rm.slots (fun q => N0 ≤ q)
/-- .. it returns, and Post, or throws, and PX -/
def z_RunX (rm : Room) (Y : z_Y) (av : List z_V) (w : z_W) (Post : Option z_V → z_W → Prop) (PX : String → z_W → Prop) : Prop :=
  ∀ (l : Launch) (D : va_G) (cA : Nat → ClassId) (N0 : Nat) (b : z_B), l.stackTraces = false → vx_Met l Y.1 (z_wsY Y) rm (z_Pc D cA N0 b av w) (z_Qc D cA N0 b Post) (z_XC D cA N0 PX) rm.cells rm.slots (fun q => N0 ≤ q)
def z_args : Nat → List z_V → List (Nat × z_V)
  | _, [] => []
  | i, v :: vs => (i, v) :: z_args (if z_ct v = 2 then i + 2 else i + 1) vs
theorem z_args_eq (N0 : Nat) (b : z_B) (vs : List z_V) : ∀ i, lv_args i (vs.map (z_c N0 b)) = (z_args i vs).map (fun q => (q.1, z_c N0 b q.2)) := by
  induction vs with
  | nil => intro i; rfl
  | cons v vs ih =>
    intro i
    show (i, z_c N0 b v) :: lv_args (if (z_c N0 b v).category = 2 then i + 2 else i + 1) (vs.map (z_c N0 b)) = (i, z_c N0 b v) :: (z_args (if z_ct v = 2 then i + 2 else i + 1) vs).map _
    rw [z_ct_c, ih]
theorem z_sl_len (N0 : Nat) (b : z_B) (vs : List z_V) : (lg_sl (vs.map (z_c N0 b))).length = (vs.map z_ct).sum := by
  induction vs with
  | nil => rfl
  | cons v vs ih =>
    have h : lg_sl ((v :: vs).map (z_c N0 b)) = (if (z_c N0 b v).category = 2 then [Slot.val (z_c N0 b v), Slot.second] else [Slot.val (z_c N0 b v)]) ++ lg_sl (vs.map (z_c N0 b)) := by simp [lg_sl]
    rw [h, List.length_append, ih, List.map_cons, List.sum_cons, z_ct_c]
    rcases v with x | r | x | u <;> simp [z_ct]
theorem z_body {rm : Room} {Y : z_Y} {av : List z_V} {w : z_W} {Post : Option z_V → z_W → Prop} (hy : plainName Y.1.cls = true) (hft : ∀ q ∈ Y.2.2.2.2, z_fok Y.1.cls q) (hn : (av.map z_ct).sum ≤ Y.2.2.1)
    (hb : ∀ X : z_X, z_M X Y rm Post → z_G X Y (0, z_args 0 av, [], w, 0, 0)) : z_Run rm Y av w Post := by
  intro l D cA N0 b htr
  obtain ⟨y, bs, nL, ret, ft⟩ := Y
  refine Met.ofW (cc := bs) (maxL := nL) (ret := ret) hy rfl ?_
  intro p e s m args below meth c s₁ B hml hv
  obtain ⟨rfl, henv, hrep⟩ := hv
  have hts := atoms_spec (ws := z_wsY (y, bs, nL, ret, ft)) B.pre
  have hl := lv_entry (av.map (z_c N0 b)) (n := nL) (by rw [z_sl_len]; exact hn)
  rw [z_args_eq] at hl
  rw [lg_entry_eq]
  refine hb (p, l, e, rm, s, m, (av.map (z_c N0 b)).toArray, below, meth, c, MQ below (z_Qc D cA N0 b Post) (av.map (z_c N0 b)).toArray s rm.cells rm.slots (fun q => N0 ≤ q), D, cA, N0, b)
    ⟨⟨B.exec, B.bytes, hml, findClass_of_methodNamed B.named, fun w h => hts w (List.mem_cons_of_mem _ h), henv, B.notSynchronized, B.returns, (name_of_methodNamed B.named B.method).1, hft, htr, by have := hrep.1; omega⟩, rfl, fun H locs g k => k⟩ s.heap [] _ hrep va_S.rf hl
theorem z_bodyX {rm : Room} {Y : z_Y} {av : List z_V} {w : z_W} {Post : Option z_V → z_W → Prop} {PX : String → z_W → Prop} (hy : plainName Y.1.cls = true) (hft : ∀ q ∈ Y.2.2.2.2, z_fok Y.1.cls q) (hn : (av.map z_ct).sum ≤ Y.2.2.1)
    (hb : ∀ X : z_X, z_MX X Y rm Post PX → z_G X Y (0, z_args 0 av, [], w, 0, 0)) : z_RunX rm Y av w Post PX := by
  intro l D cA N0 b htr
  obtain ⟨y, bs, nL, ret, ft⟩ := Y
  refine vx_ofW (cc := bs) (maxL := nL) (ret := ret) hy rfl ?_
  intro p e s m args below meth c s₁ B hml htab hv
  obtain ⟨rfl, henv, hrep⟩ := hv
  have hts := atoms_spec (ws := z_wsY (y, bs, nL, ret, ft)) B.pre
  have hl := lv_entry (av.map (z_c N0 b)) (n := nL) (by rw [z_sl_len]; exact hn)
  rw [z_args_eq] at hl
  rw [lg_entry_eq]
  refine hb (p, l, e, rm, s, m, (av.map (z_c N0 b)).toArray, below, meth, c, vx_MQ below (z_Qc D cA N0 b Post) (z_XC D cA N0 PX) (av.map (z_c N0 b)).toArray s rm.cells rm.slots (fun q => N0 ≤ q), D, cA, N0, b)
    ⟨⟨⟨B.exec, B.bytes, hml, findClass_of_methodNamed B.named, fun w h => hts w (List.mem_cons_of_mem _ h), henv, B.notSynchronized, B.returns, (name_of_methodNamed B.named B.method).1, hft, htr, by have := hrep.1; omega⟩, rfl, fun H locs g k => vx_ret k⟩, fun E k hpx hc hs H locs ls ce q hR hS hl h1 h2 h3 => ?_⟩ s.heap [] _ hrep va_S.rf hl
  exact vx_out (fun x hx => (htab x hx).elim) B.notSynchronized h1 h2 h3 (fun t ht hvm => ⟨⟨k.2.2.2.1, hpx, by rw [ht]; exact hR⟩, hS.F ht⟩) hS.2.2 hc hs
section ZC
variable {p : Program} {l : Launch} {e : Env} {R : Room} {s : State} {m : MethodId} {args : Array Value} {below : List Frame} {meth : Method} {c : Code} {H : Heap} {locs : List Loc} {cells slots : Nat} {Q : State → Prop}
theorem z_cont {D : va_G} {cA : Nat → ClassId} {N0 pc mc ms : Nat} {b : z_B} {ls : Array Slot} {st0 rest : List Value} {a : Array Value} {Post : Option z_V → z_W → Prop} (hr : va_Run p l e R s m args below meth c H locs cells slots mc ms (F0 m pc ls st0) rest (z_Qc D cA N0 b Post a) (fun q => N0 ≤ q)) (hS : va_S (fun q => N0 ≤ q) s.heap H locs)
    (kk : ∀ (v : Option z_V) (w' : z_W) (H1 : Heap) (locs1 : List Loc), Post v w' → z_rep D cA N0 w' H1 → va_S (fun q => N0 ≤ q) s.heap H1 locs1 → W p l e R s m args below meth c H1 locs1 (cells + mc) (slots + ms) Q (F0 m (pc + 3) ls ((v.map (z_c N0 b)).toList ++ rest))) : W p l e R s m args below meth c H locs cells slots Q (F0 m pc ls st0) := by
  intro T hT X
  obtain ⟨v, st₀, t, T', L, h0, X', hL, e1, e2, ⟨⟨u, w', hv, hp, hb⟩, hz, hk⟩, st⟩ := hr T hT X
  cases hv
  rw [h0] at hz hk
  obtain ⟨t2, a1, b1⟩ := kk u w' T'.heap (locs ++ L) hp (by rw [e1]; exact hb)
    ⟨Nat.le_trans hS.1 (by rw [e1]; exact hz), fun q h1 h2 => by rw [e1, hk q (Nat.lt_of_lt_of_le h1 hS.1) h2]; exact hS.2.1 q h1 h2, fun q hq => by
      rcases List.mem_append.mp hq with h | h
      · exact hS.2.2 q h
      · exact hL q h⟩ T' rfl X'
  exact ⟨t2, st t2 a1, b1⟩
theorem z_contX {D : va_G} {cA : Nat → ClassId} {N0 pc mc ms : Nat} {b : z_B} {ls : Array Slot} {st0 rest : List Value} {a : Array Value} {Post : Option z_V → z_W → Prop} {PX : String → z_W → Prop} (hr : vx_Run p l e R s m args below meth c H locs cells slots mc ms (F0 m pc ls st0) rest (z_Qc D cA N0 b Post a) (z_XC D cA N0 PX) (fun q => N0 ≤ q)) (hS : va_S (fun q => N0 ≤ q) s.heap H locs)
    (kx : ∀ (E : String) (w' : z_W) (H1 : Heap) (locs1 : List Loc) (ce : Cell) (q : Addr), PX E w' → z_rep D cA N0 w' H1 → va_S (fun q => N0 ≤ q) s.heap H1 locs1 → H1[q]? = some ce → ce.vm = .none → s.vm.findClass E = some ce.cls → vx_W p l e R s m args below meth c H1 locs1 (cells + mc) (slots + ms) Q (F0 m pc ls rest) q)
    (kk : ∀ (v : Option z_V) (w' : z_W) (H1 : Heap) (locs1 : List Loc), Post v w' → z_rep D cA N0 w' H1 → va_S (fun q => N0 ≤ q) s.heap H1 locs1 → W p l e R s m args below meth c H1 locs1 (cells + mc) (slots + ms) Q (F0 m (pc + 3) ls ((v.map (z_c N0 b)).toList ++ rest))) : W p l e R s m args below meth c H locs cells slots Q (F0 m pc ls st0) := by
  intro T hT X
  rcases hr T hT X with ⟨v, st₀, t, T', L, h0, X', hL, e1, e2, ⟨⟨u, w', hv, hp, hb⟩, hF⟩, st⟩ | ⟨q, st₀, t, T', L, E, ce, h0, X', hL, e1, e2, ⟨⟨w', hp, hb⟩, hF⟩, hce, hcv, hcl, st⟩
  · cases hv
    obtain ⟨-, -, k3⟩ := vx_keep h0 e1 hS (fun _ _ h => h) (fun _ h => h) hL hF
    obtain ⟨t2, a1, b1⟩ := kk u w' T'.heap (locs ++ L) hp (by rw [e1]; exact hb) k3 T' rfl X'
    exact ⟨t2, st t2 a1, b1⟩
  · obtain ⟨-, -, k3⟩ := vx_keep h0 e1 hS (fun _ _ h => h) (fun _ h => h) hL hF
    obtain ⟨t2, a1, b1⟩ := kx E w' T'.heap (locs ++ L) ce q hp (by rw [e1]; exact hb) k3 (by rw [e1]; exact hce) hcv hcl T' rfl X'
    exact ⟨t2, st.trans a1, b1⟩
end ZC
/-- what the tables say of a call, but its kind: the method's code, its class, how many arguments, the link -/
def z_lk (own : String) (idx : Nat) (Y' : z_Y) (n : Nat) : Prop :=
  Cond.code Y'.1 Y'.2.1 Y'.2.2.1 Y'.2.2.2.1 ∈ z_WB ∧ Cond.initialized Y'.1.cls ∈ z_WB ∧ (Y'.1.cls ≠ "java/lang/invoke/MethodHandle" ∧ Y'.1.cls ≠ "java/lang/invoke/VarHandle") ∧ (parseMethodDescriptor Y'.1.desc).map (fun d => d.parameters.length) = some n ∧
    (Cond.methodLink own idx Y'.1 ∈ z_WB ∨ ∃ host : String, Cond.methodLinkNest own idx Y'.1 host ∈ z_NB)
def z_fit (rm rm' : Room) (Y' : z_Y) (nc ns : Nat) : Prop := rm'.frames + 1 ≤ rm.frames ∧ 8 + (Y'.2.2.1 + 11) + rm'.locals ≤ rm.locals ∧ nc + rm'.cells ≤ rm.cells ∧ ns + rm'.slots ≤ rm.slots
theorem z_good {args : Array Value} {s : State} (hts : ∀ w ∈ z_WB, w.before args s = true) {Y' : z_Y} (hc : Cond.code Y'.1 Y'.2.1 Y'.2.2.1 Y'.2.2.2.1 ∈ z_WB) : ∀ w ∈ z_wsY Y', ∀ (a' : Array Value) (U : State), s.WarmedH U.vm → w.before a' U = true := by
  have h1 : GoodIn z_WB (z_wsY Y') := by
    intro w hw
    have hm : w ∈ z_WB := by
      rcases List.mem_cons.mp hw with h | h
      · rw [h]; exact hc
      · exact h
    exact ⟨hm, good_of_word (List.mem_filter.mp hm).2⟩
  exact pay_in hts h1
theorem z_cat (N0 : Nat) (b : z_B) (st : List z_V) : ((st.map (z_c N0 b)).map fun v => v.category).sum = (st.map z_ct).sum := by
  rw [List.map_map]
  congr 1
  apply List.map_congr_left
  intro v _
  exact z_ct_c N0 b v
end
section
section ZCALL
variable {X : z_X} {Y Y' : z_Y} {pc nc ns idx : Nat} {lv : List (Nat × z_V)} {st stk av : List z_V} {w : z_W} {rm rm' : Room} {Post : Option z_V → z_W → Prop} {PX : String → z_W → Prop}
theorem z_pre {p : Program} {l : Launch} {e : Env} {R : Room} {s : State} {m : MethodId} {args : Array Value} {D : va_G} {cA : Nat → ClassId} {N0 : Nat} {b : z_B} {H : Heap} {locs : List Loc} (henv : z_env D cA N0 b s s.heap) (hR : z_rep D cA N0 w H) (hS : va_S (fun q => N0 ≤ q) s.heap H locs) :
    FrameBlind (z_Pc D cA N0 b av w) ∧ ∀ U : State, U.heap = H → s.WarmedH U.vm → z_Pc D cA N0 b av w (av.map (z_c N0 b)).toArray U :=
  ⟨z_Pc_blind, fun U hU hW => ⟨rfl, by rw [hU]; exact (henv.kept hS.2.1).warm hW, by rw [hU]; exact hR⟩⟩
theorem z_callS (C : z_C X Y) (hd : decode Y.2.1 pc = .ok (.invokestatic idx, 3)) (hrun : z_Run rm' Y' av w Post) (hrm : X.2.2.2.1 = rm) (hk : z_lk Y.1.cls idx Y' av.length) (hst9 : Cond.static Y'.1 ∈ z_WB) (hf : z_fit rm rm' Y' nc ns) (hstk : stk = av.reverse ++ st) (h8 : (st.map z_ct).sum ≤ 8)
    (kk : ∀ v w', Post v w' → z_G X Y (pc + 3, lv, v.toList ++ st, w', nc + rm'.cells, ns + rm'.slots)) : z_G X Y (pc, lv, stk, w, nc, ns) := by
  obtain ⟨p, l, e, R, s, m, args, below, meth, c, Q, D, cA, N0, b⟩ := X
  obtain ⟨y0, bs, nL, ret, ft⟩ := Y
  obtain ⟨y1, bs1, nL1, ret1, ft1⟩ := Y'
  obtain ⟨hx, hb, hml, hown, hts, henv, hlk, hrt, hnm, hft, htr, hN0⟩ := C
  intro H locs ls hR hS hl
  cases hrm
  subst hstk
  obtain ⟨hcode, hini, hy, hn, hl2⟩ := hk
  obtain ⟨f1, f2, f3, f4⟩ := hf
  have hpre := z_pre (p := p) (l := l) (e := e) (R := R) (m := m) (args := args) (b := b) (av := av) henv hR hS
  have hn2 : ∀ sig, parseMethodDescriptor y1.desc = some sig → av.length = sig.parameters.length := fun sig h => by
    rw [h] at hn; exact (Option.some.inj hn).symm
  have hlen : (av.map (z_c N0 b)).length = av.length := List.length_map ..
  have hstack : ((av.reverse ++ st).map (z_c N0 b)) = (av.map (z_c N0 b)).reverse ++ st.map (z_c N0 b) := by rw [List.map_append, List.map_reverse]
  have h88 : ((st.map (z_c N0 b)).map fun v => v.category).sum ≤ 8 := by rw [z_cat]; exact h8
  have kk' : ∀ (v : Option z_V) (w' : z_W) (H1 : Heap) (locs1 : List Loc), Post v w' → z_rep D cA N0 w' H1 → va_S (fun q => N0 ≤ q) s.heap H1 locs1 → W p l e R s m args below meth c H1 locs1 (nc + rm'.cells) (ns + rm'.slots) Q (F0 m (pc + 3) ls ((v.map (z_c N0 b)).toList ++ st.map (z_c N0 b))) := by
    intro v w' H1 locs1 h1 h2 h3
    have h9 := kk v w' h1 H1 locs1 ls h2 h3 hl
    cases v <;> exact h9
  rcases hl2 with h1 | ⟨host, h1⟩
  · refine z_cont (rest := st.map (z_c N0 b)) (a := (av.map (z_c N0 b)).toArray) (va_runS (nL := nL) (own := y0.cls) ⟨hx, hb, hml, hown, hts⟩ (hrun l D cA N0 b htr) ⟨⟨rfl, rfl, f1, f2, z_good hts hcode, List.mem_cons_self, hts _ hcode, hts _ hini, hy, hn2, hts _ h1⟩, hts _ hst9⟩ hpre rfl hlen hl.1 hstack (lv_room h88) hd ⟨f3, f4⟩) hS kk'
  · refine z_cont (rest := st.map (z_c N0 b)) (a := (av.map (z_c N0 b)).toArray) (va_runSN (nL := nL) (own := y0.cls) ⟨hx, hb, hml, hown, hts⟩ (hrun l D cA N0 b htr) ⟨⟨⟨rfl, rfl, f1, f2, z_good hts hcode, List.mem_cons_self⟩, hts _ hcode, hts _ hini, hy, hn2, va_Nw.use rfl (henv.2.2.2.1 _ h1)⟩, hts _ hst9, trivial⟩ hpre rfl hlen hl.1 hstack (lv_room h88) hd ⟨f3, f4⟩) hS kk'
theorem z_callV {a ci : Nat} {r : vw_C} (C : z_C X Y) (hd : decode Y.2.1 pc = .ok (.invokevirtual idx, 3)) (hrun : z_Run rm' Y' (z_r a :: av) w Post) (hrm : X.2.2.2.1 = rm) (hk : z_lk Y.1.cls idx Y' av.length) (h2 : Cond.instanceMethod Y'.1 ∈ z_WB ∧ Cond.selects Y'.1.cls Y'.1 Y'.1 ∈ z_WB) (hT : w.1 a = (1, ci)) (hc : vwCl[ci]? = some r) (hcl : r.1 = Y'.1.cls) (hf : z_fit rm rm' Y' nc ns) (hstk : stk = av.reverse ++ z_r a :: st) (h8 : (st.map z_ct).sum ≤ 8)
    (kk : ∀ v w', Post v w' → z_G X Y (pc + 3, lv, v.toList ++ st, w', nc + rm'.cells, ns + rm'.slots)) : z_G X Y (pc, lv, stk, w, nc, ns) := by
  obtain ⟨p, l, e, R, s, m, args, below, meth, c, Q, D, cA, N0, b⟩ := X
  obtain ⟨y0, bs, nL, ret, ft⟩ := Y
  obtain ⟨y1, bs1, nL1, ret1, ft1⟩ := Y'
  obtain ⟨hx, hb, hml, hown, hts, henv, hlk, hrt, hnm, hft, htr, hN0⟩ := C
  intro H locs ls hR hS hl
  cases hrm
  subst hstk
  obtain ⟨hcode, hini, hy, hn, hl2⟩ := hk
  obtain ⟨f1, f2, f3, f4⟩ := hf
  have hpre := z_pre (p := p) (l := l) (e := e) (R := R) (m := m) (args := args) (b := b) (av := z_r a :: av) henv hR hS
  have hA := hR.2 a
  rw [hT] at hA
  obtain ⟨r', hr', cell, g1, g2, g3, -⟩ := hA
  cases hc.symm.trans hr'
  have hrecv : ∃ cellB : Cell, H[N0 + a]? = some cellB ∧ cellB.vm.isStatics = false ∧ s.vm.findClass y1.cls = some cellB.cls := ⟨cell, g1, by rw [g3]; rfl, by rw [g2, ← hcl]; exact (henv.1.1 ci r hc).2.1⟩
  have hn2 : ∀ sig, parseMethodDescriptor y1.desc = some sig → av.length = sig.parameters.length := fun sig h => by
    rw [h] at hn; exact (Option.some.inj hn).symm
  have hlen : (av.map (z_c N0 b)).length = av.length := List.length_map ..
  have hstack : ((av.reverse ++ z_r a :: st).map (z_c N0 b)) = (av.map (z_c N0 b)).reverse ++ Value.ref (N0 + a) :: st.map (z_c N0 b) := by rw [List.map_append, List.map_reverse]; rfl
  have h88 : ((st.map (z_c N0 b)).map fun v => v.category).sum ≤ 8 := by rw [z_cat]; exact h8
  have kk' : ∀ (v : Option z_V) (w' : z_W) (H1 : Heap) (locs1 : List Loc), Post v w' → z_rep D cA N0 w' H1 → va_S (fun q => N0 ≤ q) s.heap H1 locs1 → W p l e R s m args below meth c H1 locs1 (nc + rm'.cells) (ns + rm'.slots) Q (F0 m (pc + 3) ls ((v.map (z_c N0 b)).toList ++ st.map (z_c N0 b))) := by
    intro v w' H1 locs1 h1 h2 h3
    have h9 := kk v w' h1 H1 locs1 ls h2 h3 hl
    cases v <;> exact h9
  rcases hl2 with h1 | ⟨host, h1⟩
  · refine z_cont (rest := st.map (z_c N0 b)) (a := (Value.ref (N0 + a) :: av.map (z_c N0 b)).toArray) (va_runV (nL := nL) (own := y0.cls) (C := y1.cls) ⟨hx, hb, hml, hown, hts⟩ (hrun l D cA N0 b htr) ⟨⟨rfl, rfl, f1, f2, z_good hts hcode, List.mem_cons_self, hts _ hcode, hts _ hini, hy, hn2, hts _ h1⟩, hts _ h2.1, hts _ h2.2⟩ ⟨hpre.1, hrecv, hpre.2⟩ rfl hlen hl.1 hstack (lv_room h88) hd ⟨f3, f4⟩) hS kk'
  · refine z_cont (rest := st.map (z_c N0 b)) (a := (Value.ref (N0 + a) :: av.map (z_c N0 b)).toArray) (va_runVN (nL := nL) (own := y0.cls) (C := y1.cls) ⟨hx, hb, hml, hown, hts⟩ (hrun l D cA N0 b htr) ⟨⟨⟨rfl, rfl, f1, f2, z_good hts hcode, List.mem_cons_self⟩, hts _ hcode, hts _ hini, hy, hn2, va_Nw.use rfl (henv.2.2.2.1 _ h1)⟩, hts _ h2.1, hts _ h2.2⟩ ⟨hpre.1, hrecv, hpre.2⟩ rfl hlen hl.1 hstack (lv_room h88) hd ⟨f3, f4⟩) hS kk'
theorem z_callI {a : Nat} (C : z_C X Y) (hd : decode Y.2.1 pc = .ok (.invokespecial idx, 3)) (hrun : z_Run rm' Y' (z_r a :: av) w Post) (hrm : X.2.2.2.1 = rm) (hk : z_lk Y.1.cls idx Y' av.length) (hin : Y'.1.name = "<init>") (hret : Y'.2.2.2.1 = none) (h2 : Cond.instanceMethod Y'.1 ∈ z_WB) (hf : z_fit rm rm' Y' nc ns) (hstk : stk = av.reverse ++ z_r a :: st) (h8 : (st.map z_ct).sum ≤ 8)
    (kk : ∀ v w', Post v w' → z_G X Y (pc + 3, lv, v.toList ++ st, w', nc + rm'.cells, ns + rm'.slots)) : z_G X Y (pc, lv, stk, w, nc, ns) := by
  obtain ⟨p, l, e, R, s, m, args, below, meth, c, Q, D, cA, N0, b⟩ := X
  obtain ⟨y0, bs, nL, ret, ft⟩ := Y
  obtain ⟨y1, bs1, nL1, ret1, ft1⟩ := Y'
  obtain ⟨hx, hb, hml, hown, hts, henv, hlk, hrt, hnm, hft, htr, hN0⟩ := C
  intro H locs ls hR hS hl
  cases hrm
  subst hstk
  cases hret
  obtain ⟨hcode, hini, hy, hn, hl2⟩ := hk
  obtain ⟨f1, f2, f3, f4⟩ := hf
  have hpre := z_pre (p := p) (l := l) (e := e) (R := R) (m := m) (args := args) (b := b) (av := z_r a :: av) henv hR hS
  have hn2 : ∀ sig, parseMethodDescriptor y1.desc = some sig → av.length = sig.parameters.length := fun sig h => by
    rw [h] at hn; exact (Option.some.inj hn).symm
  have hlen : (av.map (z_c N0 b)).length = av.length := List.length_map ..
  have hstack : ((av.reverse ++ z_r a :: st).map (z_c N0 b)) = (av.map (z_c N0 b)).reverse ++ Value.ref (N0 + a) :: st.map (z_c N0 b) := by rw [List.map_append, List.map_reverse]; rfl
  have h88 : ((st.map (z_c N0 b)).map fun v => v.category).sum ≤ 8 := by rw [z_cat]; exact h8
  have kk' : ∀ (v : Option z_V) (w' : z_W) (H1 : Heap) (locs1 : List Loc), Post v w' → z_rep D cA N0 w' H1 → va_S (fun q => N0 ≤ q) s.heap H1 locs1 → W p l e R s m args below meth c H1 locs1 (nc + rm'.cells) (ns + rm'.slots) Q (F0 m (pc + 3) ls ((v.map (z_c N0 b)).toList ++ st.map (z_c N0 b))) := by
    intro v w' H1 locs1 h1 h2 h3
    have h9 := kk v w' h1 H1 locs1 ls h2 h3 hl
    cases v <;> exact h9
  rcases hl2 with h1 | ⟨host, h1⟩
  · refine z_cont (rest := st.map (z_c N0 b)) (a := (Value.ref (N0 + a) :: av.map (z_c N0 b)).toArray) (va_runI (nL := nL) (own := y0.cls) ⟨hx, hb, hml, hown, hts⟩ (hrun l D cA N0 b htr) ⟨⟨rfl, rfl, f1, f2, z_good hts hcode, List.mem_cons_self, hts _ hcode, hts _ hini, hy, hn2, hts _ h1⟩, hin, hts _ h2⟩ ⟨hpre.1, hpre.2⟩ rfl hlen hl.1 hstack (lv_room h88) hd ⟨f3, f4⟩) hS kk'
  · refine z_cont (rest := st.map (z_c N0 b)) (a := (Value.ref (N0 + a) :: av.map (z_c N0 b)).toArray) (va_runIN (nL := nL) (own := y0.cls) ⟨hx, hb, hml, hown, hts⟩ (hrun l D cA N0 b htr) ⟨⟨⟨rfl, rfl, f1, f2, z_good hts hcode, List.mem_cons_self⟩, hts _ hcode, hts _ hini, hy, hn2, va_Nw.use rfl (henv.2.2.2.1 _ h1)⟩, hin, hts _ h2⟩ ⟨hpre.1, hpre.2⟩ rfl hlen hl.1 hstack (lv_room h88) hd ⟨f3, f4⟩) hS kk'
theorem z_callSX (C : z_C X Y) (hd : decode Y.2.1 pc = .ok (.invokestatic idx, 3)) (hrun : z_RunX rm' Y' av w Post PX) (hrm : X.2.2.2.1 = rm) (hk : z_lk Y.1.cls idx Y' av.length) (hl9 : Cond.methodLink Y.1.cls idx Y'.1 ∈ z_WB) (hst9 : Cond.static Y'.1 ∈ z_WB) (hf : z_fit rm rm' Y' nc ns) (hstk : stk = av.reverse ++ st) (h8 : (st.map z_ct).sum ≤ 8)
    (kx : ∀ E w', PX E w' → z_GX X Y E (pc, lv, st, w', nc + rm'.cells, ns + rm'.slots)) (kk : ∀ v w', Post v w' → z_G X Y (pc + 3, lv, v.toList ++ st, w', nc + rm'.cells, ns + rm'.slots)) : z_G X Y (pc, lv, stk, w, nc, ns) := by
  obtain ⟨p, l, e, R, s, m, args, below, meth, c, Q, D, cA, N0, b⟩ := X
  obtain ⟨y0, bs, nL, ret, ft⟩ := Y
  obtain ⟨y1, bs1, nL1, ret1, ft1⟩ := Y'
  obtain ⟨hx, hb, hml, hown, hts, henv, hlk, hrt, hnm, hft, htr, hN0⟩ := C
  intro H locs ls hR hS hl
  cases hrm
  subst hstk
  obtain ⟨hcode, hini, hy, hn, hl2⟩ := hk
  obtain ⟨f1, f2, f3, f4⟩ := hf
  have hpre := z_pre (p := p) (l := l) (e := e) (R := R) (m := m) (args := args) (b := b) (av := av) henv hR hS
  have hn2 : ∀ sig, parseMethodDescriptor y1.desc = some sig → av.length = sig.parameters.length := fun sig h => by
    rw [h] at hn; exact (Option.some.inj hn).symm
  have hlen : (av.map (z_c N0 b)).length = av.length := List.length_map ..
  have hstack : ((av.reverse ++ st).map (z_c N0 b)) = (av.map (z_c N0 b)).reverse ++ st.map (z_c N0 b) := by rw [List.map_append, List.map_reverse]
  have h88 : ((st.map (z_c N0 b)).map fun v => v.category).sum ≤ 8 := by rw [z_cat]; exact h8
  refine z_contX (rest := st.map (z_c N0 b)) (a := (av.map (z_c N0 b)).toArray) (vx_runS (nL := nL) (own := y0.cls) ⟨hx, hb, hml, hown, hts⟩ (hrun l D cA N0 b htr) ⟨⟨rfl, rfl, f1, f2, z_good hts hcode, List.mem_cons_self, hts _ hcode, hts _ hini, hy, hn2, hts _ hl9⟩, hts _ hst9⟩ hpre rfl hlen hl.1 hstack (lv_room h88) hd ⟨f3, f4⟩) hS (fun E w' H1 locs1 ce q h1 h2 h3 h4 h5 h6 => kx E w' h1 H1 locs1 ls ce q h2 h3 hl h4 h5 h6) ?_
  intro v w' H1 locs1 h1 h2 h3
  have h9 := kk v w' h1 H1 locs1 ls h2 h3 hl
  cases v <;> exact h9
theorem z_callVX {a ci : Nat} {r : vw_C} (C : z_C X Y) (hd : decode Y.2.1 pc = .ok (.invokevirtual idx, 3)) (hrun : z_RunX rm' Y' (z_r a :: av) w Post PX) (hrm : X.2.2.2.1 = rm) (hk : z_lk Y.1.cls idx Y' av.length) (hl9 : Cond.methodLink Y.1.cls idx Y'.1 ∈ z_WB) (h2 : Cond.instanceMethod Y'.1 ∈ z_WB ∧ Cond.selects Y'.1.cls Y'.1 Y'.1 ∈ z_WB) (hT : w.1 a = (1, ci)) (hc : vwCl[ci]? = some r) (hcl : r.1 = Y'.1.cls) (hf : z_fit rm rm' Y' nc ns) (hstk : stk = av.reverse ++ z_r a :: st) (h8 : (st.map z_ct).sum ≤ 8)
    (kx : ∀ E w', PX E w' → z_GX X Y E (pc, lv, st, w', nc + rm'.cells, ns + rm'.slots)) (kk : ∀ v w', Post v w' → z_G X Y (pc + 3, lv, v.toList ++ st, w', nc + rm'.cells, ns + rm'.slots)) : z_G X Y (pc, lv, stk, w, nc, ns) := by
  obtain ⟨p, l, e, R, s, m, args, below, meth, c, Q, D, cA, N0, b⟩ := X
  obtain ⟨y0, bs, nL, ret, ft⟩ := Y
  obtain ⟨y1, bs1, nL1, ret1, ft1⟩ := Y'
  obtain ⟨hx, hb, hml, hown, hts, henv, hlk, hrt, hnm, hft, htr, hN0⟩ := C
  intro H locs ls hR hS hl
  cases hrm
  subst hstk
  obtain ⟨hcode, hini, hy, hn, hl2⟩ := hk
  obtain ⟨f1, f2, f3, f4⟩ := hf
  have hpre := z_pre (p := p) (l := l) (e := e) (R := R) (m := m) (args := args) (b := b) (av := z_r a :: av) henv hR hS
  have hA := hR.2 a
  rw [hT] at hA
  obtain ⟨r', hr', cell, g1, g2, g3, -⟩ := hA
  cases hc.symm.trans hr'
  have hrecv : ∃ cellB : Cell, H[N0 + a]? = some cellB ∧ cellB.vm.isStatics = false ∧ s.vm.findClass y1.cls = some cellB.cls := ⟨cell, g1, by rw [g3]; rfl, by rw [g2, ← hcl]; exact (henv.1.1 ci r hc).2.1⟩
  have hn2 : ∀ sig, parseMethodDescriptor y1.desc = some sig → av.length = sig.parameters.length := fun sig h => by
    rw [h] at hn; exact (Option.some.inj hn).symm
  have hlen : (av.map (z_c N0 b)).length = av.length := List.length_map ..
  have hstack : ((av.reverse ++ z_r a :: st).map (z_c N0 b)) = (av.map (z_c N0 b)).reverse ++ Value.ref (N0 + a) :: st.map (z_c N0 b) := by rw [List.map_append, List.map_reverse]; rfl
  have h88 : ((st.map (z_c N0 b)).map fun v => v.category).sum ≤ 8 := by rw [z_cat]; exact h8
  refine z_contX (rest := st.map (z_c N0 b)) (a := (Value.ref (N0 + a) :: av.map (z_c N0 b)).toArray) (vx_runV (nL := nL) (own := y0.cls) (C := y1.cls) ⟨hx, hb, hml, hown, hts⟩ (hrun l D cA N0 b htr) ⟨⟨rfl, rfl, f1, f2, z_good hts hcode, List.mem_cons_self, hts _ hcode, hts _ hini, hy, hn2, hts _ hl9⟩, hts _ h2.1, hts _ h2.2⟩ ⟨hpre.1, hrecv, hpre.2⟩ rfl hlen hl.1 hstack (lv_room h88) hd ⟨f3, f4⟩) hS (fun E w' H1 locs1 ce q h1 h2 h3 h4 h5 h6 => kx E w' h1 H1 locs1 ls ce q h2 h3 hl h4 h5 h6) ?_
  intro v w' H1 locs1 h1 h2 h3
  have h9 := kk v w' h1 H1 locs1 ls h2 h3 hl
  cases v <;> exact h9
theorem z_objInit {a : Option Nat} (C : z_C X Y) (hd : decode Y.2.1 pc = .ok (.invokespecial idx, 3)) (hrm : X.2.2.2.1 = rm) (h1 : Cond.methodLink Y.1.cls idx Lib.objectInit ∈ z_WB) (h2 : Cond.instanceMethod Lib.objectInit ∈ z_WB) (h3 : Cond.code Lib.objectInit ⟨#[0xb1]⟩ 1 none ∈ z_WB) (ha : a.isSome) (hf : 1 ≤ rm.frames) (hlo : 20 ≤ rm.locals) (h8 : (st.map z_ct).sum ≤ 8)
    (kk : z_G X Y (pc + 3, lv, st, w, nc, ns)) : z_G X Y (pc, lv, .inr (.inl a) :: st, w, nc, ns) := by
  obtain ⟨p, l, e, R, s, m, args, below, meth, c, Q, D, cA, N0, b⟩ := X
  obtain ⟨y0, bs, nL, ret, ft⟩ := Y
  obtain ⟨hx, hb, hml, hown, hts, henv, hlk, hrt, hnm, hft, htr, hN0⟩ := C
  intro H locs ls hR hS hl
  cases hrm
  cases a with
  | none => cases ha
  | some a =>
    have h88 : ((st.map (z_c N0 b)).map fun v => v.category).sum ≤ 8 := by rw [z_cat]; exact h8
    have h9 := lv_room (m := m) (pc := pc) (ls := ls) (rest := z_c N0 b (z_r a) :: st.map (z_c N0 b)) h88
    exact W.objInit hx hb hown (hts _ h1) (hts _ h2) (hts _ h3) (g := F0 m pc ls (z_c N0 b (z_r a) :: st.map (z_c N0 b))) rfl (hl.1.trans hml.symm) rfl hd hf (by have h20 : 20 ≤ R.locals := hlo; omega) (kk H locs ls hR hS hl)
end ZCALL
end
section
/-! A RUN: straight rows of instructions, worked out; what must hold for it besides -/
def z_nx (pc : Nat) (i : Instr) (len : Nat) : Nat := match i with
  | .goto off => ((pc : Int) + off).toNat
  | _ => pc + len
def z_bin (f : Int32 → Int32 → Int32) (k : z_K) : Option (Prop × z_K) := match k with
  | (pc, lv, .inl y :: .inl x :: st, w, nc, ns) => some (True, (pc + 1, lv, .inl (f x y) :: st, w, nc, ns))
  | _ => none
def z_div (f : Int32 → Int32 → Int32) (k : z_K) : Option (Prop × z_K) := match k with
  | (pc, lv, .inl y :: .inl x :: st, w, nc, ns) => some (¬ y = 0, (pc + 1, lv, .inl (f x y) :: st, w, nc, ns))
  | _ => none
def z_psh (len : Nat) (v : z_V) (k : z_K) : Option (Prop × z_K) := match k with
  | (pc, lv, st, w, nc, ns) => some (True, (pc + len, lv, v :: st, w, nc, ns))
def z_lod (j len : Nat) (k : z_K) : Option (Prop × z_K) := match k with
  | (pc, lv, st, w, nc, ns) => match z_ld lv j with
    | some (.inl x) => some (True, (pc + len, lv, .inl x :: st, w, nc, ns))
    | _ => none
def z_loda (j len : Nat) (k : z_K) : Option (Prop × z_K) := match k with
  | (pc, lv, st, w, nc, ns) => match z_ld lv j with
    | some (.inr (.inl r)) => some (True, (pc + len, lv, .inr (.inl r) :: st, w, nc, ns))
    | some (.inr (.inr (.inr u))) => some (True, (pc + len, lv, .inr (.inr (.inr u)) :: st, w, nc, ns))
    | _ => none
def z_sto (nL j len : Nat) (k : z_K) : Option (Prop × z_K) := match k with
  | (pc, lv, .inl x :: st, w, nc, ns) => if j < nL then some (True, (pc + len, z_st lv j (.inl x), st, w, nc, ns)) else none
  | _ => none
def z_stoa (nL j len : Nat) (k : z_K) : Option (Prop × z_K) := match k with
  | (pc, lv, .inr (.inl r) :: st, w, nc, ns) => if j < nL then some (True, (pc + len, z_st lv j (.inr (.inl r)), st, w, nc, ns)) else none
  | _ => none
def z_inc (nL j : Nat) (n : Int) (k : z_K) : Option (Prop × z_K) := match k with
  | (pc, lv, st, w, nc, ns) => match z_ld lv j with
    | some (.inl x) => if j < nL then some (True, (pc + 3, z_st lv j (.inl (x + Int32.ofInt n)), st, w, nc, ns)) else none
    | _ => none
def z_un (f : Int32 → z_V) (k : z_K) : Option (Prop × z_K) := match k with
  | (pc, lv, .inl x :: st, w, nc, ns) => some (True, (pc + 1, lv, f x :: st, w, nc, ns))
  | _ => none
def z_cmp (k : z_K) : Option (Prop × z_K) := match k with
  | (pc, lv, .inr (.inr (.inl y)) :: .inr (.inr (.inl x)) :: st, w, nc, ns) => some (True, (pc + 1, lv, .inl (lg_cmp x.toInt64 y.toInt64) :: st, w, nc, ns))
  | _ => none
def z_du (k : z_K) : Option (Prop × z_K) := match k with
  | (pc, lv, v :: st, w, nc, ns) => some (z_ct v = 1, (pc + 1, lv, v :: v :: st, w, nc, ns))
  | _ => none
def z_du2 (k : z_K) : Option (Prop × z_K) := match k with
  | (pc, lv, v :: u :: st, w, nc, ns) => some (z_ct v = 1 ∧ z_ct u = 1, (pc + 1, lv, v :: u :: v :: u :: st, w, nc, ns))
  | _ => none
def z_po (k : z_K) : Option (Prop × z_K) := match k with
  | (pc, lv, v :: st, w, nc, ns) => some (z_ct v = 1, (pc + 1, lv, st, w, nc, ns))
  | _ => none
def z_go (off : Int) (k : z_K) : Option (Prop × z_K) := match k with
  | (pc, lv, st, w, nc, ns) => if 0 ≤ (pc : Int) + off then some (True, (((pc : Int) + off).toNat, lv, st, w, nc, ns)) else none
def z_gf (ft : List (Nat × Nat × Nat × Nat)) (idx : Nat) (k : z_K) : Option (Prop × z_K) := match k with
  | (pc, lv, .inr (.inl (some a)) :: st, w, nc, ns) => match ft.find? (fun q => q.1 == idx) with
    | some (_, ci, j, kd) => some (w.1 a = (1, ci), (pc + 3, lv, z_gv kd (w.2.1 a j) (w.2.2.1 a j) :: st, w, nc, ns))
    | none => none
  | _ => none
def z_pf (ft : List (Nat × Nat × Nat × Nat)) (idx : Nat) (k : z_K) : Option (Prop × z_K) := match k with
  | (pc, lv, v :: .inr (.inl (some a)) :: st, w, nc, ns) => match ft.find? (fun q => q.1 == idx) with
    | some (_, ci, j, kd) => some (w.1 a = (1, ci) ∧ z_pok kd v, (pc + 3, lv, st, z_wr w a j v, nc, ns))
    | none => none
  | _ => none
def z_al (tag : Nat) (f : Int32 → z_V) (k : z_K) : Option (Prop × z_K) := match k with
  | (pc, lv, .inl i :: .inr (.inl (some a)) :: st, w, nc, ns) => some ((w.1 a).1 = tag ∧ vp_in i (w.1 a).2, (pc + 1, lv, f (w.2.2.1 a i.toNatClampNeg) :: st, w, nc, ns))
  | _ => none
def z_alr (k : z_K) : Option (Prop × z_K) := match k with
  | (pc, lv, .inl i :: .inr (.inl (some a)) :: st, w, nc, ns) => some ((w.1 a).1 = 6 ∧ vp_in i (w.1 a).2, (pc + 1, lv, .inr (.inl (w.2.1 a i.toNatClampNeg)) :: st, w, nc, ns))
  | _ => none
def z_as (tag : Nat) (f : Int32 → Int32) (k : z_K) : Option (Prop × z_K) := match k with
  | (pc, lv, .inl x :: .inl i :: .inr (.inl (some a)) :: st, w, nc, ns) => some ((w.1 a).1 = tag ∧ vp_in i (w.1 a).2, (pc + 1, lv, st, (w.1, w.2.1, z_uS w.2.2.1 a i.toNatClampNeg (f x), w.2.2.2), nc, ns))
  | _ => none
def z_asl (k : z_K) : Option (Prop × z_K) := match k with
  | (pc, lv, .inr (.inr (.inl x)) :: .inl i :: .inr (.inl (some a)) :: st, w, nc, ns) => some ((w.1 a).1 = 5 ∧ vp_in i (w.1 a).2, (pc + 1, lv, st, (w.1, w.2.1, z_uS w.2.2.1 a i.toNatClampNeg x, w.2.2.2), nc, ns))
  | _ => none
def z_len (k : z_K) : Option (Prop × z_K) := match k with
  | (pc, lv, .inr (.inl (some a)) :: st, w, nc, ns) => some ((w.1 a).1 = 2, (pc + 1, lv, .inl (Int32.ofNat (w.1 a).2) :: st, w, nc, ns))
  | _ => none
def z_step (Y : z_Y) (i : Instr) (len : Nat) (k : z_K) : Option (Prop × z_K) :=
  match i, len with
  | .iadd, 1 => z_bin (fun x y => x + y) k
  | .isub, 1 => z_bin (fun x y => x - y) k
  | .imul, 1 => z_bin (fun x y => x * y) k
  | .iand, 1 => z_bin (fun x y => x &&& y) k
  | .ior, 1 => z_bin (fun x y => x ||| y) k
  | .ixor, 1 => z_bin (fun x y => x ^^^ y) k
  | .ishl, 1 => z_bin (fun x y => x <<< (y &&& 31)) k
  | .ishr, 1 => z_bin (fun x y => x >>> (y &&& 31)) k
  | .iushr, 1 => z_bin (fun x y => (x.toUInt32 >>> (y.toUInt32 &&& Int32.toUInt32 31)).toInt32) k
  | .idiv, 1 => z_div (fun x y => x / y) k
  | .irem, 1 => z_div (fun x y => x - x / y * y) k
  | .iconst n, 1 => z_psh 1 (.inl (Int32.ofInt n)) k
  | .bipush n, 2 => z_psh 2 (.inl (Int8.ofInt n).toInt32) k
  | .sipush n, 3 => z_psh 3 (.inl (Int16.ofInt n).toInt32) k
  | .lconst 0, 1 => z_psh 1 (z_l 0) k
  | .lconst 1, 1 => z_psh 1 (z_l 1) k
  | .aconst_null, 1 => z_psh 1 z_n k
  | .iload_n j, 1 => z_lod j 1 k
  | .iload j, 2 => z_lod j 2 k
  | .aload_n j, 1 => z_loda j 1 k
  | .aload j, 2 => z_loda j 2 k
  | .istore_n j, 1 => z_sto Y.2.2.1 j 1 k
  | .istore j, 2 => z_sto Y.2.2.1 j 2 k
  | .astore_n j, 1 => z_stoa Y.2.2.1 j 1 k
  | .astore j, 2 => z_stoa Y.2.2.1 j 2 k
  | .iinc j n, 3 => z_inc Y.2.2.1 j n k
  | .i2l, 1 => z_un (fun x => z_l x) k
  | .i2c, 1 => z_un (fun x => .inl (x.toUInt32 % 65536).toInt32) k
  | .lcmp, 1 => z_cmp k
  | .dup, 1 => z_du k
  | .dup2, 1 => z_du2 k
  | .pop, 1 => z_po k
  | .goto off, 3 => z_go off k
  | .getfield idx, 3 => z_gf Y.2.2.2.2 idx k
  | .putfield idx, 3 => z_pf Y.2.2.2.2 idx k
  | .iaload, 1 => z_al 2 (fun x => .inl x) k
  | .caload, 1 => z_al 4 (fun x => .inl x) k
  | .iastore, 1 => z_as 2 (fun x => x) k
  | .castore, 1 => z_as 4 (fun x => vp_nar .char x) k
  | .arraylength, 1 => z_len k
  | _, _ => none
section ZSTEP
variable {X : z_X} {Y : z_Y} {k k' : z_K} {P : Prop}
theorem z_find {ft : List (Nat × Nat × Nat × Nat)} {idx i ci j kd : Nat} (h : ft.find? (fun q => q.1 == idx) = some (i, ci, j, kd)) : (idx, ci, j, kd) ∈ ft := by
  have h1 := List.find?_some h
  have h2 := List.mem_of_find?_eq_some h
  have h3 : i = idx := by simpa using h1
  rw [h3] at h2; exact h2
theorem z_T1 {t : Nat × Nat} {n : Nat} (h : t.1 = n) : t = (n, t.2) := by rw [← h]
theorem z_bin_ok {f : Int32 → Int32 → Int32} (h : z_bin f k = some (P, k')) : ∃ (pc : Nat) (lv : List (Nat × z_V)) (st : List z_V) (w : z_W) (nc ns : Nat) (x y : Int32), k = (pc, lv, .inl y :: .inl x :: st, w, nc, ns) ∧ P = True ∧ k' = (pc + 1, lv, .inl (f x y) :: st, w, nc, ns) := by
  obtain ⟨pc, lv, st, w, nc, ns⟩ := k
  unfold z_bin at h
  split at h
  · rename_i heq
    cases heq
    cases h
    exact ⟨_, _, _, _, _, _, _, _, rfl, rfl, rfl⟩
  · cases h

theorem z_div_ok {f : Int32 → Int32 → Int32} (h : z_div f k = some (P, k')) : ∃ (pc : Nat) (lv : List (Nat × z_V)) (st : List z_V) (w : z_W) (nc ns : Nat) (x y : Int32), k = (pc, lv, .inl y :: .inl x :: st, w, nc, ns) ∧ P = (¬ y = 0) ∧ k' = (pc + 1, lv, .inl (f x y) :: st, w, nc, ns) := by
  obtain ⟨pc, lv, st, w, nc, ns⟩ := k
  unfold z_div at h
  split at h
  · rename_i heq
    cases heq
    cases h
    exact ⟨_, _, _, _, _, _, _, _, rfl, rfl, rfl⟩
  · cases h

theorem z_psh_ok {len : Nat} {v : z_V} (h : z_psh len v k = some (P, k')) : ∃ (pc : Nat) (lv : List (Nat × z_V)) (st : List z_V) (w : z_W) (nc ns : Nat) , k = (pc, lv, st, w, nc, ns) ∧ P = True ∧ k' = (pc + len, lv, v :: st, w, nc, ns) := by
  obtain ⟨pc, lv, st, w, nc, ns⟩ := k
  cases h
  exact ⟨_, _, _, _, _, _, rfl, rfl, rfl⟩

theorem z_un_ok {f : Int32 → z_V} (h : z_un f k = some (P, k')) : ∃ (pc : Nat) (lv : List (Nat × z_V)) (st : List z_V) (w : z_W) (nc ns : Nat) (x : Int32), k = (pc, lv, .inl x :: st, w, nc, ns) ∧ P = True ∧ k' = (pc + 1, lv, f x :: st, w, nc, ns) := by
  obtain ⟨pc, lv, st, w, nc, ns⟩ := k
  unfold z_un at h
  split at h
  · rename_i heq
    cases heq
    cases h
    exact ⟨_, _, _, _, _, _, _, rfl, rfl, rfl⟩
  · cases h

theorem z_cmp_ok  (h : z_cmp k = some (P, k')) : ∃ (pc : Nat) (lv : List (Nat × z_V)) (st : List z_V) (w : z_W) (nc ns : Nat) (x y : Int32), k = (pc, lv, z_l y :: z_l x :: st, w, nc, ns) ∧ P = True ∧ k' = (pc + 1, lv, .inl (lg_cmp x.toInt64 y.toInt64) :: st, w, nc, ns) := by
  obtain ⟨pc, lv, st, w, nc, ns⟩ := k
  unfold z_cmp at h
  split at h
  · rename_i heq
    cases heq
    cases h
    exact ⟨_, _, _, _, _, _, _, _, rfl, rfl, rfl⟩
  · cases h

theorem z_du_ok  (h : z_du k = some (P, k')) : ∃ (pc : Nat) (lv : List (Nat × z_V)) (st : List z_V) (w : z_W) (nc ns : Nat) (v : z_V), k = (pc, lv, v :: st, w, nc, ns) ∧ P = (z_ct v = 1) ∧ k' = (pc + 1, lv, v :: v :: st, w, nc, ns) := by
  obtain ⟨pc, lv, st, w, nc, ns⟩ := k
  unfold z_du at h
  split at h
  · rename_i heq
    cases heq
    cases h
    exact ⟨_, _, _, _, _, _, _, rfl, rfl, rfl⟩
  · cases h

theorem z_du2_ok  (h : z_du2 k = some (P, k')) : ∃ (pc : Nat) (lv : List (Nat × z_V)) (st : List z_V) (w : z_W) (nc ns : Nat) (v u : z_V), k = (pc, lv, v :: u :: st, w, nc, ns) ∧ P = (z_ct v = 1 ∧ z_ct u = 1) ∧ k' = (pc + 1, lv, v :: u :: v :: u :: st, w, nc, ns) := by
  obtain ⟨pc, lv, st, w, nc, ns⟩ := k
  unfold z_du2 at h
  split at h
  · rename_i heq
    cases heq
    cases h
    exact ⟨_, _, _, _, _, _, _, _, rfl, rfl, rfl⟩
  · cases h

theorem z_po_ok  (h : z_po k = some (P, k')) : ∃ (pc : Nat) (lv : List (Nat × z_V)) (st : List z_V) (w : z_W) (nc ns : Nat) (v : z_V), k = (pc, lv, v :: st, w, nc, ns) ∧ P = (z_ct v = 1) ∧ k' = (pc + 1, lv, st, w, nc, ns) := by
  obtain ⟨pc, lv, st, w, nc, ns⟩ := k
  unfold z_po at h
  split at h
  · rename_i heq
    cases heq
    cases h
    exact ⟨_, _, _, _, _, _, _, rfl, rfl, rfl⟩
  · cases h

theorem z_al_ok {tag : Nat} {f : Int32 → z_V} (h : z_al tag f k = some (P, k')) : ∃ (pc : Nat) (lv : List (Nat × z_V)) (st : List z_V) (w : z_W) (nc ns : Nat) (a : Nat) (i : Int32), k = (pc, lv, .inl i :: z_r a :: st, w, nc, ns) ∧ P = ((w.1 a).1 = tag ∧ vp_in i (w.1 a).2) ∧ k' = (pc + 1, lv, f (w.2.2.1 a i.toNatClampNeg) :: st, w, nc, ns) := by
  obtain ⟨pc, lv, st, w, nc, ns⟩ := k
  unfold z_al at h
  split at h
  · rename_i heq
    cases heq
    cases h
    exact ⟨_, _, _, _, _, _, _, _, rfl, rfl, rfl⟩
  · cases h

theorem z_alr_ok  (h : z_alr k = some (P, k')) : ∃ (pc : Nat) (lv : List (Nat × z_V)) (st : List z_V) (w : z_W) (nc ns : Nat) (a : Nat) (i : Int32), k = (pc, lv, .inl i :: z_r a :: st, w, nc, ns) ∧ P = ((w.1 a).1 = 6 ∧ vp_in i (w.1 a).2) ∧ k' = (pc + 1, lv, .inr (.inl (w.2.1 a i.toNatClampNeg)) :: st, w, nc, ns) := by
  obtain ⟨pc, lv, st, w, nc, ns⟩ := k
  unfold z_alr at h
  split at h
  · rename_i heq
    cases heq
    cases h
    exact ⟨_, _, _, _, _, _, _, _, rfl, rfl, rfl⟩
  · cases h

theorem z_as_ok {tag : Nat} {f : Int32 → Int32} (h : z_as tag f k = some (P, k')) : ∃ (pc : Nat) (lv : List (Nat × z_V)) (st : List z_V) (w : z_W) (nc ns : Nat) (a : Nat) (i x : Int32), k = (pc, lv, .inl x :: .inl i :: z_r a :: st, w, nc, ns) ∧ P = ((w.1 a).1 = tag ∧ vp_in i (w.1 a).2) ∧ k' = (pc + 1, lv, st, (w.1, w.2.1, z_uS w.2.2.1 a i.toNatClampNeg (f x), w.2.2.2), nc, ns) := by
  obtain ⟨pc, lv, st, w, nc, ns⟩ := k
  unfold z_as at h
  split at h
  · rename_i heq
    cases heq
    cases h
    exact ⟨_, _, _, _, _, _, _, _, _, rfl, rfl, rfl⟩
  · cases h

theorem z_asl_ok  (h : z_asl k = some (P, k')) : ∃ (pc : Nat) (lv : List (Nat × z_V)) (st : List z_V) (w : z_W) (nc ns : Nat) (a : Nat) (i x : Int32), k = (pc, lv, z_l x :: .inl i :: z_r a :: st, w, nc, ns) ∧ P = ((w.1 a).1 = 5 ∧ vp_in i (w.1 a).2) ∧ k' = (pc + 1, lv, st, (w.1, w.2.1, z_uS w.2.2.1 a i.toNatClampNeg x, w.2.2.2), nc, ns) := by
  obtain ⟨pc, lv, st, w, nc, ns⟩ := k
  unfold z_asl at h
  split at h
  · rename_i heq
    cases heq
    cases h
    exact ⟨_, _, _, _, _, _, _, _, _, rfl, rfl, rfl⟩
  · cases h

theorem z_len_ok  (h : z_len k = some (P, k')) : ∃ (pc : Nat) (lv : List (Nat × z_V)) (st : List z_V) (w : z_W) (nc ns : Nat) (a : Nat), k = (pc, lv, z_r a :: st, w, nc, ns) ∧ P = ((w.1 a).1 = 2) ∧ k' = (pc + 1, lv, .inl (Int32.ofNat (w.1 a).2) :: st, w, nc, ns) := by
  obtain ⟨pc, lv, st, w, nc, ns⟩ := k
  unfold z_len at h
  split at h
  · rename_i heq
    cases heq
    cases h
    exact ⟨_, _, _, _, _, _, _, rfl, rfl, rfl⟩
  · cases h

theorem z_lod_ok {j len : Nat} (h : z_lod j len k = some (P, k')) : ∃ (pc : Nat) (lv : List (Nat × z_V)) (st : List z_V) (w : z_W) (nc ns : Nat) (x : Int32), k = (pc, lv, st, w, nc, ns) ∧ z_ld lv j = some (.inl x) ∧ P = True ∧ k' = (pc + len, lv, .inl x :: st, w, nc, ns) := by
  obtain ⟨pc, lv, st, w, nc, ns⟩ := k
  unfold z_lod at h
  dsimp only at h
  split at h
  · rename_i hl
    cases h
    exact ⟨_, _, _, _, _, _, _, rfl, hl, rfl, rfl⟩
  · cases h

theorem z_loda_ok {j len : Nat} (h : z_loda j len k = some (P, k')) : ∃ (pc : Nat) (lv : List (Nat × z_V)) (st : List z_V) (w : z_W) (nc ns : Nat) (v : z_V), k = (pc, lv, st, w, nc, ns) ∧ z_ld lv j = some v ∧ ((∃ r, v = .inr (.inl r)) ∨ v = z_s) ∧ P = True ∧ k' = (pc + len, lv, v :: st, w, nc, ns) := by
  obtain ⟨pc, lv, st, w, nc, ns⟩ := k
  unfold z_loda at h
  dsimp only at h
  split at h
  · rename_i hl
    cases h
    exact ⟨_, _, _, _, _, _, _, rfl, hl, Or.inl ⟨_, rfl⟩, rfl, rfl⟩
  · rename_i hl
    cases h
    exact ⟨_, _, _, _, _, _, _, rfl, hl, Or.inr rfl, rfl, rfl⟩
  · cases h

theorem z_sto_ok {nL j len : Nat} (h : z_sto nL j len k = some (P, k')) : ∃ (pc : Nat) (lv : List (Nat × z_V)) (st : List z_V) (w : z_W) (nc ns : Nat) (x : Int32), k = (pc, lv, .inl x :: st, w, nc, ns) ∧ j < nL ∧ P = True ∧ k' = (pc + len, z_st lv j (.inl x), st, w, nc, ns) := by
  obtain ⟨pc, lv, st, w, nc, ns⟩ := k
  unfold z_sto at h
  split at h
  · rename_i heq
    cases heq
    split at h
    · rename_i hj
      cases h
      exact ⟨_, _, _, _, _, _, _, rfl, hj, rfl, rfl⟩
    · cases h
  · cases h

theorem z_stoa_ok {nL j len : Nat} (h : z_stoa nL j len k = some (P, k')) : ∃ (pc : Nat) (lv : List (Nat × z_V)) (st : List z_V) (w : z_W) (nc ns : Nat) (r : Option Nat), k = (pc, lv, .inr (.inl r) :: st, w, nc, ns) ∧ j < nL ∧ P = True ∧ k' = (pc + len, z_st lv j (.inr (.inl r)), st, w, nc, ns) := by
  obtain ⟨pc, lv, st, w, nc, ns⟩ := k
  unfold z_stoa at h
  split at h
  · rename_i heq
    cases heq
    split at h
    · rename_i hj
      cases h
      exact ⟨_, _, _, _, _, _, _, rfl, hj, rfl, rfl⟩
    · cases h
  · cases h

theorem z_inc_ok {nL j : Nat} {n : Int} (h : z_inc nL j n k = some (P, k')) : ∃ (pc : Nat) (lv : List (Nat × z_V)) (st : List z_V) (w : z_W) (nc ns : Nat) (x : Int32), k = (pc, lv, st, w, nc, ns) ∧ z_ld lv j = some (.inl x) ∧ j < nL ∧ P = True ∧ k' = (pc + 3, z_st lv j (.inl (x + Int32.ofInt n)), st, w, nc, ns) := by
  obtain ⟨pc, lv, st, w, nc, ns⟩ := k
  unfold z_inc at h
  dsimp only at h
  split at h
  · rename_i hl
    split at h
    · rename_i hj
      cases h
      exact ⟨_, _, _, _, _, _, _, rfl, hl, hj, rfl, rfl⟩
    · cases h
  · cases h

theorem z_go_ok {off : Int} (h : z_go off k = some (P, k')) : ∃ (pc : Nat) (lv : List (Nat × z_V)) (st : List z_V) (w : z_W) (nc ns : Nat) , k = (pc, lv, st, w, nc, ns) ∧ 0 ≤ (pc : Int) + off ∧ P = True ∧ k' = (((pc : Int) + off).toNat, lv, st, w, nc, ns) := by
  obtain ⟨pc, lv, st, w, nc, ns⟩ := k
  unfold z_go at h
  dsimp only at h
  split at h
  · rename_i hj
    cases h
    exact ⟨_, _, _, _, _, _, rfl, hj, rfl, rfl⟩
  · cases h

theorem z_gf_ok {ft : List (Nat × Nat × Nat × Nat)} {idx : Nat} (h : z_gf ft idx k = some (P, k')) : ∃ (pc : Nat) (lv : List (Nat × z_V)) (st : List z_V) (w : z_W) (nc ns : Nat) (a ci j kd : Nat), k = (pc, lv, z_r a :: st, w, nc, ns) ∧ (idx, ci, j, kd) ∈ ft ∧ P = (w.1 a = (1, ci)) ∧ k' = (pc + 3, lv, z_gv kd (w.2.1 a j) (w.2.2.1 a j) :: st, w, nc, ns) := by
  obtain ⟨pc, lv, st, w, nc, ns⟩ := k
  unfold z_gf at h
  split at h
  · rename_i heq
    cases heq
    split at h
    · rename_i hf
      cases h
      exact ⟨_, _, _, _, _, _, _, _, _, _, rfl, z_find hf, rfl, rfl⟩
    · cases h
  · cases h

theorem z_pf_ok {ft : List (Nat × Nat × Nat × Nat)} {idx : Nat} (h : z_pf ft idx k = some (P, k')) : ∃ (pc : Nat) (lv : List (Nat × z_V)) (st : List z_V) (w : z_W) (nc ns : Nat) (a ci j kd : Nat) (v : z_V), k = (pc, lv, v :: z_r a :: st, w, nc, ns) ∧ (idx, ci, j, kd) ∈ ft ∧ P = (w.1 a = (1, ci) ∧ z_pok kd v) ∧ k' = (pc + 3, lv, st, z_wr w a j v, nc, ns) := by
  obtain ⟨pc, lv, st, w, nc, ns⟩ := k
  unfold z_pf at h
  split at h
  · rename_i heq
    cases heq
    split at h
    · rename_i hf
      cases h
      exact ⟨_, _, _, _, _, _, _, _, _, _, _, rfl, z_find hf, rfl, rfl⟩
    · cases h
  · cases h

theorem z_step_ok (C : z_C X Y) {i : Instr} {len : Nat} (hd : decode Y.2.1 k.1 = .ok (i, len)) (h : z_step Y i len k = some (P, k')) (hP : P) (g : z_G X Y k') : z_G X Y k := by
  unfold z_step at h
  split at h
  all_goals first
    | (cases h; done)
    | (obtain ⟨pc, lv, st, w, nc, ns, x, y, rfl, rfl, rfl⟩ := z_bin_ok h
       first | exact z_iadd C hd g | exact z_isub C hd g | exact z_imul C hd g | exact z_iand C hd g | exact z_ior C hd g | exact z_ixor C hd g | exact z_ishl C hd g | exact z_ishr C hd g | exact z_iushr C hd g)
    | (obtain ⟨pc, lv, st, w, nc, ns, x, y, rfl, rfl, rfl⟩ := z_div_ok h
       first | exact z_idiv C hd hP g | exact z_irem C hd hP g)
    | (obtain ⟨pc, lv, st, w, nc, ns, rfl, rfl, rfl⟩ := z_psh_ok h
       first | exact z_iconst C hd g | exact z_bipush C hd g | exact z_sipush C hd g | exact z_lconst C hd (by decide) g | exact z_null C hd g)
    | (obtain ⟨pc, lv, st, w, nc, ns, x, rfl, hl, rfl, rfl⟩ := z_lod_ok h
       first | exact z_iload_n C hd hl g | exact z_iload C hd hl g)
    | (obtain ⟨pc, lv, st, w, nc, ns, v, rfl, hl, ⟨r, rfl⟩ | rfl, rfl, rfl⟩ := z_loda_ok h
       · first | exact z_aload_n C hd hl g | exact z_aload C hd hl g
       · first | exact z_sload_n C hd hl g | exact z_sload C hd hl g)
    | (obtain ⟨pc, lv, st, w, nc, ns, x, rfl, hj, rfl, rfl⟩ := z_sto_ok h
       first | exact z_istore_n C hd hj g | exact z_istore C hd hj g)
    | (obtain ⟨pc, lv, st, w, nc, ns, x, rfl, hj, rfl, rfl⟩ := z_stoa_ok h
       first | exact z_astore_n C hd hj g | exact z_astore C hd hj g)
    | (obtain ⟨pc, lv, st, w, nc, ns, x, rfl, hl, hj, rfl, rfl⟩ := z_inc_ok h
       exact z_iinc C hd hl hj g)
    | (obtain ⟨pc, lv, st, w, nc, ns, x, rfl, rfl, rfl⟩ := z_un_ok h
       first | exact z_i2l C hd g | exact z_i2c C hd g)
    | (obtain ⟨pc, lv, st, w, nc, ns, x, y, rfl, rfl, rfl⟩ := z_cmp_ok h
       exact z_lcmp C hd g)
    | (obtain ⟨pc, lv, st, w, nc, ns, v, rfl, rfl, rfl⟩ := z_du_ok h
       exact z_dup C hd hP g)
    | (obtain ⟨pc, lv, st, w, nc, ns, v, u, rfl, rfl, rfl⟩ := z_du2_ok h
       exact z_dup2 C hd hP.1 hP.2 g)
    | (obtain ⟨pc, lv, st, w, nc, ns, v, rfl, rfl, rfl⟩ := z_po_ok h
       exact z_pop C hd hP g)
    | (obtain ⟨pc, lv, st, w, nc, ns, rfl, h0, rfl, rfl⟩ := z_go_ok h
       exact z_goto C hd (Int.toNat_of_nonneg h0).symm g)
    | (obtain ⟨pc, lv, st, w, nc, ns, a, ci, j, kd, rfl, hf, rfl, rfl⟩ := z_gf_ok h
       exact z_get C hd hf hP g)
    | (obtain ⟨pc, lv, st, w, nc, ns, a, ci, j, kd, v, rfl, hf, rfl, rfl⟩ := z_pf_ok h
       exact z_put C hd hf hP.1 hP.2 g)
    | (obtain ⟨pc, lv, st, w, nc, ns, a, j, rfl, rfl, rfl⟩ := z_al_ok h
       first | exact z_iald C hd (z_T1 hP.1) hP.2 g | exact z_cald C hd (z_T1 hP.1) hP.2 g)
    | (obtain ⟨pc, lv, st, w, nc, ns, a, j, x, rfl, rfl, rfl⟩ := z_as_ok h
       first | exact z_iast C hd (z_T1 hP.1) hP.2 g | exact z_cast C hd (z_T1 hP.1) hP.2 g)
    | (obtain ⟨pc, lv, st, w, nc, ns, a, rfl, rfl, rfl⟩ := z_len_ok h
       exact z_alen C hd (z_T1 hP) g)
theorem z_step_pc {i : Instr} {len : Nat} (h : z_step Y i len k = some (P, k')) : k'.1 = z_nx k.1 i len := by
  unfold z_step at h
  split at h
  all_goals first
    | (cases h; done)
    | (obtain ⟨pc, lv, st, w, nc, ns, x, y, rfl, rfl, rfl⟩ := z_bin_ok h; rfl)
    | (obtain ⟨pc, lv, st, w, nc, ns, x, y, rfl, rfl, rfl⟩ := z_div_ok h; rfl)
    | (obtain ⟨pc, lv, st, w, nc, ns, rfl, rfl, rfl⟩ := z_psh_ok h; rfl)
    | (obtain ⟨pc, lv, st, w, nc, ns, x, rfl, hl, rfl, rfl⟩ := z_lod_ok h; rfl)
    | (obtain ⟨pc, lv, st, w, nc, ns, v, rfl, hl, -, rfl, rfl⟩ := z_loda_ok h; rfl)
    | (obtain ⟨pc, lv, st, w, nc, ns, x, rfl, hj, rfl, rfl⟩ := z_sto_ok h; rfl)
    | (obtain ⟨pc, lv, st, w, nc, ns, x, rfl, hj, rfl, rfl⟩ := z_stoa_ok h; rfl)
    | (obtain ⟨pc, lv, st, w, nc, ns, x, rfl, hl, hj, rfl, rfl⟩ := z_inc_ok h; rfl)
    | (obtain ⟨pc, lv, st, w, nc, ns, x, rfl, rfl, rfl⟩ := z_un_ok h; rfl)
    | (obtain ⟨pc, lv, st, w, nc, ns, x, y, rfl, rfl, rfl⟩ := z_cmp_ok h; rfl)
    | (obtain ⟨pc, lv, st, w, nc, ns, v, rfl, rfl, rfl⟩ := z_du_ok h; rfl)
    | (obtain ⟨pc, lv, st, w, nc, ns, v, u, rfl, rfl, rfl⟩ := z_du2_ok h; rfl)
    | (obtain ⟨pc, lv, st, w, nc, ns, v, rfl, rfl, rfl⟩ := z_po_ok h; rfl)
    | (obtain ⟨pc, lv, st, w, nc, ns, rfl, h0, rfl, rfl⟩ := z_go_ok h; rfl)
    | (obtain ⟨pc, lv, st, w, nc, ns, a, ci, j, kd, rfl, hf, rfl, rfl⟩ := z_gf_ok h; rfl)
    | (obtain ⟨pc, lv, st, w, nc, ns, a, ci, j, kd, v, rfl, hf, rfl, rfl⟩ := z_pf_ok h; rfl)
    | (obtain ⟨pc, lv, st, w, nc, ns, a, j, rfl, rfl, rfl⟩ := z_al_ok h; rfl)
    | (obtain ⟨pc, lv, st, w, nc, ns, a, j, rfl, rfl, rfl⟩ := z_alr_ok h; rfl)
    | (obtain ⟨pc, lv, st, w, nc, ns, a, j, x, rfl, rfl, rfl⟩ := z_as_ok h; rfl)
    | (obtain ⟨pc, lv, st, w, nc, ns, a, j, x, rfl, rfl, rfl⟩ := z_asl_ok h; rfl)
    | (obtain ⟨pc, lv, st, w, nc, ns, a, rfl, rfl, rfl⟩ := z_len_ok h; rfl)
/-- the bytes from pc on are these instructions -/
def z_chk (bs : ByteArray) : Nat → List (Instr × Nat) → Bool
  | _, [] => true
  | pc, q :: is => decide (decode bs pc = .ok q) && z_chk bs (z_nx pc q.1 q.2) is
def z_run (Y : z_Y) : List (Instr × Nat) → z_K → Option (Prop × z_K)
  | [], k => some (True, k)
  | q :: is, k => match z_step Y q.1 q.2 k with
    | some (P, k1) => match z_run Y is k1 with
      | some (P2, k2) => some (P ∧ P2, k2)
      | none => none
    | none => none
theorem z_go_on (C : z_C X Y) (is : List (Instr × Nat)) : ∀ {k k' : z_K} {P : Prop}, z_chk Y.2.1 k.1 is = true → z_run Y is k = some (P, k') → P → z_G X Y k' → z_G X Y k := by
  induction is with
  | nil =>
    intro k k' P _ h hP g
    cases h
    exact g
  | cons q is ih =>
    intro k k' P hc h hP g
    simp only [z_chk, Bool.and_eq_true, decide_eq_true_eq] at hc
    unfold z_run at h
    split at h
    · rename_i P1 k1 h1
      split at h
      · rename_i P2 k2 h2
        cases h
        refine z_step_ok C hc.1 h1 hP.1 (ih ?_ h2 hP.2 g)
        rw [z_step_pc h1]; exact hc.2
      · cases h
    · cases h
end ZSTEP
end
section
theorem z_ni {w : Cond} (i : Nat) (h : lw_tbl[i]? = some w) (g : z_isN w = true) : w ∈ z_NB := List.mem_filter.mpr ⟨List.mem_of_getElem? h, g⟩
theorem z_wi {w : Cond} (i : Nat) (h : lw_tbl[i]? = some w) (g : goodWord w = true) : w ∈ z_WB := z_inWB (List.mem_of_getElem? h) g
def z_fokb (own : String) (x : (Nat × Nat × Nat × Nat) × Nat × Option String) : Bool := match vwCl[x.1.2.1]? with
  | some r => decide (x.1.2.2.1 < r.2.2) && decide (x.1.2.2.2 = z_kd (r.2.1 x.1.2.2.1).2.2.1 + (if (r.2.1 x.1.2.2.1).2.2.2 = true then 4 else 0)) && decide ((r.2.1 x.1.2.2.1).1 = r.1) && (match x.2.2 with
    | none => decide (lw_tbl[x.2.1]? = some (Cond.fieldLink own x.1.1 r.1 (r.2.1 x.1.2.2.1).2.1 (r.2.1 x.1.2.2.1).2.2.1)) && goodWord (Cond.fieldLink own x.1.1 r.1 (r.2.1 x.1.2.2.1).2.1 (r.2.1 x.1.2.2.1).2.2.1)
    | some h => decide (lw_tbl[x.2.1]? = some (Cond.fieldLinkNest own x.1.1 r.1 (r.2.1 x.1.2.2.1).2.1 (r.2.1 x.1.2.2.1).2.2.1 h)) && z_isN (Cond.fieldLinkNest own x.1.1 r.1 (r.2.1 x.1.2.2.1).2.1 (r.2.1 x.1.2.2.1).2.2.1 h))
  | none => false
theorem z_fokb_ok {own : String} {x : (Nat × Nat × Nat × Nat) × Nat × Option String} (h : z_fokb own x = true) : z_fok own x.1 := by
  unfold z_fokb at h
  split at h
  · rename_i r hr
    simp only [Bool.and_eq_true, decide_eq_true_eq] at h
    obtain ⟨⟨⟨h1, h2⟩, h3⟩, h4⟩ := h
    refine ⟨r, hr, h1, h2, h3, ?_⟩
    split at h4
    · simp only [Bool.and_eq_true, decide_eq_true_eq] at h4
      exact Or.inl (z_wi _ h4.1 h4.2)
    · simp only [Bool.and_eq_true, decide_eq_true_eq] at h4
      exact Or.inr ⟨_, z_ni _ h4.1 h4.2⟩
  · cases h
theorem z_foks {own : String} (xs : List ((Nat × Nat × Nat × Nat) × Nat × Option String)) (h : xs.all (fun x => z_fokb own x) = true) : ∀ q ∈ xs.map (fun x => x.1), z_fok own q := by
  intro q hq
  obtain ⟨x, hx, rfl⟩ := List.mem_map.mp hq
  exact z_fokb_ok (List.all_eq_true.mp h x hx)

abbrev zf_T : List (Nat × Nat × Nat × Nat) := [(12, 11, 0, 5), (19, 11, 1, 5), (23, 11, 2, 5), (29, 11, 3, 5), (33, 1, 1, 5), (37, 11, 4, 5), (38, 1, 2, 5), (42, 11, 5, 5), (43, 1, 3, 5), (47, 11, 6, 5), (48, 8, 6, 5), (54, 11, 7, 5), (58, 11, 8, 5), (65, 11, 9, 5), (72, 11, 10, 5), (79, 11, 11, 5), (83, 11, 12, 5), (87, 11, 13, 5), (90, 11, 14, 0), (94, 11, 15, 0), (118, 4, 7, 0), (131, 8, 0, 5), (138, 8, 1, 5), (145, 8, 2, 5), (151, 8, 3, 5), (160, 3, 0, 5), (165, 3, 1, 5), (168, 3, 2, 5), (171, 2, 4, 0), (178, 2, 0, 5), (197, 2, 1, 5), (282, 5, 7, 0), (313, 4, 0, 5), (316, 4, 2, 5), (319, 4, 3, 5), (322, 4, 6, 5), (325, 4, 5, 5), (346, 9, 0, 5), (361, 7, 8, 0), (460, 7, 2, 5), (469, 7, 3, 5), (472, 7, 4, 5), (475, 7, 5, 5), (480, 7, 6, 5), (481, 7, 7, 5)]
set_option maxRecDepth 100000 in
theorem zf_T_ok : ∀ q ∈ zf_T, z_fok "TrackHouse" q := z_foks (own := "TrackHouse") [((12, 11, 0, 5), 468, none), ((19, 11, 1, 5), 469, none), ((23, 11, 2, 5), 470, none), ((29, 11, 3, 5), 471, none), ((33, 1, 1, 5), 349, some "TrackHouse"), ((37, 11, 4, 5), 472, none), ((38, 1, 2, 5), 351, some "TrackHouse"), ((42, 11, 5, 5), 473, none), ((43, 1, 3, 5), 353, some "TrackHouse"), ((47, 11, 6, 5), 474, none), ((48, 8, 6, 5), 321, some "TrackHouse"), ((54, 11, 7, 5), 475, none), ((58, 11, 8, 5), 476, none), ((65, 11, 9, 5), 477, none), ((72, 11, 10, 5), 478, none), ((79, 11, 11, 5), 479, none), ((83, 11, 12, 5), 480, none), ((87, 11, 13, 5), 481, none), ((90, 11, 14, 0), 482, none), ((94, 11, 15, 0), 483, none), ((118, 4, 7, 0), 140, some "TrackHouse"), ((131, 8, 0, 5), 311, some "TrackHouse"), ((138, 8, 1, 5), 313, some "TrackHouse"), ((145, 8, 2, 5), 315, some "TrackHouse"), ((151, 8, 3, 5), 317, some "TrackHouse"), ((160, 3, 0, 5), 284, some "TrackHouse"), ((165, 3, 1, 5), 286, some "TrackHouse"), ((168, 3, 2, 5), 290, some "TrackHouse"), ((171, 2, 4, 0), 377, some "TrackHouse"), ((178, 2, 0, 5), 371, some "TrackHouse"), ((197, 2, 1, 5), 373, some "TrackHouse"), ((282, 5, 7, 0), 203, some "TrackHouse"), ((313, 4, 0, 5), 118, some "TrackHouse"), ((316, 4, 2, 5), 124, some "TrackHouse"), ((319, 4, 3, 5), 128, some "TrackHouse"), ((322, 4, 6, 5), 137, some "TrackHouse"), ((325, 4, 5, 5), 133, some "TrackHouse"), ((346, 9, 0, 5), 245, some "TrackHouse"), ((361, 7, 8, 0), 410, some "TrackHouse"), ((460, 7, 2, 5), 398, some "TrackHouse"), ((469, 7, 3, 5), 400, some "TrackHouse"), ((472, 7, 4, 5), 402, some "TrackHouse"), ((475, 7, 5, 5), 404, some "TrackHouse"), ((480, 7, 6, 5), 406, some "TrackHouse"), ((481, 7, 7, 5), 408, some "TrackHouse")] (by decide +kernel)
abbrev zf_Bulks : List (Nat × Nat × Nat × Nat) := [(9, 0, 0, 5), (15, 0, 1, 5), (18, 0, 2, 5), (21, 0, 3, 5), (24, 0, 4, 0)]
set_option maxRecDepth 100000 in
theorem zf_Bulks_ok : ∀ q ∈ zf_Bulks, z_fok "TrackHouse$Bulks" q := z_foks (own := "TrackHouse$Bulks") [((9, 0, 0, 5), 452, none), ((15, 0, 1, 5), 453, none), ((18, 0, 2, 5), 454, none), ((21, 0, 3, 5), 455, none), ((24, 0, 4, 0), 456, none)] (by decide +kernel)
abbrev zf_Finder : List (Nat × Nat × Nat × Nat) := [(9, 1, 0, 5), (18, 1, 1, 5), (25, 1, 2, 5), (32, 1, 3, 5), (36, 5, 8, 0), (40, 5, 1, 5), (55, 5, 2, 5), (66, 8, 8, 0), (69, 9, 0, 5), (73, 10, 3, 0), (101, 5, 4, 5), (104, 5, 3, 5), (107, 9, 1, 5), (114, 9, 4, 5), (117, 9, 5, 0), (120, 9, 3, 5)]
set_option maxRecDepth 100000 in
theorem zf_Finder_ok : ∀ q ∈ zf_Finder, z_fok "TrackHouse$Finder" q := z_foks (own := "TrackHouse$Finder") [((9, 1, 0, 5), 347, none), ((18, 1, 1, 5), 348, none), ((25, 1, 2, 5), 350, none), ((32, 1, 3, 5), 352, none), ((36, 5, 8, 0), 205, some "TrackHouse"), ((40, 5, 1, 5), 193, some "TrackHouse"), ((55, 5, 2, 5), 195, some "TrackHouse"), ((66, 8, 8, 0), 324, some "TrackHouse"), ((69, 9, 0, 5), 244, some "TrackHouse"), ((73, 10, 3, 0), 169, some "TrackHouse"), ((101, 5, 4, 5), 199, some "TrackHouse"), ((104, 5, 3, 5), 197, some "TrackHouse"), ((107, 9, 1, 5), 247, some "TrackHouse"), ((114, 9, 4, 5), 252, some "TrackHouse"), ((117, 9, 5, 0), 254, some "TrackHouse"), ((120, 9, 3, 5), 250, some "TrackHouse")] (by decide +kernel)
abbrev zf_Flows : List (Nat × Nat × Nat × Nat) := [(9, 2, 0, 5), (15, 2, 1, 5), (18, 2, 2, 5), (21, 2, 3, 5), (24, 2, 4, 0)]
set_option maxRecDepth 100000 in
theorem zf_Flows_ok : ∀ q ∈ zf_Flows, z_fok "TrackHouse$Flows" q := z_foks (own := "TrackHouse$Flows") [((9, 2, 0, 5), 370, none), ((15, 2, 1, 5), 372, none), ((18, 2, 2, 5), 374, none), ((21, 2, 3, 5), 375, none), ((24, 2, 4, 0), 376, none)] (by decide +kernel)
abbrev zf_Kinds : List (Nat × Nat × Nat × Nat) := [(9, 3, 0, 5), (15, 3, 1, 5), (18, 3, 2, 5), (21, 3, 3, 5), (24, 3, 4, 5), (27, 3, 5, 5)]
set_option maxRecDepth 100000 in
theorem zf_Kinds_ok : ∀ q ∈ zf_Kinds, z_fok "TrackHouse$Kinds" q := z_foks (own := "TrackHouse$Kinds") [((9, 3, 0, 5), 283, none), ((15, 3, 1, 5), 285, none), ((18, 3, 2, 5), 288, none), ((21, 3, 3, 5), 291, none), ((24, 3, 4, 5), 292, none), ((27, 3, 5, 5), 293, none)] (by decide +kernel)
abbrev zf_Log : List (Nat × Nat × Nat × Nat) := [(9, 4, 0, 5), (15, 4, 1, 5), (18, 4, 2, 5), (21, 4, 3, 5), (24, 4, 4, 5), (27, 4, 5, 5), (30, 4, 6, 5), (33, 4, 7, 0)]
set_option maxRecDepth 100000 in
theorem zf_Log_ok : ∀ q ∈ zf_Log, z_fok "TrackHouse$Log" q := z_foks (own := "TrackHouse$Log") [((9, 4, 0, 5), 116, none), ((15, 4, 1, 5), 119, none), ((18, 4, 2, 5), 121, none), ((21, 4, 3, 5), 125, none), ((24, 4, 4, 5), 129, none), ((27, 4, 5, 5), 131, none), ((30, 4, 6, 5), 134, none), ((33, 4, 7, 0), 138, none)] (by decide +kernel)
abbrev zf_Query : List (Nat × Nat × Nat × Nat) := [(9, 5, 0, 5), (15, 5, 1, 5), (19, 5, 2, 5), (22, 5, 3, 5), (25, 5, 4, 5), (28, 5, 5, 5), (31, 5, 6, 5), (34, 5, 7, 0), (38, 5, 8, 0), (41, 5, 9, 0), (44, 5, 10, 0), (47, 5, 11, 2)]
set_option maxRecDepth 100000 in
theorem zf_Query_ok : ∀ q ∈ zf_Query, z_fok "TrackHouse$Query" q := z_foks (own := "TrackHouse$Query") [((9, 5, 0, 5), 191, none), ((15, 5, 1, 5), 192, none), ((19, 5, 2, 5), 194, none), ((22, 5, 3, 5), 196, none), ((25, 5, 4, 5), 198, none), ((28, 5, 5, 5), 200, none), ((31, 5, 6, 5), 201, none), ((34, 5, 7, 0), 202, none), ((38, 5, 8, 0), 204, none), ((41, 5, 9, 0), 206, none), ((44, 5, 10, 0), 207, none), ((47, 5, 11, 2), 208, none)] (by decide +kernel)
abbrev zf_Ranks : List (Nat × Nat × Nat × Nat) := [(9, 6, 0, 5), (15, 6, 1, 5), (18, 6, 2, 0)]
set_option maxRecDepth 100000 in
theorem zf_Ranks_ok : ∀ q ∈ zf_Ranks, z_fok "TrackHouse$Ranks" q := z_foks (own := "TrackHouse$Ranks") [((9, 6, 0, 5), 436, none), ((15, 6, 1, 5), 437, none), ((18, 6, 2, 0), 438, none)] (by decide +kernel)
abbrev zf_Rules : List (Nat × Nat × Nat × Nat) := [(9, 7, 0, 5), (15, 7, 1, 5), (18, 7, 2, 5), (21, 7, 3, 5), (24, 7, 4, 5), (27, 7, 5, 5), (30, 7, 6, 5), (33, 7, 7, 5), (36, 7, 8, 0)]
set_option maxRecDepth 100000 in
theorem zf_Rules_ok : ∀ q ∈ zf_Rules, z_fok "TrackHouse$Rules" q := z_foks (own := "TrackHouse$Rules") [((9, 7, 0, 5), 395, none), ((15, 7, 1, 5), 396, none), ((18, 7, 2, 5), 397, none), ((21, 7, 3, 5), 399, none), ((24, 7, 4, 5), 401, none), ((27, 7, 5, 5), 403, none), ((30, 7, 6, 5), 405, none), ((33, 7, 7, 5), 407, none), ((36, 7, 8, 0), 409, none)] (by decide +kernel)
abbrev zf_Sight : List (Nat × Nat × Nat × Nat) := [(9, 8, 0, 5), (15, 8, 1, 5), (18, 8, 2, 5), (21, 8, 3, 5), (24, 8, 4, 5), (27, 8, 5, 5), (33, 8, 6, 5), (40, 8, 7, 1), (44, 8, 8, 0), (48, 8, 9, 0), (99, 3, 2, 5), (107, 3, 1, 5)]
set_option maxRecDepth 100000 in
theorem zf_Sight_ok : ∀ q ∈ zf_Sight, z_fok "TrackHouse$Sight" q := z_foks (own := "TrackHouse$Sight") [((9, 8, 0, 5), 310, none), ((15, 8, 1, 5), 312, none), ((18, 8, 2, 5), 314, none), ((21, 8, 3, 5), 316, none), ((24, 8, 4, 5), 318, none), ((27, 8, 5, 5), 319, none), ((33, 8, 6, 5), 320, none), ((40, 8, 7, 1), 322, none), ((44, 8, 8, 0), 323, none), ((48, 8, 9, 0), 325, none), ((99, 3, 2, 5), 289, some "TrackHouse"), ((107, 3, 1, 5), 287, some "TrackHouse")] (by decide +kernel)
abbrev zf_View : List (Nat × Nat × Nat × Nat) := [(12, 9, 0, 5), (18, 9, 1, 5), (22, 9, 2, 5), (25, 9, 3, 5), (28, 9, 4, 5), (31, 9, 5, 0), (38, 4, 7, 0), (43, 4, 0, 5), (54, 4, 2, 5), (57, 4, 3, 5), (64, 4, 1, 5), (79, 4, 6, 5)]
set_option maxRecDepth 100000 in
theorem zf_View_ok : ∀ q ∈ zf_View, z_fok "TrackHouse$View" q := z_foks (own := "TrackHouse$View") [((12, 9, 0, 5), 243, none), ((18, 9, 1, 5), 246, none), ((22, 9, 2, 5), 248, none), ((25, 9, 3, 5), 249, none), ((28, 9, 4, 5), 251, none), ((31, 9, 5, 0), 253, none), ((38, 4, 7, 0), 139, some "TrackHouse"), ((43, 4, 0, 5), 117, some "TrackHouse"), ((54, 4, 2, 5), 122, some "TrackHouse"), ((57, 4, 3, 5), 126, some "TrackHouse"), ((64, 4, 1, 5), 120, some "TrackHouse"), ((79, 4, 6, 5), 135, some "TrackHouse")] (by decide +kernel)
abbrev zf_World : List (Nat × Nat × Nat × Nat) := [(9, 10, 0, 5), (15, 10, 1, 5), (18, 10, 2, 5), (21, 10, 3, 0), (67, 4, 2, 5), (72, 4, 3, 5), (75, 4, 4, 5), (78, 4, 6, 5), (89, 4, 5, 5)]
set_option maxRecDepth 100000 in
theorem zf_World_ok : ∀ q ∈ zf_World, z_fok "TrackHouse$World" q := z_foks (own := "TrackHouse$World") [((9, 10, 0, 5), 165, none), ((15, 10, 1, 5), 166, none), ((18, 10, 2, 5), 167, none), ((21, 10, 3, 0), 168, none), ((67, 4, 2, 5), 123, some "TrackHouse"), ((72, 4, 3, 5), 127, some "TrackHouse"), ((75, 4, 4, 5), 130, some "TrackHouse"), ((78, 4, 6, 5), 136, some "TrackHouse"), ((89, 4, 5, 5), 132, some "TrackHouse")] (by decide +kernel)
end
section
/-- what the tables say of a method -/
def z_mk (Y' : z_Y) (n : Nat) : Prop := Cond.code Y'.1 Y'.2.1 Y'.2.2.1 Y'.2.2.2.1 ∈ z_WB ∧ Cond.initialized Y'.1.cls ∈ z_WB ∧ (Y'.1.cls ≠ "java/lang/invoke/MethodHandle" ∧ Y'.1.cls ≠ "java/lang/invoke/VarHandle") ∧ (parseMethodDescriptor Y'.1.desc).map (fun d => d.parameters.length) = some n
theorem z_lk_m {own : String} {idx : Nat} {Y' : z_Y} {n : Nat} (h : z_mk Y' n) (i : Nat) (hi : lw_tbl[i]? = some (Cond.methodLink own idx Y'.1)) : z_lk own idx Y' n := ⟨h.1, h.2.1, h.2.2.1, h.2.2.2, Or.inl (z_wi i hi rfl)⟩
theorem z_lk_n {own : String} {idx : Nat} {Y' : z_Y} {n : Nat} (h : z_mk Y' n) (host : String) (i : Nat) (hi : lw_tbl[i]? = some (Cond.methodLinkNest own idx Y'.1 host)) : z_lk own idx Y' n := ⟨h.1, h.2.1, h.2.2.1, h.2.2.2, Or.inr ⟨host, z_ni i hi rfl⟩⟩

abbrev zm_T_init : z_Y := (⟨"TrackHouse", "<init>", "()V"⟩, prog_1_method_1_code, 1, none, zf_T)
theorem zk_T_init : z_mk zm_T_init 0 := ⟨z_wi 106 (by decide +kernel) rfl, z_wi 80 (by decide +kernel) rfl, ⟨by decide +kernel, by decide +kernel⟩, by decide +kernel⟩
theorem zi_T_init : Cond.instanceMethod zm_T_init.1 ∈ z_WB := z_wi 105 (by decide +kernel) rfl
abbrev zm_Log_init : z_Y := (⟨"TrackHouse$Log", "<init>", "()V"⟩, prog_6_method_1_code, 1, none, zf_Log)
theorem zk_Log_init : z_mk zm_Log_init 0 := ⟨z_wi 114 (by decide +kernel) rfl, z_wi 81 (by decide +kernel) rfl, ⟨by decide +kernel, by decide +kernel⟩, by decide +kernel⟩
theorem zi_Log_init : Cond.instanceMethod zm_Log_init.1 ∈ z_WB := z_wi 113 (by decide +kernel) rfl
abbrev zm_World_init : z_Y := (⟨"TrackHouse$World", "<init>", "()V"⟩, prog_12_method_1_code, 1, none, zf_World)
theorem zk_World_init : z_mk zm_World_init 0 := ⟨z_wi 163 (by decide +kernel) rfl, z_wi 82 (by decide +kernel) rfl, ⟨by decide +kernel, by decide +kernel⟩, by decide +kernel⟩
theorem zi_World_init : Cond.instanceMethod zm_World_init.1 ∈ z_WB := z_wi 162 (by decide +kernel) rfl
abbrev zm_Finder_init : z_Y := (⟨"TrackHouse$Finder", "<init>", "()V"⟩, prog_3_method_1_code, 1, none, zf_Finder)
theorem zk_Finder_init : z_mk zm_Finder_init 0 := ⟨z_wi 183 (by decide +kernel) rfl, z_wi 83 (by decide +kernel) rfl, ⟨by decide +kernel, by decide +kernel⟩, by decide +kernel⟩
theorem zi_Finder_init : Cond.instanceMethod zm_Finder_init.1 ∈ z_WB := z_wi 182 (by decide +kernel) rfl
abbrev zm_Query_init : z_Y := (⟨"TrackHouse$Query", "<init>", "()V"⟩, prog_7_method_1_code, 1, none, zf_Query)
theorem zk_Query_init : z_mk zm_Query_init 0 := ⟨z_wi 189 (by decide +kernel) rfl, z_wi 84 (by decide +kernel) rfl, ⟨by decide +kernel, by decide +kernel⟩, by decide +kernel⟩
theorem zi_Query_init : Cond.instanceMethod zm_Query_init.1 ∈ z_WB := z_wi 188 (by decide +kernel) rfl
abbrev zm_View_init : z_Y := (⟨"TrackHouse$View", "<init>", "()V"⟩, prog_11_method_1_code, 1, none, zf_View)
theorem zk_View_init : z_mk zm_View_init 0 := ⟨z_wi 239 (by decide +kernel) rfl, z_wi 85 (by decide +kernel) rfl, ⟨by decide +kernel, by decide +kernel⟩, by decide +kernel⟩
theorem zi_View_init : Cond.instanceMethod zm_View_init.1 ∈ z_WB := z_wi 238 (by decide +kernel) rfl
abbrev zm_Sight_init : z_Y := (⟨"TrackHouse$Sight", "<init>", "()V"⟩, prog_10_method_1_code, 1, none, zf_Sight)
theorem zk_Sight_init : z_mk zm_Sight_init 0 := ⟨z_wi 272 (by decide +kernel) rfl, z_wi 86 (by decide +kernel) rfl, ⟨by decide +kernel, by decide +kernel⟩, by decide +kernel⟩
theorem zi_Sight_init : Cond.instanceMethod zm_Sight_init.1 ∈ z_WB := z_wi 271 (by decide +kernel) rfl
abbrev zm_Kinds_init : z_Y := (⟨"TrackHouse$Kinds", "<init>", "()V"⟩, prog_5_method_1_code, 1, none, zf_Kinds)
theorem zk_Kinds_init : z_mk zm_Kinds_init 0 := ⟨z_wi 278 (by decide +kernel) rfl, z_wi 87 (by decide +kernel) rfl, ⟨by decide +kernel, by decide +kernel⟩, by decide +kernel⟩
theorem zi_Kinds_init : Cond.instanceMethod zm_Kinds_init.1 ∈ z_WB := z_wi 277 (by decide +kernel) rfl
abbrev zm_Arrays_fill : z_Y := (⟨"java/util/Arrays", "fill", "([II)V"⟩, prog_27_method_103_code, 4, none, [])
theorem zk_Arrays_fill : z_mk zm_Arrays_fill 2 := ⟨z_wi 282 (by decide +kernel) rfl, z_wi 88 (by decide +kernel) rfl, ⟨by decide +kernel, by decide +kernel⟩, by decide +kernel⟩
theorem zs_Arrays_fill : Cond.static zm_Arrays_fill.1 ∈ z_WB := z_wi 281 (by decide +kernel) rfl
abbrev zm_Flows_init : z_Y := (⟨"TrackHouse$Flows", "<init>", "()V"⟩, prog_4_method_1_code, 1, none, zf_Flows)
theorem zk_Flows_init : z_mk zm_Flows_init 0 := ⟨z_wi 367 (by decide +kernel) rfl, z_wi 89 (by decide +kernel) rfl, ⟨by decide +kernel, by decide +kernel⟩, by decide +kernel⟩
theorem zi_Flows_init : Cond.instanceMethod zm_Flows_init.1 ∈ z_WB := z_wi 366 (by decide +kernel) rfl
abbrev zm_Rules_init : z_Y := (⟨"TrackHouse$Rules", "<init>", "()V"⟩, prog_9_method_1_code, 1, none, zf_Rules)
theorem zk_Rules_init : z_mk zm_Rules_init 0 := ⟨z_wi 393 (by decide +kernel) rfl, z_wi 90 (by decide +kernel) rfl, ⟨by decide +kernel, by decide +kernel⟩, by decide +kernel⟩
theorem zi_Rules_init : Cond.instanceMethod zm_Rules_init.1 ∈ z_WB := z_wi 392 (by decide +kernel) rfl
abbrev zm_Ranks_init : z_Y := (⟨"TrackHouse$Ranks", "<init>", "()V"⟩, prog_8_method_1_code, 1, none, zf_Ranks)
theorem zk_Ranks_init : z_mk zm_Ranks_init 0 := ⟨z_wi 434 (by decide +kernel) rfl, z_wi 91 (by decide +kernel) rfl, ⟨by decide +kernel, by decide +kernel⟩, by decide +kernel⟩
theorem zi_Ranks_init : Cond.instanceMethod zm_Ranks_init.1 ∈ z_WB := z_wi 433 (by decide +kernel) rfl
abbrev zm_Bulks_init : z_Y := (⟨"TrackHouse$Bulks", "<init>", "()V"⟩, prog_2_method_1_code, 1, none, zf_Bulks)
theorem zk_Bulks_init : z_mk zm_Bulks_init 0 := ⟨z_wi 450 (by decide +kernel) rfl, z_wi 92 (by decide +kernel) rfl, ⟨by decide +kernel, by decide +kernel⟩, by decide +kernel⟩
theorem zi_Bulks_init : Cond.instanceMethod zm_Bulks_init.1 ∈ z_WB := z_wi 449 (by decide +kernel) rfl
abbrev zm_T_grant : z_Y := (⟨"TrackHouse", "grant", "(III)I"⟩, prog_1_method_2_code, 6, some .int, zf_T)
theorem zk_T_grant : z_mk zm_T_grant 3 := ⟨z_wi 520 (by decide +kernel) rfl, z_wi 80 (by decide +kernel) rfl, ⟨by decide +kernel, by decide +kernel⟩, by decide +kernel⟩
theorem zv_T_grant : Cond.instanceMethod zm_T_grant.1 ∈ z_WB ∧ Cond.selects zm_T_grant.1.cls zm_T_grant.1 zm_T_grant.1 ∈ z_WB := ⟨z_wi 518 (by decide +kernel) rfl, z_wi 519 (by decide +kernel) rfl⟩
abbrev zm_T_isPerson : z_Y := (⟨"TrackHouse", "isPerson", "(I)Z"⟩, prog_1_method_50_code, 1, some .boolean, zf_T)
theorem zk_T_isPerson : z_mk zm_T_isPerson 1 := ⟨z_wi 523 (by decide +kernel) rfl, z_wi 80 (by decide +kernel) rfl, ⟨by decide +kernel, by decide +kernel⟩, by decide +kernel⟩
theorem zs_T_isPerson : Cond.static zm_T_isPerson.1 ∈ z_WB := z_wi 522 (by decide +kernel) rfl
abbrev zm_T_isProject : z_Y := (⟨"TrackHouse", "isProject", "(I)Z"⟩, prog_1_method_51_code, 1, some .boolean, zf_T)
theorem zk_T_isProject : z_mk zm_T_isProject 1 := ⟨z_wi 526 (by decide +kernel) rfl, z_wi 80 (by decide +kernel) rfl, ⟨by decide +kernel, by decide +kernel⟩, by decide +kernel⟩
theorem zs_T_isProject : Cond.static zm_T_isProject.1 ∈ z_WB := z_wi 525 (by decide +kernel) rfl
abbrev zm_T_mustExist : z_Y := (⟨"TrackHouse", "mustExist", "(Z)V"⟩, prog_1_method_47_code, 1, none, zf_T)
theorem zk_T_mustExist : z_mk zm_T_mustExist 1 := ⟨z_wi 529 (by decide +kernel) rfl, z_wi 80 (by decide +kernel) rfl, ⟨by decide +kernel, by decide +kernel⟩, by decide +kernel⟩
theorem zs_T_mustExist : Cond.static zm_T_mustExist.1 ∈ z_WB := z_wi 528 (by decide +kernel) rfl
abbrev zm_T_isRoles : z_Y := (⟨"TrackHouse", "isRoles", "(I)Z"⟩, prog_1_method_57_code, 1, some .boolean, zf_T)
theorem zk_T_isRoles : z_mk zm_T_isRoles 1 := ⟨z_wi 600 (by decide +kernel) rfl, z_wi 80 (by decide +kernel) rfl, ⟨by decide +kernel, by decide +kernel⟩, by decide +kernel⟩
theorem zs_T_isRoles : Cond.static zm_T_isRoles.1 ∈ z_WB := z_wi 599 (by decide +kernel) rfl
abbrev zm_T_mustFit : z_Y := (⟨"TrackHouse", "mustFit", "(Z)V"⟩, prog_1_method_48_code, 1, none, zf_T)
theorem zk_T_mustFit : z_mk zm_T_mustFit 1 := ⟨z_wi 603 (by decide +kernel) rfl, z_wi 80 (by decide +kernel) rfl, ⟨by decide +kernel, by decide +kernel⟩, by decide +kernel⟩
theorem zs_T_mustFit : Cond.static zm_T_mustFit.1 ∈ z_WB := z_wi 602 (by decide +kernel) rfl
abbrev zm_World_rolesOf : z_Y := (⟨"TrackHouse$World", "rolesOf", "(II)I"⟩, prog_12_method_6_code, 3, some .int, zf_World)
theorem zk_World_rolesOf : z_mk zm_World_rolesOf 2 := ⟨z_wi 623 (by decide +kernel) rfl, z_wi 82 (by decide +kernel) rfl, ⟨by decide +kernel, by decide +kernel⟩, by decide +kernel⟩
theorem zv_World_rolesOf : Cond.instanceMethod zm_World_rolesOf.1 ∈ z_WB ∧ Cond.selects zm_World_rolesOf.1.cls zm_World_rolesOf.1 zm_World_rolesOf.1 ∈ z_WB := ⟨z_wi 622 (by decide +kernel) rfl, z_wi 1 (by decide +kernel) rfl⟩
abbrev zm_T_at : z_Y := (⟨"TrackHouse", "at", "([II)I"⟩, prog_1_method_85_code, 2, some .int, zf_T)
theorem zk_T_at : z_mk zm_T_at 2 := ⟨z_wi 626 (by decide +kernel) rfl, z_wi 80 (by decide +kernel) rfl, ⟨by decide +kernel, by decide +kernel⟩, by decide +kernel⟩
theorem zs_T_at : Cond.static zm_T_at.1 ∈ z_WB := z_wi 625 (by decide +kernel) rfl
abbrev zm_T_change : z_Y := (⟨"TrackHouse", "change", "(IIIII)V"⟩, prog_1_method_71_code, 7, none, zf_T)
theorem zk_T_change : z_mk zm_T_change 5 := ⟨z_wi 630 (by decide +kernel) rfl, z_wi 80 (by decide +kernel) rfl, ⟨by decide +kernel, by decide +kernel⟩, by decide +kernel⟩
theorem zv_T_change : Cond.instanceMethod zm_T_change.1 ∈ z_WB ∧ Cond.selects zm_T_change.1.cls zm_T_change.1 zm_T_change.1 ∈ z_WB := ⟨z_wi 629 (by decide +kernel) rfl, z_wi 2 (by decide +kernel) rfl⟩
abbrev zm_World_current : z_Y := (⟨"TrackHouse$World", "current", "(III)I"⟩, prog_12_method_9_code, 4, some .int, zf_World)
theorem zk_World_current : z_mk zm_World_current 3 := ⟨z_wi 634 (by decide +kernel) rfl, z_wi 82 (by decide +kernel) rfl, ⟨by decide +kernel, by decide +kernel⟩, by decide +kernel⟩
theorem zv_World_current : Cond.instanceMethod zm_World_current.1 ∈ z_WB ∧ Cond.selects zm_World_current.1.cls zm_World_current.1 zm_World_current.1 ∈ z_WB := ⟨z_wi 633 (by decide +kernel) rfl, z_wi 3 (by decide +kernel) rfl⟩
abbrev zm_World_linksOf : z_Y := (⟨"TrackHouse$World", "linksOf", "(II)I"⟩, prog_12_method_7_code, 4, some .int, zf_World)
theorem zk_World_linksOf : z_mk zm_World_linksOf 2 := ⟨z_wi 638 (by decide +kernel) rfl, z_wi 82 (by decide +kernel) rfl, ⟨by decide +kernel, by decide +kernel⟩, by decide +kernel⟩
theorem zv_World_linksOf : Cond.instanceMethod zm_World_linksOf.1 ∈ z_WB ∧ Cond.selects zm_World_linksOf.1.cls zm_World_linksOf.1 zm_World_linksOf.1 ∈ z_WB := ⟨z_wi 637 (by decide +kernel) rfl, z_wi 4 (by decide +kernel) rfl⟩
abbrev zm_T_isIn : z_Y := (⟨"TrackHouse", "isIn", "(II)Z"⟩, prog_1_method_88_code, 2, some .boolean, zf_T)
theorem zk_T_isIn : z_mk zm_T_isIn 2 := ⟨z_wi 641 (by decide +kernel) rfl, z_wi 80 (by decide +kernel) rfl, ⟨by decide +kernel, by decide +kernel⟩, by decide +kernel⟩
theorem zs_T_isIn : Cond.static zm_T_isIn.1 ∈ z_WB := z_wi 640 (by decide +kernel) rfl
abbrev zm_World_cell : z_Y := (⟨"TrackHouse$World", "cell", "(II)I"⟩, prog_12_method_5_code, 4, some .int, zf_World)
theorem zk_World_cell : z_mk zm_World_cell 2 := ⟨z_wi 645 (by decide +kernel) rfl, z_wi 82 (by decide +kernel) rfl, ⟨by decide +kernel, by decide +kernel⟩, by decide +kernel⟩
theorem zv_World_cell : Cond.instanceMethod zm_World_cell.1 ∈ z_WB ∧ Cond.selects zm_World_cell.1.cls zm_World_cell.1 zm_World_cell.1 ∈ z_WB := ⟨z_wi 644 (by decide +kernel) rfl, z_wi 5 (by decide +kernel) rfl⟩
abbrev zm_Log_add : z_Y := (⟨"TrackHouse$Log", "add", "(IIIIIII)V"⟩, prog_6_method_2_code, 8, none, zf_Log)
theorem zk_Log_add : z_mk zm_Log_add 7 := ⟨z_wi 649 (by decide +kernel) rfl, z_wi 81 (by decide +kernel) rfl, ⟨by decide +kernel, by decide +kernel⟩, by decide +kernel⟩
theorem zv_Log_add : Cond.instanceMethod zm_Log_add.1 ∈ z_WB ∧ Cond.selects zm_Log_add.1.cls zm_Log_add.1 zm_Log_add.1 ∈ z_WB := ⟨z_wi 648 (by decide +kernel) rfl, z_wi 6 (by decide +kernel) rfl⟩
abbrev zm_World_write : z_Y := (⟨"TrackHouse$World", "write", "(IIII)V"⟩, prog_12_method_10_code, 5, none, zf_World)
theorem zk_World_write : z_mk zm_World_write 4 := ⟨z_wi 653 (by decide +kernel) rfl, z_wi 82 (by decide +kernel) rfl, ⟨by decide +kernel, by decide +kernel⟩, by decide +kernel⟩
theorem zv_World_write : Cond.instanceMethod zm_World_write.1 ∈ z_WB ∧ Cond.selects zm_World_write.1.cls zm_World_write.1 zm_World_write.1 ∈ z_WB := ⟨z_wi 652 (by decide +kernel) rfl, z_wi 7 (by decide +kernel) rfl⟩
abbrev zm_T_put : z_Y := (⟨"TrackHouse", "put", "([III)V"⟩, prog_1_method_86_code, 3, none, zf_T)
theorem zk_T_put : z_mk zm_T_put 3 := ⟨z_wi 656 (by decide +kernel) rfl, z_wi 80 (by decide +kernel) rfl, ⟨by decide +kernel, by decide +kernel⟩, by decide +kernel⟩
theorem zs_T_put : Cond.static zm_T_put.1 ∈ z_WB := z_wi 655 (by decide +kernel) rfl
abbrev zm_World_connect : z_Y := (⟨"TrackHouse$World", "connect", "(IIIZ)V"⟩, prog_12_method_11_code, 7, none, zf_World)
theorem zk_World_connect : z_mk zm_World_connect 4 := ⟨z_wi 660 (by decide +kernel) rfl, z_wi 82 (by decide +kernel) rfl, ⟨by decide +kernel, by decide +kernel⟩, by decide +kernel⟩
theorem zv_World_connect : Cond.instanceMethod zm_World_connect.1 ∈ z_WB ∧ Cond.selects zm_World_connect.1.cls zm_World_connect.1 zm_World_connect.1 ∈ z_WB := ⟨z_wi 659 (by decide +kernel) rfl, z_wi 8 (by decide +kernel) rfl⟩
abbrev zm_T_isWithinLimit : z_Y := (⟨"TrackHouse", "isWithinLimit", "(I)Z"⟩, prog_1_method_73_code, 3, some .boolean, zf_T)
theorem zk_T_isWithinLimit : z_mk zm_T_isWithinLimit 1 := ⟨z_wi 664 (by decide +kernel) rfl, z_wi 80 (by decide +kernel) rfl, ⟨by decide +kernel, by decide +kernel⟩, by decide +kernel⟩
theorem zv_T_isWithinLimit : Cond.instanceMethod zm_T_isWithinLimit.1 ∈ z_WB ∧ Cond.selects zm_T_isWithinLimit.1.cls zm_T_isWithinLimit.1 zm_T_isWithinLimit.1 ∈ z_WB := ⟨z_wi 663 (by decide +kernel) rfl, z_wi 9 (by decide +kernel) rfl⟩
abbrev zm_T_takeBack : z_Y := (⟨"TrackHouse", "takeBack", "(I)V"⟩, prog_1_method_72_code, 3, none, zf_T)
theorem zk_T_takeBack : z_mk zm_T_takeBack 1 := ⟨z_wi 668 (by decide +kernel) rfl, z_wi 80 (by decide +kernel) rfl, ⟨by decide +kernel, by decide +kernel⟩, by decide +kernel⟩
theorem zv_T_takeBack : Cond.instanceMethod zm_T_takeBack.1 ∈ z_WB ∧ Cond.selects zm_T_takeBack.1.cls zm_T_takeBack.1 zm_T_takeBack.1 ∈ z_WB := ⟨z_wi 667 (by decide +kernel) rfl, z_wi 10 (by decide +kernel) rfl⟩
abbrev zm_World_undo : z_Y := (⟨"TrackHouse$World", "undo", "(LTrackHouse$Log;I)V"⟩, prog_12_method_14_code, 4, none, zf_World)
theorem zk_World_undo : z_mk zm_World_undo 2 := ⟨z_wi 672 (by decide +kernel) rfl, z_wi 82 (by decide +kernel) rfl, ⟨by decide +kernel, by decide +kernel⟩, by decide +kernel⟩
theorem zv_World_undo : Cond.instanceMethod zm_World_undo.1 ∈ z_WB ∧ Cond.selects zm_World_undo.1.cls zm_World_undo.1 zm_World_undo.1 ∈ z_WB := ⟨z_wi 671 (by decide +kernel) rfl, z_wi 11 (by decide +kernel) rfl⟩
abbrev zm_T_bit : z_Y := (⟨"TrackHouse", "bit", "(I)I"⟩, prog_1_method_87_code, 1, some .int, zf_T)
theorem zk_T_bit : z_mk zm_T_bit 1 := ⟨z_wi 675 (by decide +kernel) rfl, z_wi 80 (by decide +kernel) rfl, ⟨by decide +kernel, by decide +kernel⟩, by decide +kernel⟩
theorem zs_T_bit : Cond.static zm_T_bit.1 ∈ z_WB := z_wi 674 (by decide +kernel) rfl
abbrev zm_T_mustBeAllowed : z_Y := (⟨"TrackHouse", "mustBeAllowed", "(Z)V"⟩, prog_1_method_49_code, 1, none, zf_T)
theorem zk_T_mustBeAllowed : z_mk zm_T_mustBeAllowed 1 := ⟨z_wi 682 (by decide +kernel) rfl, z_wi 80 (by decide +kernel) rfl, ⟨by decide +kernel, by decide +kernel⟩, by decide +kernel⟩
theorem zs_T_mustBeAllowed : Cond.static zm_T_mustBeAllowed.1 ∈ z_WB := z_wi 681 (by decide +kernel) rfl
abbrev zm_T_scheme : z_Y := (⟨"TrackHouse", "scheme", "(III)I"⟩, prog_1_method_3_code, 5, some .int, zf_T)
theorem zk_T_scheme : z_mk zm_T_scheme 3 := ⟨z_wi 702 (by decide +kernel) rfl, z_wi 80 (by decide +kernel) rfl, ⟨by decide +kernel, by decide +kernel⟩, by decide +kernel⟩
theorem zv_T_scheme : Cond.instanceMethod zm_T_scheme.1 ∈ z_WB ∧ Cond.selects zm_T_scheme.1.cls zm_T_scheme.1 zm_T_scheme.1 ∈ z_WB := ⟨z_wi 700 (by decide +kernel) rfl, z_wi 701 (by decide +kernel) rfl⟩
abbrev zm_T_secure : z_Y := (⟨"TrackHouse", "secure", "(II)I"⟩, prog_1_method_4_code, 4, some .int, zf_T)
theorem zk_T_secure : z_mk zm_T_secure 2 := ⟨z_wi 708 (by decide +kernel) rfl, z_wi 80 (by decide +kernel) rfl, ⟨by decide +kernel, by decide +kernel⟩, by decide +kernel⟩
theorem zv_T_secure : Cond.instanceMethod zm_T_secure.1 ∈ z_WB ∧ Cond.selects zm_T_secure.1.cls zm_T_secure.1 zm_T_secure.1 ∈ z_WB := ⟨z_wi 706 (by decide +kernel) rfl, z_wi 707 (by decide +kernel) rfl⟩
abbrev zm_T_reads : z_Y := (⟨"TrackHouse", "reads", "(II)I"⟩, prog_1_method_5_code, 4, some .int, zf_T)
theorem zk_T_reads : z_mk zm_T_reads 2 := ⟨z_wi 712 (by decide +kernel) rfl, z_wi 80 (by decide +kernel) rfl, ⟨by decide +kernel, by decide +kernel⟩, by decide +kernel⟩
theorem zv_T_reads : Cond.instanceMethod zm_T_reads.1 ∈ z_WB ∧ Cond.selects zm_T_reads.1.cls zm_T_reads.1 zm_T_reads.1 ∈ z_WB := ⟨z_wi 710 (by decide +kernel) rfl, z_wi 711 (by decide +kernel) rfl⟩
abbrev zm_T_isAnyField : z_Y := (⟨"TrackHouse", "isAnyField", "(I)Z"⟩, prog_1_method_56_code, 1, some .boolean, zf_T)
theorem zk_T_isAnyField : z_mk zm_T_isAnyField 1 := ⟨z_wi 715 (by decide +kernel) rfl, z_wi 80 (by decide +kernel) rfl, ⟨by decide +kernel, by decide +kernel⟩, by decide +kernel⟩
theorem zs_T_isAnyField : Cond.static zm_T_isAnyField.1 ∈ z_WB := z_wi 714 (by decide +kernel) rfl
abbrev zm_T_pass : z_Y := (⟨"TrackHouse", "pass", "(I)I"⟩, prog_1_method_6_code, 2, some .int, zf_T)
theorem zk_T_pass : z_mk zm_T_pass 1 := ⟨z_wi 719 (by decide +kernel) rfl, z_wi 80 (by decide +kernel) rfl, ⟨by decide +kernel, by decide +kernel⟩, by decide +kernel⟩
theorem zv_T_pass : Cond.instanceMethod zm_T_pass.1 ∈ z_WB ∧ Cond.selects zm_T_pass.1.cls zm_T_pass.1 zm_T_pass.1 ∈ z_WB := ⟨z_wi 717 (by decide +kernel) rfl, z_wi 718 (by decide +kernel) rfl⟩
abbrev zm_T_index : z_Y := (⟨"TrackHouse", "index", "()I"⟩, prog_1_method_7_code, 1, some .int, zf_T)
theorem zk_T_index : z_mk zm_T_index 0 := ⟨z_wi 723 (by decide +kernel) rfl, z_wi 80 (by decide +kernel) rfl, ⟨by decide +kernel, by decide +kernel⟩, by decide +kernel⟩
theorem zv_T_index : Cond.instanceMethod zm_T_index.1 ∈ z_WB ∧ Cond.selects zm_T_index.1.cls zm_T_index.1 zm_T_index.1 ∈ z_WB := ⟨z_wi 721 (by decide +kernel) rfl, z_wi 722 (by decide +kernel) rfl⟩
abbrev zm_T_kind : z_Y := (⟨"TrackHouse", "kind", "(IIII)V"⟩, prog_1_method_9_code, 5, none, zf_T)
theorem zk_T_kind : z_mk zm_T_kind 4 := ⟨z_wi 727 (by decide +kernel) rfl, z_wi 80 (by decide +kernel) rfl, ⟨by decide +kernel, by decide +kernel⟩, by decide +kernel⟩
theorem zv_T_kind : Cond.instanceMethod zm_T_kind.1 ∈ z_WB ∧ Cond.selects zm_T_kind.1.cls zm_T_kind.1 zm_T_kind.1 ∈ z_WB := ⟨z_wi 725 (by decide +kernel) rfl, z_wi 726 (by decide +kernel) rfl⟩
abbrev zm_T_isKind : z_Y := (⟨"TrackHouse", "isKind", "(I)Z"⟩, prog_1_method_52_code, 1, some .boolean, zf_T)
theorem zk_T_isKind : z_mk zm_T_isKind 1 := ⟨z_wi 730 (by decide +kernel) rfl, z_wi 80 (by decide +kernel) rfl, ⟨by decide +kernel, by decide +kernel⟩, by decide +kernel⟩
theorem zs_T_isKind : Cond.static zm_T_isKind.1 ∈ z_WB := z_wi 729 (by decide +kernel) rfl
abbrev zm_T_isField : z_Y := (⟨"TrackHouse", "isField", "(I)Z"⟩, prog_1_method_55_code, 1, some .boolean, zf_T)
theorem zk_T_isField : z_mk zm_T_isField 1 := ⟨z_wi 733 (by decide +kernel) rfl, z_wi 80 (by decide +kernel) rfl, ⟨by decide +kernel, by decide +kernel⟩, by decide +kernel⟩
theorem zs_T_isField : Cond.static zm_T_isField.1 ∈ z_WB := z_wi 732 (by decide +kernel) rfl
abbrev zm_T_draft : z_Y := (⟨"TrackHouse", "draft", "(I)I"⟩, prog_1_method_10_code, 2, some .int, zf_T)
theorem zk_T_draft : z_mk zm_T_draft 1 := ⟨z_wi 737 (by decide +kernel) rfl, z_wi 80 (by decide +kernel) rfl, ⟨by decide +kernel, by decide +kernel⟩, by decide +kernel⟩
theorem zv_T_draft : Cond.instanceMethod zm_T_draft.1 ∈ z_WB ∧ Cond.selects zm_T_draft.1.cls zm_T_draft.1 zm_T_draft.1 ∈ z_WB := ⟨z_wi 735 (by decide +kernel) rfl, z_wi 736 (by decide +kernel) rfl⟩
abbrev zm_Flows_begin : z_Y := (⟨"TrackHouse$Flows", "begin", "(I)V"⟩, prog_4_method_7_code, 3, none, zf_Flows)
theorem zk_Flows_begin : z_mk zm_Flows_begin 1 := ⟨z_wi 741 (by decide +kernel) rfl, z_wi 89 (by decide +kernel) rfl, ⟨by decide +kernel, by decide +kernel⟩, by decide +kernel⟩
theorem zv_Flows_begin : Cond.instanceMethod zm_Flows_begin.1 ∈ z_WB ∧ Cond.selects zm_Flows_begin.1.cls zm_Flows_begin.1 zm_Flows_begin.1 ∈ z_WB := ⟨z_wi 740 (by decide +kernel) rfl, z_wi 12 (by decide +kernel) rfl⟩
abbrev zm_T_state : z_Y := (⟨"TrackHouse", "state", "(I)I"⟩, prog_1_method_11_code, 2, some .int, zf_T)
theorem zk_T_state : z_mk zm_T_state 1 := ⟨z_wi 747 (by decide +kernel) rfl, z_wi 80 (by decide +kernel) rfl, ⟨by decide +kernel, by decide +kernel⟩, by decide +kernel⟩
theorem zv_T_state : Cond.instanceMethod zm_T_state.1 ∈ z_WB ∧ Cond.selects zm_T_state.1.cls zm_T_state.1 zm_T_state.1 ∈ z_WB := ⟨z_wi 745 (by decide +kernel) rfl, z_wi 746 (by decide +kernel) rfl⟩
abbrev zm_Flows_has : z_Y := (⟨"TrackHouse$Flows", "has", "(II)Z"⟩, prog_4_method_2_code, 3, some .boolean, zf_Flows)
theorem zk_Flows_has : z_mk zm_Flows_has 2 := ⟨z_wi 751 (by decide +kernel) rfl, z_wi 89 (by decide +kernel) rfl, ⟨by decide +kernel, by decide +kernel⟩, by decide +kernel⟩
theorem zv_Flows_has : Cond.instanceMethod zm_Flows_has.1 ∈ z_WB ∧ Cond.selects zm_Flows_has.1.cls zm_Flows_has.1 zm_Flows_has.1 ∈ z_WB := ⟨z_wi 750 (by decide +kernel) rfl, z_wi 13 (by decide +kernel) rfl⟩
abbrev zm_Flows_add : z_Y := (⟨"TrackHouse$Flows", "add", "(I)V"⟩, prog_4_method_8_code, 2, none, zf_Flows)
theorem zk_Flows_add : z_mk zm_Flows_add 1 := ⟨z_wi 756 (by decide +kernel) rfl, z_wi 89 (by decide +kernel) rfl, ⟨by decide +kernel, by decide +kernel⟩, by decide +kernel⟩
theorem zv_Flows_add : Cond.instanceMethod zm_Flows_add.1 ∈ z_WB ∧ Cond.selects zm_Flows_add.1.cls zm_Flows_add.1 zm_Flows_add.1 ∈ z_WB := ⟨z_wi 755 (by decide +kernel) rfl, z_wi 14 (by decide +kernel) rfl⟩
abbrev zm_T_transition : z_Y := (⟨"TrackHouse", "transition", "(IIIIII)I"⟩, prog_1_method_13_code, 8, some .int, zf_T)
theorem zk_T_transition : z_mk zm_T_transition 6 := ⟨z_wi 761 (by decide +kernel) rfl, z_wi 80 (by decide +kernel) rfl, ⟨by decide +kernel, by decide +kernel⟩, by decide +kernel⟩
theorem zv_T_transition : Cond.instanceMethod zm_T_transition.1 ∈ z_WB ∧ Cond.selects zm_T_transition.1.cls zm_T_transition.1 zm_T_transition.1 ∈ z_WB := ⟨z_wi 759 (by decide +kernel) rfl, z_wi 760 (by decide +kernel) rfl⟩
abbrev zm_T_isState : z_Y := (⟨"TrackHouse", "isState", "(I)Z"⟩, prog_1_method_53_code, 1, some .boolean, zf_T)
theorem zk_T_isState : z_mk zm_T_isState 1 := ⟨z_wi 764 (by decide +kernel) rfl, z_wi 80 (by decide +kernel) rfl, ⟨by decide +kernel, by decide +kernel⟩, by decide +kernel⟩
theorem zs_T_isState : Cond.static zm_T_isState.1 ∈ z_WB := z_wi 763 (by decide +kernel) rfl
abbrev zm_T_isNumber : z_Y := (⟨"TrackHouse", "isNumber", "(I)Z"⟩, prog_1_method_58_code, 1, some .boolean, zf_T)
theorem zk_T_isNumber : z_mk zm_T_isNumber 1 := ⟨z_wi 767 (by decide +kernel) rfl, z_wi 80 (by decide +kernel) rfl, ⟨by decide +kernel, by decide +kernel⟩, by decide +kernel⟩
theorem zs_T_isNumber : Cond.static zm_T_isNumber.1 ∈ z_WB := z_wi 766 (by decide +kernel) rfl
abbrev zm_Flows_setEnds : z_Y := (⟨"TrackHouse$Flows", "setEnds", "(III)V"⟩, prog_4_method_5_code, 4, none, zf_Flows)
theorem zk_Flows_setEnds : z_mk zm_Flows_setEnds 3 := ⟨z_wi 771 (by decide +kernel) rfl, z_wi 89 (by decide +kernel) rfl, ⟨by decide +kernel, by decide +kernel⟩, by decide +kernel⟩
theorem zv_Flows_setEnds : Cond.instanceMethod zm_Flows_setEnds.1 ∈ z_WB ∧ Cond.selects zm_Flows_setEnds.1.cls zm_Flows_setEnds.1 zm_Flows_setEnds.1 ∈ z_WB := ⟨z_wi 770 (by decide +kernel) rfl, z_wi 15 (by decide +kernel) rfl⟩
abbrev zm_Flows_setPart : z_Y := (⟨"TrackHouse$Flows", "setPart", "(III)V"⟩, prog_4_method_4_code, 4, none, zf_Flows)
theorem zk_Flows_setPart : z_mk zm_Flows_setPart 3 := ⟨z_wi 775 (by decide +kernel) rfl, z_wi 89 (by decide +kernel) rfl, ⟨by decide +kernel, by decide +kernel⟩, by decide +kernel⟩
theorem zv_Flows_setPart : Cond.instanceMethod zm_Flows_setPart.1 ∈ z_WB ∧ Cond.selects zm_Flows_setPart.1.cls zm_Flows_setPart.1 zm_Flows_setPart.1 ∈ z_WB := ⟨z_wi 774 (by decide +kernel) rfl, z_wi 16 (by decide +kernel) rfl⟩
abbrev zm_Flows_setTerms : z_Y := (⟨"TrackHouse$Flows", "setTerms", "(IIIII)V"⟩, prog_4_method_6_code, 6, none, zf_Flows)
theorem zk_Flows_setTerms : z_mk zm_Flows_setTerms 5 := ⟨z_wi 779 (by decide +kernel) rfl, z_wi 89 (by decide +kernel) rfl, ⟨by decide +kernel, by decide +kernel⟩, by decide +kernel⟩
theorem zv_Flows_setTerms : Cond.instanceMethod zm_Flows_setTerms.1 ∈ z_WB ∧ Cond.selects zm_Flows_setTerms.1.cls zm_Flows_setTerms.1 zm_Flows_setTerms.1 ∈ z_WB := ⟨z_wi 778 (by decide +kernel) rfl, z_wi 17 (by decide +kernel) rfl⟩
abbrev zm_T_publish : z_Y := (⟨"TrackHouse", "publish", "(I)I"⟩, prog_1_method_14_code, 5, some .int, zf_T)
theorem zk_T_publish : z_mk zm_T_publish 1 := ⟨z_wi 783 (by decide +kernel) rfl, z_wi 80 (by decide +kernel) rfl, ⟨by decide +kernel, by decide +kernel⟩, by decide +kernel⟩
theorem zv_T_publish : Cond.instanceMethod zm_T_publish.1 ∈ z_WB ∧ Cond.selects zm_T_publish.1.cls zm_T_publish.1 zm_T_publish.1 ∈ z_WB := ⟨z_wi 781 (by decide +kernel) rfl, z_wi 782 (by decide +kernel) rfl⟩
abbrev zm_World_has : z_Y := (⟨"TrackHouse$World", "has", "(I)Z"⟩, prog_12_method_4_code, 2, some .boolean, zf_World)
theorem zk_World_has : z_mk zm_World_has 1 := ⟨z_wi 788 (by decide +kernel) rfl, z_wi 82 (by decide +kernel) rfl, ⟨by decide +kernel, by decide +kernel⟩, by decide +kernel⟩
theorem zv_World_has : Cond.instanceMethod zm_World_has.1 ∈ z_WB ∧ Cond.selects zm_World_has.1.cls zm_World_has.1 zm_World_has.1 ∈ z_WB := ⟨z_wi 787 (by decide +kernel) rfl, z_wi 18 (by decide +kernel) rfl⟩
abbrev zm_Flows_mappedFrom : z_Y := (⟨"TrackHouse$Flows", "mappedFrom", "(I)I"⟩, prog_4_method_10_code, 4, some .int, zf_Flows)
theorem zk_Flows_mappedFrom : z_mk zm_Flows_mappedFrom 1 := ⟨z_wi 792 (by decide +kernel) rfl, z_wi 89 (by decide +kernel) rfl, ⟨by decide +kernel, by decide +kernel⟩, by decide +kernel⟩
theorem zv_Flows_mappedFrom : Cond.instanceMethod zm_Flows_mappedFrom.1 ∈ z_WB ∧ Cond.selects zm_Flows_mappedFrom.1.cls zm_Flows_mappedFrom.1 zm_Flows_mappedFrom.1 ∈ z_WB := ⟨z_wi 791 (by decide +kernel) rfl, z_wi 19 (by decide +kernel) rfl⟩
abbrev zm_Flows_exchange : z_Y := (⟨"TrackHouse$Flows", "exchange", "(I)V"⟩, prog_4_method_11_code, 3, none, zf_Flows)
theorem zk_Flows_exchange : z_mk zm_Flows_exchange 1 := ⟨z_wi 797 (by decide +kernel) rfl, z_wi 89 (by decide +kernel) rfl, ⟨by decide +kernel, by decide +kernel⟩, by decide +kernel⟩
theorem zv_Flows_exchange : Cond.instanceMethod zm_Flows_exchange.1 ∈ z_WB ∧ Cond.selects zm_Flows_exchange.1.cls zm_Flows_exchange.1 zm_Flows_exchange.1 ∈ z_WB := ⟨z_wi 796 (by decide +kernel) rfl, z_wi 20 (by decide +kernel) rfl⟩
abbrev zm_Flows_swap : z_Y := (⟨"TrackHouse$Flows", "swap", "([III)V"⟩, prog_4_method_12_code, 4, none, zf_Flows)
theorem zk_Flows_swap : z_mk zm_Flows_swap 3 := ⟨z_wi 800 (by decide +kernel) rfl, z_wi 89 (by decide +kernel) rfl, ⟨by decide +kernel, by decide +kernel⟩, by decide +kernel⟩
theorem zs_Flows_swap : Cond.static zm_Flows_swap.1 ∈ z_WB := z_wi 799 (by decide +kernel) rfl
abbrev zm_T_isSettled : z_Y := (⟨"TrackHouse", "isSettled", "(II)Z"⟩, prog_1_method_74_code, 5, some .boolean, zf_T)
theorem zk_T_isSettled : z_mk zm_T_isSettled 2 := ⟨z_wi 804 (by decide +kernel) rfl, z_wi 80 (by decide +kernel) rfl, ⟨by decide +kernel, by decide +kernel⟩, by decide +kernel⟩
theorem zv_T_isSettled : Cond.instanceMethod zm_T_isSettled.1 ∈ z_WB ∧ Cond.selects zm_T_isSettled.1.cls zm_T_isSettled.1 zm_T_isSettled.1 ∈ z_WB := ⟨z_wi 803 (by decide +kernel) rfl, z_wi 21 (by decide +kernel) rfl⟩
abbrev zm_T_goesThrough : z_Y := (⟨"TrackHouse", "goesThrough", "(IIZ)Z"⟩, prog_1_method_75_code, 6, some .boolean, zf_T)
theorem zk_T_goesThrough : z_mk zm_T_goesThrough 3 := ⟨z_wi 808 (by decide +kernel) rfl, z_wi 80 (by decide +kernel) rfl, ⟨by decide +kernel, by decide +kernel⟩, by decide +kernel⟩
theorem zv_T_goesThrough : Cond.instanceMethod zm_T_goesThrough.1 ∈ z_WB ∧ Cond.selects zm_T_goesThrough.1.cls zm_T_goesThrough.1 zm_T_goesThrough.1 ∈ z_WB := ⟨z_wi 807 (by decide +kernel) rfl, z_wi 22 (by decide +kernel) rfl⟩
abbrev zm_T_wake : z_Y := (⟨"TrackHouse", "wake", "(IIZI)V"⟩, prog_1_method_76_code, 10, none, zf_T)
theorem zk_T_wake : z_mk zm_T_wake 4 := ⟨z_wi 812 (by decide +kernel) rfl, z_wi 80 (by decide +kernel) rfl, ⟨by decide +kernel, by decide +kernel⟩, by decide +kernel⟩
theorem zv_T_wake : Cond.instanceMethod zm_T_wake.1 ∈ z_WB ∧ Cond.selects zm_T_wake.1.cls zm_T_wake.1 zm_T_wake.1 ∈ z_WB := ⟨z_wi 811 (by decide +kernel) rfl, z_wi 23 (by decide +kernel) rfl⟩
abbrev zm_T_isWoken : z_Y := (⟨"TrackHouse", "isWoken", "(II)Z"⟩, prog_1_method_77_code, 5, some .boolean, zf_T)
theorem zk_T_isWoken : z_mk zm_T_isWoken 2 := ⟨z_wi 816 (by decide +kernel) rfl, z_wi 80 (by decide +kernel) rfl, ⟨by decide +kernel, by decide +kernel⟩, by decide +kernel⟩
theorem zv_T_isWoken : Cond.instanceMethod zm_T_isWoken.1 ∈ z_WB ∧ Cond.selects zm_T_isWoken.1.cls zm_T_isWoken.1 zm_T_isWoken.1 ∈ z_WB := ⟨z_wi 815 (by decide +kernel) rfl, z_wi 24 (by decide +kernel) rfl⟩
abbrev zm_Rules_isCause : z_Y := (⟨"TrackHouse$Rules", "isCause", "(III)Z"⟩, prog_9_method_5_code, 4, some .boolean, zf_Rules)
theorem zk_Rules_isCause : z_mk zm_Rules_isCause 3 := ⟨z_wi 820 (by decide +kernel) rfl, z_wi 90 (by decide +kernel) rfl, ⟨by decide +kernel, by decide +kernel⟩, by decide +kernel⟩
theorem zv_Rules_isCause : Cond.instanceMethod zm_Rules_isCause.1 ∈ z_WB ∧ Cond.selects zm_Rules_isCause.1.cls zm_Rules_isCause.1 zm_Rules_isCause.1 ∈ z_WB := ⟨z_wi 819 (by decide +kernel) rfl, z_wi 25 (by decide +kernel) rfl⟩
abbrev zm_T_isMet : z_Y := (⟨"TrackHouse", "isMet", "(III)Z"⟩, prog_1_method_67_code, 4, some .boolean, zf_T)
theorem zk_T_isMet : z_mk zm_T_isMet 3 := ⟨z_wi 825 (by decide +kernel) rfl, z_wi 80 (by decide +kernel) rfl, ⟨by decide +kernel, by decide +kernel⟩, by decide +kernel⟩
theorem zv_T_isMet : Cond.instanceMethod zm_T_isMet.1 ∈ z_WB ∧ Cond.selects zm_T_isMet.1.cls zm_T_isMet.1 zm_T_isMet.1 ∈ z_WB := ⟨z_wi 824 (by decide +kernel) rfl, z_wi 26 (by decide +kernel) rfl⟩
abbrev zm_Kinds_has : z_Y := (⟨"TrackHouse$Kinds", "has", "(II)Z"⟩, prog_5_method_2_code, 3, some .boolean, zf_Kinds)
theorem zk_Kinds_has : z_mk zm_Kinds_has 2 := ⟨z_wi 829 (by decide +kernel) rfl, z_wi 87 (by decide +kernel) rfl, ⟨by decide +kernel, by decide +kernel⟩, by decide +kernel⟩
theorem zv_Kinds_has : Cond.instanceMethod zm_Kinds_has.1 ∈ z_WB ∧ Cond.selects zm_Kinds_has.1.cls zm_Kinds_has.1 zm_Kinds_has.1 ∈ z_WB := ⟨z_wi 828 (by decide +kernel) rfl, z_wi 27 (by decide +kernel) rfl⟩
abbrev zm_T_targetsOf : z_Y := (⟨"TrackHouse", "targetsOf", "(II)I"⟩, prog_1_method_78_code, 3, some .int, zf_T)
theorem zk_T_targetsOf : z_mk zm_T_targetsOf 2 := ⟨z_wi 833 (by decide +kernel) rfl, z_wi 80 (by decide +kernel) rfl, ⟨by decide +kernel, by decide +kernel⟩, by decide +kernel⟩
theorem zv_T_targetsOf : Cond.instanceMethod zm_T_targetsOf.1 ∈ z_WB ∧ Cond.selects zm_T_targetsOf.1.cls zm_T_targetsOf.1 zm_T_targetsOf.1 ∈ z_WB := ⟨z_wi 832 (by decide +kernel) rfl, z_wi 28 (by decide +kernel) rfl⟩
abbrev zm_World_childrenOf : z_Y := (⟨"TrackHouse$World", "childrenOf", "(I)I"⟩, prog_12_method_8_code, 4, some .int, zf_World)
theorem zk_World_childrenOf : z_mk zm_World_childrenOf 1 := ⟨z_wi 838 (by decide +kernel) rfl, z_wi 82 (by decide +kernel) rfl, ⟨by decide +kernel, by decide +kernel⟩, by decide +kernel⟩
theorem zv_World_childrenOf : Cond.instanceMethod zm_World_childrenOf.1 ∈ z_WB ∧ Cond.selects zm_World_childrenOf.1.cls zm_World_childrenOf.1 zm_World_childrenOf.1 ∈ z_WB := ⟨z_wi 837 (by decide +kernel) rfl, z_wi 29 (by decide +kernel) rfl⟩
abbrev zm_T_canTake : z_Y := (⟨"TrackHouse", "canTake", "(II)Z"⟩, prog_1_method_79_code, 4, some .boolean, zf_T)
theorem zk_T_canTake : z_mk zm_T_canTake 2 := ⟨z_wi 845 (by decide +kernel) rfl, z_wi 80 (by decide +kernel) rfl, ⟨by decide +kernel, by decide +kernel⟩, by decide +kernel⟩
theorem zv_T_canTake : Cond.instanceMethod zm_T_canTake.1 ∈ z_WB ∧ Cond.selects zm_T_canTake.1.cls zm_T_canTake.1 zm_T_canTake.1 ∈ z_WB := ⟨z_wi 844 (by decide +kernel) rfl, z_wi 30 (by decide +kernel) rfl⟩
abbrev zm_World_copyFrom : z_Y := (⟨"TrackHouse$World", "copyFrom", "(LTrackHouse$World;)V"⟩, prog_12_method_15_code, 2, none, zf_World)
theorem zk_World_copyFrom : z_mk zm_World_copyFrom 1 := ⟨z_wi 849 (by decide +kernel) rfl, z_wi 82 (by decide +kernel) rfl, ⟨by decide +kernel, by decide +kernel⟩, by decide +kernel⟩
theorem zv_World_copyFrom : Cond.instanceMethod zm_World_copyFrom.1 ∈ z_WB ∧ Cond.selects zm_World_copyFrom.1.cls zm_World_copyFrom.1 zm_World_copyFrom.1 ∈ z_WB := ⟨z_wi 848 (by decide +kernel) rfl, z_wi 31 (by decide +kernel) rfl⟩
abbrev zm_World_isLike : z_Y := (⟨"TrackHouse$World", "isLike", "(LTrackHouse$World;)Z"⟩, prog_12_method_16_code, 2, some .boolean, zf_World)
theorem zk_World_isLike : z_mk zm_World_isLike 1 := ⟨z_wi 856 (by decide +kernel) rfl, z_wi 82 (by decide +kernel) rfl, ⟨by decide +kernel, by decide +kernel⟩, by decide +kernel⟩
theorem zv_World_isLike : Cond.instanceMethod zm_World_isLike.1 ∈ z_WB ∧ Cond.selects zm_World_isLike.1.cls zm_World_isLike.1 zm_World_isLike.1 ∈ z_WB := ⟨z_wi 855 (by decide +kernel) rfl, z_wi 32 (by decide +kernel) rfl⟩
abbrev zm_World_isSame : z_Y := (⟨"TrackHouse$World", "isSame", "([I[I)Z"⟩, prog_12_method_17_code, 4, some .boolean, zf_World)
theorem zk_World_isSame : z_mk zm_World_isSame 2 := ⟨z_wi 859 (by decide +kernel) rfl, z_wi 82 (by decide +kernel) rfl, ⟨by decide +kernel, by decide +kernel⟩, by decide +kernel⟩
theorem zs_World_isSame : Cond.static zm_World_isSame.1 ∈ z_WB := z_wi 858 (by decide +kernel) rfl
abbrev zm_T_create : z_Y := (⟨"TrackHouse", "create", "(III)I"⟩, prog_1_method_16_code, 6, some .int, zf_T)
theorem zk_T_create : z_mk zm_T_create 3 := ⟨z_wi 863 (by decide +kernel) rfl, z_wi 80 (by decide +kernel) rfl, ⟨by decide +kernel, by decide +kernel⟩, by decide +kernel⟩
theorem zv_T_create : Cond.instanceMethod zm_T_create.1 ∈ z_WB ∧ Cond.selects zm_T_create.1.cls zm_T_create.1 zm_T_create.1 ∈ z_WB := ⟨z_wi 861 (by decide +kernel) rfl, z_wi 862 (by decide +kernel) rfl⟩
abbrev zm_World_size : z_Y := (⟨"TrackHouse$World", "size", "()I"⟩, prog_12_method_3_code, 1, some .int, zf_World)
theorem zk_World_size : z_mk zm_World_size 0 := ⟨z_wi 867 (by decide +kernel) rfl, z_wi 82 (by decide +kernel) rfl, ⟨by decide +kernel, by decide +kernel⟩, by decide +kernel⟩
theorem zv_World_size : Cond.instanceMethod zm_World_size.1 ∈ z_WB ∧ Cond.selects zm_World_size.1.cls zm_World_size.1 zm_World_size.1 ∈ z_WB := ⟨z_wi 866 (by decide +kernel) rfl, z_wi 33 (by decide +kernel) rfl⟩
abbrev zm_Integer_bitCount : z_Y := (⟨"java/lang/Integer", "bitCount", "(I)I"⟩, prog_21_method_49_code, 1, some .int, [])
theorem zk_Integer_bitCount : z_mk zm_Integer_bitCount 1 := ⟨z_wi 870 (by decide +kernel) rfl, z_wi 101 (by decide +kernel) rfl, ⟨by decide +kernel, by decide +kernel⟩, by decide +kernel⟩
theorem zs_Integer_bitCount : Cond.static zm_Integer_bitCount.1 ∈ z_WB := z_wi 869 (by decide +kernel) rfl
abbrev zm_T_canEditIn : z_Y := (⟨"TrackHouse", "canEditIn", "(II)Z"⟩, prog_1_method_64_code, 3, some .boolean, zf_T)
theorem zk_T_canEditIn : z_mk zm_T_canEditIn 2 := ⟨z_wi 877 (by decide +kernel) rfl, z_wi 80 (by decide +kernel) rfl, ⟨by decide +kernel, by decide +kernel⟩, by decide +kernel⟩
theorem zv_T_canEditIn : Cond.instanceMethod zm_T_canEditIn.1 ∈ z_WB ∧ Cond.selects zm_T_canEditIn.1.cls zm_T_canEditIn.1 zm_T_canEditIn.1 ∈ z_WB := ⟨z_wi 876 (by decide +kernel) rfl, z_wi 34 (by decide +kernel) rfl⟩
abbrev zm_World_redo : z_Y := (⟨"TrackHouse$World", "redo", "(LTrackHouse$Log;I)V"⟩, prog_12_method_13_code, 4, none, zf_World)
theorem zk_World_redo : z_mk zm_World_redo 2 := ⟨z_wi 881 (by decide +kernel) rfl, z_wi 82 (by decide +kernel) rfl, ⟨by decide +kernel, by decide +kernel⟩, by decide +kernel⟩
theorem zv_World_redo : Cond.instanceMethod zm_World_redo.1 ∈ z_WB ∧ Cond.selects zm_World_redo.1.cls zm_World_redo.1 zm_World_redo.1 ∈ z_WB := ⟨z_wi 880 (by decide +kernel) rfl, z_wi 35 (by decide +kernel) rfl⟩
abbrev zm_World_begin : z_Y := (⟨"TrackHouse$World", "begin", "(III)V"⟩, prog_12_method_12_code, 5, none, zf_World)
theorem zk_World_begin : z_mk zm_World_begin 3 := ⟨z_wi 885 (by decide +kernel) rfl, z_wi 82 (by decide +kernel) rfl, ⟨by decide +kernel, by decide +kernel⟩, by decide +kernel⟩
theorem zv_World_begin : Cond.instanceMethod zm_World_begin.1 ∈ z_WB ∧ Cond.selects zm_World_begin.1.cls zm_World_begin.1 zm_World_begin.1 ∈ z_WB := ⟨z_wi 884 (by decide +kernel) rfl, z_wi 36 (by decide +kernel) rfl⟩
abbrev zm_Ranks_append : z_Y := (⟨"TrackHouse$Ranks", "append", "(I)V"⟩, prog_8_method_2_code, 4, none, zf_Ranks)
theorem zk_Ranks_append : z_mk zm_Ranks_append 1 := ⟨z_wi 889 (by decide +kernel) rfl, z_wi 91 (by decide +kernel) rfl, ⟨by decide +kernel, by decide +kernel⟩, by decide +kernel⟩
theorem zv_Ranks_append : Cond.instanceMethod zm_Ranks_append.1 ∈ z_WB ∧ Cond.selects zm_Ranks_append.1.cls zm_Ranks_append.1 zm_Ranks_append.1 ∈ z_WB := ⟨z_wi 888 (by decide +kernel) rfl, z_wi 37 (by decide +kernel) rfl⟩
abbrev zm_T_set : z_Y := (⟨"TrackHouse", "set", "(IIII)I"⟩, prog_1_method_17_code, 7, some .int, zf_T)
theorem zk_T_set : z_mk zm_T_set 4 := ⟨z_wi 898 (by decide +kernel) rfl, z_wi 80 (by decide +kernel) rfl, ⟨by decide +kernel, by decide +kernel⟩, by decide +kernel⟩
theorem zv_T_set : Cond.instanceMethod zm_T_set.1 ∈ z_WB ∧ Cond.selects zm_T_set.1.cls zm_T_set.1 zm_T_set.1 ∈ z_WB := ⟨z_wi 896 (by decide +kernel) rfl, z_wi 897 (by decide +kernel) rfl⟩
abbrev zm_T_isSeen : z_Y := (⟨"TrackHouse", "isSeen", "(II)Z"⟩, prog_1_method_63_code, 3, some .boolean, zf_T)
theorem zk_T_isSeen : z_mk zm_T_isSeen 2 := ⟨z_wi 902 (by decide +kernel) rfl, z_wi 80 (by decide +kernel) rfl, ⟨by decide +kernel, by decide +kernel⟩, by decide +kernel⟩
theorem zv_T_isSeen : Cond.instanceMethod zm_T_isSeen.1 ∈ z_WB ∧ Cond.selects zm_T_isSeen.1.cls zm_T_isSeen.1 zm_T_isSeen.1 ∈ z_WB := ⟨z_wi 901 (by decide +kernel) rfl, z_wi 38 (by decide +kernel) rfl⟩
abbrev zm_Sight_look : z_Y := (⟨"TrackHouse$Sight", "look", "(LTrackHouse$World;I)V"⟩, prog_10_method_2_code, 4, none, zf_Sight)
theorem zk_Sight_look : z_mk zm_Sight_look 2 := ⟨z_wi 906 (by decide +kernel) rfl, z_wi 86 (by decide +kernel) rfl, ⟨by decide +kernel, by decide +kernel⟩, by decide +kernel⟩
theorem zv_Sight_look : Cond.instanceMethod zm_Sight_look.1 ∈ z_WB ∧ Cond.selects zm_Sight_look.1.cls zm_Sight_look.1 zm_Sight_look.1 ∈ z_WB := ⟨z_wi 905 (by decide +kernel) rfl, z_wi 39 (by decide +kernel) rfl⟩
abbrev zm_Sight_lookAt : z_Y := (⟨"TrackHouse$Sight", "lookAt", "(II)V"⟩, prog_10_method_3_code, 7, none, zf_Sight)
theorem zk_Sight_lookAt : z_mk zm_Sight_lookAt 2 := ⟨z_wi 913 (by decide +kernel) rfl, z_wi 86 (by decide +kernel) rfl, ⟨by decide +kernel, by decide +kernel⟩, by decide +kernel⟩
theorem zv_Sight_lookAt : Cond.instanceMethod zm_Sight_lookAt.1 ∈ z_WB ∧ Cond.selects zm_Sight_lookAt.1.cls zm_Sight_lookAt.1 zm_Sight_lookAt.1 ∈ z_WB := ⟨z_wi 912 (by decide +kernel) rfl, z_wi 40 (by decide +kernel) rfl⟩
abbrev zm_Sight_tell : z_Y := (⟨"TrackHouse$Sight", "tell", "(II)V"⟩, prog_10_method_4_code, 3, none, zf_Sight)
theorem zk_Sight_tell : z_mk zm_Sight_tell 2 := ⟨z_wi 920 (by decide +kernel) rfl, z_wi 86 (by decide +kernel) rfl, ⟨by decide +kernel, by decide +kernel⟩, by decide +kernel⟩
theorem zv_Sight_tell : Cond.instanceMethod zm_Sight_tell.1 ∈ z_WB ∧ Cond.selects zm_Sight_tell.1.cls zm_Sight_tell.1 zm_Sight_tell.1 ∈ z_WB := ⟨z_wi 919 (by decide +kernel) rfl, z_wi 41 (by decide +kernel) rfl⟩
abbrev zm_Sight_sees : z_Y := (⟨"TrackHouse$Sight", "sees", "(I)Z"⟩, prog_10_method_5_code, 2, some .boolean, zf_Sight)
theorem zk_Sight_sees : z_mk zm_Sight_sees 1 := ⟨z_wi 925 (by decide +kernel) rfl, z_wi 86 (by decide +kernel) rfl, ⟨by decide +kernel, by decide +kernel⟩, by decide +kernel⟩
theorem zv_Sight_sees : Cond.instanceMethod zm_Sight_sees.1 ∈ z_WB ∧ Cond.selects zm_Sight_sees.1.cls zm_Sight_sees.1 zm_Sight_sees.1 ∈ z_WB := ⟨z_wi 924 (by decide +kernel) rfl, z_wi 42 (by decide +kernel) rfl⟩
abbrev zm_T_isValue : z_Y := (⟨"TrackHouse", "isValue", "(I)Z"⟩, prog_1_method_59_code, 1, some .boolean, zf_T)
theorem zk_T_isValue : z_mk zm_T_isValue 1 := ⟨z_wi 929 (by decide +kernel) rfl, z_wi 80 (by decide +kernel) rfl, ⟨by decide +kernel, by decide +kernel⟩, by decide +kernel⟩
theorem zs_T_isValue : Cond.static zm_T_isValue.1 ∈ z_WB := z_wi 928 (by decide +kernel) rfl
abbrev zm_T_canWrite : z_Y := (⟨"TrackHouse", "canWrite", "(II)Z"⟩, prog_1_method_65_code, 3, some .boolean, zf_T)
theorem zk_T_canWrite : z_mk zm_T_canWrite 2 := ⟨z_wi 933 (by decide +kernel) rfl, z_wi 80 (by decide +kernel) rfl, ⟨by decide +kernel, by decide +kernel⟩, by decide +kernel⟩
theorem zv_T_canWrite : Cond.instanceMethod zm_T_canWrite.1 ∈ z_WB ∧ Cond.selects zm_T_canWrite.1.cls zm_T_canWrite.1 zm_T_canWrite.1 ∈ z_WB := ⟨z_wi 932 (by decide +kernel) rfl, z_wi 43 (by decide +kernel) rfl⟩
abbrev zm_Sight_canEdit : z_Y := (⟨"TrackHouse$Sight", "canEdit", "(I)Z"⟩, prog_10_method_6_code, 2, some .boolean, zf_Sight)
theorem zk_Sight_canEdit : z_mk zm_Sight_canEdit 1 := ⟨z_wi 937 (by decide +kernel) rfl, z_wi 86 (by decide +kernel) rfl, ⟨by decide +kernel, by decide +kernel⟩, by decide +kernel⟩
theorem zv_Sight_canEdit : Cond.instanceMethod zm_Sight_canEdit.1 ∈ z_WB ∧ Cond.selects zm_Sight_canEdit.1.cls zm_Sight_canEdit.1 zm_Sight_canEdit.1 ∈ z_WB := ⟨z_wi 936 (by decide +kernel) rfl, z_wi 44 (by decide +kernel) rfl⟩
abbrev zm_Sight_canRead : z_Y := (⟨"TrackHouse$Sight", "canRead", "(II)Z"⟩, prog_10_method_7_code, 3, some .boolean, zf_Sight)
theorem zk_Sight_canRead : z_mk zm_Sight_canRead 2 := ⟨z_wi 941 (by decide +kernel) rfl, z_wi 86 (by decide +kernel) rfl, ⟨by decide +kernel, by decide +kernel⟩, by decide +kernel⟩
theorem zv_Sight_canRead : Cond.instanceMethod zm_Sight_canRead.1 ∈ z_WB ∧ Cond.selects zm_Sight_canRead.1.cls zm_Sight_canRead.1 zm_Sight_canRead.1 ∈ z_WB := ⟨z_wi 940 (by decide +kernel) rfl, z_wi 45 (by decide +kernel) rfl⟩
abbrev zm_T_assign : z_Y := (⟨"TrackHouse", "assign", "(III)I"⟩, prog_1_method_18_code, 4, some .int, zf_T)
theorem zk_T_assign : z_mk zm_T_assign 3 := ⟨z_wi 945 (by decide +kernel) rfl, z_wi 80 (by decide +kernel) rfl, ⟨by decide +kernel, by decide +kernel⟩, by decide +kernel⟩
theorem zv_T_assign : Cond.instanceMethod zm_T_assign.1 ∈ z_WB ∧ Cond.selects zm_T_assign.1.cls zm_T_assign.1 zm_T_assign.1 ∈ z_WB := ⟨z_wi 943 (by decide +kernel) rfl, z_wi 944 (by decide +kernel) rfl⟩
abbrev zm_T_setCell : z_Y := (⟨"TrackHouse", "setCell", "(IIII)I"⟩, prog_1_method_70_code, 7, some .int, zf_T)
theorem zk_T_setCell : z_mk zm_T_setCell 4 := ⟨z_wi 949 (by decide +kernel) rfl, z_wi 80 (by decide +kernel) rfl, ⟨by decide +kernel, by decide +kernel⟩, by decide +kernel⟩
theorem zv_T_setCell : Cond.instanceMethod zm_T_setCell.1 ∈ z_WB ∧ Cond.selects zm_T_setCell.1.cls zm_T_setCell.1 zm_T_setCell.1 ∈ z_WB := ⟨z_wi 948 (by decide +kernel) rfl, z_wi 46 (by decide +kernel) rfl⟩
abbrev zm_T_move : z_Y := (⟨"TrackHouse", "move", "(III)I"⟩, prog_1_method_19_code, 8, some .int, zf_T)
theorem zk_T_move : z_mk zm_T_move 3 := ⟨z_wi 953 (by decide +kernel) rfl, z_wi 80 (by decide +kernel) rfl, ⟨by decide +kernel, by decide +kernel⟩, by decide +kernel⟩
theorem zv_T_move : Cond.instanceMethod zm_T_move.1 ∈ z_WB ∧ Cond.selects zm_T_move.1.cls zm_T_move.1 zm_T_move.1 ∈ z_WB := ⟨z_wi 951 (by decide +kernel) rfl, z_wi 952 (by decide +kernel) rfl⟩
abbrev zm_T_stepTo : z_Y := (⟨"TrackHouse", "stepTo", "(III)I"⟩, prog_1_method_66_code, 9, some .int, zf_T)
theorem zk_T_stepTo : z_mk zm_T_stepTo 3 := ⟨z_wi 957 (by decide +kernel) rfl, z_wi 80 (by decide +kernel) rfl, ⟨by decide +kernel, by decide +kernel⟩, by decide +kernel⟩
theorem zv_T_stepTo : Cond.instanceMethod zm_T_stepTo.1 ∈ z_WB ∧ Cond.selects zm_T_stepTo.1.cls zm_T_stepTo.1 zm_T_stepTo.1 ∈ z_WB := ⟨z_wi 956 (by decide +kernel) rfl, z_wi 47 (by decide +kernel) rfl⟩
abbrev zm_Flows_part : z_Y := (⟨"TrackHouse$Flows", "part", "(III)I"⟩, prog_4_method_3_code, 4, some .int, zf_Flows)
theorem zk_Flows_part : z_mk zm_Flows_part 3 := ⟨z_wi 961 (by decide +kernel) rfl, z_wi 89 (by decide +kernel) rfl, ⟨by decide +kernel, by decide +kernel⟩, by decide +kernel⟩
theorem zv_Flows_part : Cond.instanceMethod zm_Flows_part.1 ∈ z_WB ∧ Cond.selects zm_Flows_part.1.cls zm_Flows_part.1 zm_Flows_part.1 ∈ z_WB := ⟨z_wi 960 (by decide +kernel) rfl, z_wi 48 (by decide +kernel) rfl⟩
abbrev zm_T_nest : z_Y := (⟨"TrackHouse", "nest", "(III)I"⟩, prog_1_method_20_code, 5, some .int, zf_T)
theorem zk_T_nest : z_mk zm_T_nest 3 := ⟨z_wi 965 (by decide +kernel) rfl, z_wi 80 (by decide +kernel) rfl, ⟨by decide +kernel, by decide +kernel⟩, by decide +kernel⟩
theorem zv_T_nest : Cond.instanceMethod zm_T_nest.1 ∈ z_WB ∧ Cond.selects zm_T_nest.1.cls zm_T_nest.1 zm_T_nest.1 ∈ z_WB := ⟨z_wi 963 (by decide +kernel) rfl, z_wi 964 (by decide +kernel) rfl⟩
abbrev zm_T_isAtOrAbove : z_Y := (⟨"TrackHouse", "isAtOrAbove", "(II)Z"⟩, prog_1_method_68_code, 5, some .boolean, zf_T)
theorem zk_T_isAtOrAbove : z_mk zm_T_isAtOrAbove 2 := ⟨z_wi 969 (by decide +kernel) rfl, z_wi 80 (by decide +kernel) rfl, ⟨by decide +kernel, by decide +kernel⟩, by decide +kernel⟩
theorem zv_T_isAtOrAbove : Cond.instanceMethod zm_T_isAtOrAbove.1 ∈ z_WB ∧ Cond.selects zm_T_isAtOrAbove.1.cls zm_T_isAtOrAbove.1 zm_T_isAtOrAbove.1 ∈ z_WB := ⟨z_wi 968 (by decide +kernel) rfl, z_wi 49 (by decide +kernel) rfl⟩
abbrev zm_T_level : z_Y := (⟨"TrackHouse", "level", "(III)Z"⟩, prog_1_method_22_code, 4, some .boolean, zf_T)
theorem zk_T_level : z_mk zm_T_level 3 := ⟨z_wi 973 (by decide +kernel) rfl, z_wi 80 (by decide +kernel) rfl, ⟨by decide +kernel, by decide +kernel⟩, by decide +kernel⟩
theorem zv_T_level : Cond.instanceMethod zm_T_level.1 ∈ z_WB ∧ Cond.selects zm_T_level.1.cls zm_T_level.1 zm_T_level.1 ∈ z_WB := ⟨z_wi 971 (by decide +kernel) rfl, z_wi 972 (by decide +kernel) rfl⟩
abbrev zm_T_transfer : z_Y := (⟨"TrackHouse", "transfer", "(III)I"⟩, prog_1_method_23_code, 7, some .int, zf_T)
theorem zk_T_transfer : z_mk zm_T_transfer 3 := ⟨z_wi 977 (by decide +kernel) rfl, z_wi 80 (by decide +kernel) rfl, ⟨by decide +kernel, by decide +kernel⟩, by decide +kernel⟩
theorem zv_T_transfer : Cond.instanceMethod zm_T_transfer.1 ∈ z_WB ∧ Cond.selects zm_T_transfer.1.cls zm_T_transfer.1 zm_T_transfer.1 ∈ z_WB := ⟨z_wi 975 (by decide +kernel) rfl, z_wi 976 (by decide +kernel) rfl⟩
abbrev zm_T_sprint : z_Y := (⟨"TrackHouse", "sprint", "(III)I"⟩, prog_1_method_24_code, 4, some .int, zf_T)
theorem zk_T_sprint : z_mk zm_T_sprint 3 := ⟨z_wi 981 (by decide +kernel) rfl, z_wi 80 (by decide +kernel) rfl, ⟨by decide +kernel, by decide +kernel⟩, by decide +kernel⟩
theorem zv_T_sprint : Cond.instanceMethod zm_T_sprint.1 ∈ z_WB ∧ Cond.selects zm_T_sprint.1.cls zm_T_sprint.1 zm_T_sprint.1 ∈ z_WB := ⟨z_wi 979 (by decide +kernel) rfl, z_wi 980 (by decide +kernel) rfl⟩
abbrev zm_T_isSprint : z_Y := (⟨"TrackHouse", "isSprint", "(I)Z"⟩, prog_1_method_54_code, 1, some .boolean, zf_T)
theorem zk_T_isSprint : z_mk zm_T_isSprint 1 := ⟨z_wi 984 (by decide +kernel) rfl, z_wi 80 (by decide +kernel) rfl, ⟨by decide +kernel, by decide +kernel⟩, by decide +kernel⟩
theorem zs_T_isSprint : Cond.static zm_T_isSprint.1 ∈ z_WB := z_wi 983 (by decide +kernel) rfl
abbrev zm_T_type : z_Y := (⟨"TrackHouse", "type", "(C)I"⟩, prog_1_method_26_code, 2, some .int, zf_T)
theorem zk_T_type : z_mk zm_T_type 1 := ⟨z_wi 988 (by decide +kernel) rfl, z_wi 80 (by decide +kernel) rfl, ⟨by decide +kernel, by decide +kernel⟩, by decide +kernel⟩
theorem zv_T_type : Cond.instanceMethod zm_T_type.1 ∈ z_WB ∧ Cond.selects zm_T_type.1.cls zm_T_type.1 zm_T_type.1 ∈ z_WB := ⟨z_wi 986 (by decide +kernel) rfl, z_wi 987 (by decide +kernel) rfl⟩
abbrev zm_Query_append : z_Y := (⟨"TrackHouse$Query", "append", "(C)I"⟩, prog_7_method_2_code, 2, some .int, zf_Query)
theorem zk_Query_append : z_mk zm_Query_append 1 := ⟨z_wi 992 (by decide +kernel) rfl, z_wi 84 (by decide +kernel) rfl, ⟨by decide +kernel, by decide +kernel⟩, by decide +kernel⟩
theorem zv_Query_append : Cond.instanceMethod zm_Query_append.1 ∈ z_WB ∧ Cond.selects zm_Query_append.1.cls zm_Query_append.1 zm_Query_append.1 ∈ z_WB := ⟨z_wi 991 (by decide +kernel) rfl, z_wi 50 (by decide +kernel) rfl⟩
abbrev zm_T_wipe : z_Y := (⟨"TrackHouse", "wipe", "()I"⟩, prog_1_method_27_code, 2, some .int, zf_T)
theorem zk_T_wipe : z_mk zm_T_wipe 0 := ⟨z_wi 996 (by decide +kernel) rfl, z_wi 80 (by decide +kernel) rfl, ⟨by decide +kernel, by decide +kernel⟩, by decide +kernel⟩
theorem zv_T_wipe : Cond.instanceMethod zm_T_wipe.1 ∈ z_WB ∧ Cond.selects zm_T_wipe.1.cls zm_T_wipe.1 zm_T_wipe.1 ∈ z_WB := ⟨z_wi 994 (by decide +kernel) rfl, z_wi 995 (by decide +kernel) rfl⟩
abbrev zm_T_fault : z_Y := (⟨"TrackHouse", "fault", "()I"⟩, prog_1_method_28_code, 1, some .int, zf_T)
theorem zk_T_fault : z_mk zm_T_fault 0 := ⟨z_wi 1000 (by decide +kernel) rfl, z_wi 80 (by decide +kernel) rfl, ⟨by decide +kernel, by decide +kernel⟩, by decide +kernel⟩
theorem zv_T_fault : Cond.instanceMethod zm_T_fault.1 ∈ z_WB ∧ Cond.selects zm_T_fault.1.cls zm_T_fault.1 zm_T_fault.1 ∈ z_WB := ⟨z_wi 998 (by decide +kernel) rfl, z_wi 999 (by decide +kernel) rfl⟩
abbrev zm_Query_compile : z_Y := (⟨"TrackHouse$Query", "compile", "()I"⟩, prog_7_method_3_code, 3, some .int, zf_Query)
theorem zk_Query_compile : z_mk zm_Query_compile 0 := ⟨z_wi 1004 (by decide +kernel) rfl, z_wi 84 (by decide +kernel) rfl, ⟨by decide +kernel, by decide +kernel⟩, by decide +kernel⟩
theorem zv_Query_compile : Cond.instanceMethod zm_Query_compile.1 ∈ z_WB ∧ Cond.selects zm_Query_compile.1.cls zm_Query_compile.1 zm_Query_compile.1 ∈ z_WB := ⟨z_wi 1003 (by decide +kernel) rfl, z_wi 51 (by decide +kernel) rfl⟩
abbrev zm_Query_beginsWell : z_Y := (⟨"TrackHouse$Query", "beginsWell", "()Z"⟩, prog_7_method_7_code, 2, some .boolean, zf_Query)
theorem zk_Query_beginsWell : z_mk zm_Query_beginsWell 0 := ⟨z_wi 1008 (by decide +kernel) rfl, z_wi 84 (by decide +kernel) rfl, ⟨by decide +kernel, by decide +kernel⟩, by decide +kernel⟩
theorem zv_Query_beginsWell : Cond.instanceMethod zm_Query_beginsWell.1 ∈ z_WB ∧ Cond.selects zm_Query_beginsWell.1.cls zm_Query_beginsWell.1 zm_Query_beginsWell.1 ∈ z_WB := ⟨z_wi 1007 (by decide +kernel) rfl, z_wi 52 (by decide +kernel) rfl⟩
abbrev zm_Query_sign : z_Y := (⟨"TrackHouse$Query", "sign", "()C"⟩, prog_7_method_4_code, 1, some .char, zf_Query)
theorem zk_Query_sign : z_mk zm_Query_sign 0 := ⟨z_wi 1012 (by decide +kernel) rfl, z_wi 84 (by decide +kernel) rfl, ⟨by decide +kernel, by decide +kernel⟩, by decide +kernel⟩
theorem zv_Query_sign : Cond.instanceMethod zm_Query_sign.1 ∈ z_WB ∧ Cond.selects zm_Query_sign.1.cls zm_Query_sign.1 zm_Query_sign.1 ∈ z_WB := ⟨z_wi 1011 (by decide +kernel) rfl, z_wi 53 (by decide +kernel) rfl⟩
abbrev zm_Query_takes : z_Y := (⟨"TrackHouse$Query", "takes", "(C)Z"⟩, prog_7_method_5_code, 3, some .boolean, zf_Query)
theorem zk_Query_takes : z_mk zm_Query_takes 1 := ⟨z_wi 1016 (by decide +kernel) rfl, z_wi 84 (by decide +kernel) rfl, ⟨by decide +kernel, by decide +kernel⟩, by decide +kernel⟩
theorem zv_Query_takes : Cond.instanceMethod zm_Query_takes.1 ∈ z_WB ∧ Cond.selects zm_Query_takes.1.cls zm_Query_takes.1 zm_Query_takes.1 ∈ z_WB := ⟨z_wi 1015 (by decide +kernel) rfl, z_wi 54 (by decide +kernel) rfl⟩
abbrev zm_Query_opens : z_Y := (⟨"TrackHouse$Query", "opens", "(CI)Z"⟩, prog_7_method_11_code, 3, some .boolean, zf_Query)
theorem zk_Query_opens : z_mk zm_Query_opens 2 := ⟨z_wi 1020 (by decide +kernel) rfl, z_wi 84 (by decide +kernel) rfl, ⟨by decide +kernel, by decide +kernel⟩, by decide +kernel⟩
theorem zv_Query_opens : Cond.instanceMethod zm_Query_opens.1 ∈ z_WB ∧ Cond.selects zm_Query_opens.1.cls zm_Query_opens.1 zm_Query_opens.1 ∈ z_WB := ⟨z_wi 1019 (by decide +kernel) rfl, z_wi 55 (by decide +kernel) rfl⟩
abbrev zm_Query_digit : z_Y := (⟨"TrackHouse$Query", "digit", "(I)I"⟩, prog_7_method_6_code, 4, some .int, zf_Query)
theorem zk_Query_digit : z_mk zm_Query_digit 1 := ⟨z_wi 1025 (by decide +kernel) rfl, z_wi 84 (by decide +kernel) rfl, ⟨by decide +kernel, by decide +kernel⟩, by decide +kernel⟩
theorem zv_Query_digit : Cond.instanceMethod zm_Query_digit.1 ∈ z_WB ∧ Cond.selects zm_Query_digit.1.cls zm_Query_digit.1 zm_Query_digit.1 ∈ z_WB := ⟨z_wi 1024 (by decide +kernel) rfl, z_wi 56 (by decide +kernel) rfl⟩
abbrev zm_Query_opensTyped : z_Y := (⟨"TrackHouse$Query", "opensTyped", "(CI)Z"⟩, prog_7_method_8_code, 3, some .boolean, zf_Query)
theorem zk_Query_opensTyped : z_mk zm_Query_opensTyped 2 := ⟨z_wi 1029 (by decide +kernel) rfl, z_wi 84 (by decide +kernel) rfl, ⟨by decide +kernel, by decide +kernel⟩, by decide +kernel⟩
theorem zv_Query_opensTyped : Cond.instanceMethod zm_Query_opensTyped.1 ∈ z_WB ∧ Cond.selects zm_Query_opensTyped.1.cls zm_Query_opensTyped.1 zm_Query_opensTyped.1 ∈ z_WB := ⟨z_wi 1028 (by decide +kernel) rfl, z_wi 57 (by decide +kernel) rfl⟩
abbrev zm_Query_ends : z_Y := (⟨"TrackHouse$Query", "ends", "(IIII)Z"⟩, prog_7_method_12_code, 6, some .boolean, zf_Query)
theorem zk_Query_ends : z_mk zm_Query_ends 4 := ⟨z_wi 1033 (by decide +kernel) rfl, z_wi 84 (by decide +kernel) rfl, ⟨by decide +kernel, by decide +kernel⟩, by decide +kernel⟩
theorem zv_Query_ends : Cond.instanceMethod zm_Query_ends.1 ∈ z_WB ∧ Cond.selects zm_Query_ends.1.cls zm_Query_ends.1 zm_Query_ends.1 ∈ z_WB := ⟨z_wi 1032 (by decide +kernel) rfl, z_wi 58 (by decide +kernel) rfl⟩
abbrev zm_Query_add : z_Y := (⟨"TrackHouse$Query", "add", "(IIII)V"⟩, prog_7_method_13_code, 5, none, zf_Query)
theorem zk_Query_add : z_mk zm_Query_add 4 := ⟨z_wi 1037 (by decide +kernel) rfl, z_wi 84 (by decide +kernel) rfl, ⟨by decide +kernel, by decide +kernel⟩, by decide +kernel⟩
theorem zv_Query_add : Cond.instanceMethod zm_Query_add.1 ∈ z_WB ∧ Cond.selects zm_Query_add.1.cls zm_Query_add.1 zm_Query_add.1 ∈ z_WB := ⟨z_wi 1036 (by decide +kernel) rfl, z_wi 59 (by decide +kernel) rfl⟩
abbrev zm_Query_endsWithTwo : z_Y := (⟨"TrackHouse$Query", "endsWithTwo", "(CI)Z"⟩, prog_7_method_9_code, 3, some .boolean, zf_Query)
theorem zk_Query_endsWithTwo : z_mk zm_Query_endsWithTwo 2 := ⟨z_wi 1042 (by decide +kernel) rfl, z_wi 84 (by decide +kernel) rfl, ⟨by decide +kernel, by decide +kernel⟩, by decide +kernel⟩
theorem zv_Query_endsWithTwo : Cond.instanceMethod zm_Query_endsWithTwo.1 ∈ z_WB ∧ Cond.selects zm_Query_endsWithTwo.1.cls zm_Query_endsWithTwo.1 zm_Query_endsWithTwo.1 ∈ z_WB := ⟨z_wi 1041 (by decide +kernel) rfl, z_wi 60 (by decide +kernel) rfl⟩
abbrev zm_Query_compares : z_Y := (⟨"TrackHouse$Query", "compares", "(I)Z"⟩, prog_7_method_10_code, 5, some .boolean, zf_Query)
theorem zk_Query_compares : z_mk zm_Query_compares 1 := ⟨z_wi 1046 (by decide +kernel) rfl, z_wi 84 (by decide +kernel) rfl, ⟨by decide +kernel, by decide +kernel⟩, by decide +kernel⟩
theorem zv_Query_compares : Cond.instanceMethod zm_Query_compares.1 ∈ z_WB ∧ Cond.selects zm_Query_compares.1.cls zm_Query_compares.1 zm_Query_compares.1 ∈ z_WB := ⟨z_wi 1045 (by decide +kernel) rfl, z_wi 61 (by decide +kernel) rfl⟩
abbrev zm_Query_goesOnWell : z_Y := (⟨"TrackHouse$Query", "goesOnWell", "()Z"⟩, prog_7_method_14_code, 3, some .boolean, zf_Query)
theorem zk_Query_goesOnWell : z_mk zm_Query_goesOnWell 0 := ⟨z_wi 1050 (by decide +kernel) rfl, z_wi 84 (by decide +kernel) rfl, ⟨by decide +kernel, by decide +kernel⟩, by decide +kernel⟩
theorem zv_Query_goesOnWell : Cond.instanceMethod zm_Query_goesOnWell.1 ∈ z_WB ∧ Cond.selects zm_Query_goesOnWell.1.cls zm_Query_goesOnWell.1 zm_Query_goesOnWell.1 ∈ z_WB := ⟨z_wi 1049 (by decide +kernel) rfl, z_wi 62 (by decide +kernel) rfl⟩
abbrev zm_Query_closes : z_Y := (⟨"TrackHouse$Query", "closes", "(I)Z"⟩, prog_7_method_15_code, 2, some .boolean, zf_Query)
theorem zk_Query_closes : z_mk zm_Query_closes 1 := ⟨z_wi 1054 (by decide +kernel) rfl, z_wi 84 (by decide +kernel) rfl, ⟨by decide +kernel, by decide +kernel⟩, by decide +kernel⟩
theorem zv_Query_closes : Cond.instanceMethod zm_Query_closes.1 ∈ z_WB ∧ Cond.selects zm_Query_closes.1.cls zm_Query_closes.1 zm_Query_closes.1 ∈ z_WB := ⟨z_wi 1053 (by decide +kernel) rfl, z_wi 63 (by decide +kernel) rfl⟩
abbrev zm_T_count : z_Y := (⟨"TrackHouse", "count", "(II)I"⟩, prog_1_method_29_code, 3, some .int, zf_T)
theorem zk_T_count : z_mk zm_T_count 2 := ⟨z_wi 1058 (by decide +kernel) rfl, z_wi 80 (by decide +kernel) rfl, ⟨by decide +kernel, by decide +kernel⟩, by decide +kernel⟩
theorem zv_T_count : Cond.instanceMethod zm_T_count.1 ∈ z_WB ∧ Cond.selects zm_T_count.1.cls zm_T_count.1 zm_T_count.1 ∈ z_WB := ⟨z_wi 1056 (by decide +kernel) rfl, z_wi 1057 (by decide +kernel) rfl⟩
abbrev zm_T_isDay : z_Y := (⟨"TrackHouse", "isDay", "(I)Z"⟩, prog_1_method_60_code, 2, some .boolean, zf_T)
theorem zk_T_isDay : z_mk zm_T_isDay 1 := ⟨z_wi 1062 (by decide +kernel) rfl, z_wi 80 (by decide +kernel) rfl, ⟨by decide +kernel, by decide +kernel⟩, by decide +kernel⟩
theorem zv_T_isDay : Cond.instanceMethod zm_T_isDay.1 ∈ z_WB ∧ Cond.selects zm_T_isDay.1.cls zm_T_isDay.1 zm_T_isDay.1 ∈ z_WB := ⟨z_wi 1061 (by decide +kernel) rfl, z_wi 64 (by decide +kernel) rfl⟩
abbrev zm_T_lookOn : z_Y := (⟨"TrackHouse", "lookOn", "(II)V"⟩, prog_1_method_80_code, 3, none, zf_T)
theorem zk_T_lookOn : z_mk zm_T_lookOn 2 := ⟨z_wi 1066 (by decide +kernel) rfl, z_wi 80 (by decide +kernel) rfl, ⟨by decide +kernel, by decide +kernel⟩, by decide +kernel⟩
theorem zv_T_lookOn : Cond.instanceMethod zm_T_lookOn.1 ∈ z_WB ∧ Cond.selects zm_T_lookOn.1.cls zm_T_lookOn.1 zm_T_lookOn.1 ∈ z_WB := ⟨z_wi 1065 (by decide +kernel) rfl, z_wi 65 (by decide +kernel) rfl⟩
abbrev zm_View_readIndexed : z_Y := (⟨"TrackHouse$View", "readIndexed", "(LTrackHouse$Log;III)V"⟩, prog_11_method_3_code, 8, none, zf_View)
theorem zk_View_readIndexed : z_mk zm_View_readIndexed 4 := ⟨z_wi 1070 (by decide +kernel) rfl, z_wi 85 (by decide +kernel) rfl, ⟨by decide +kernel, by decide +kernel⟩, by decide +kernel⟩
theorem zv_View_readIndexed : Cond.instanceMethod zm_View_readIndexed.1 ∈ z_WB ∧ Cond.selects zm_View_readIndexed.1.cls zm_View_readIndexed.1 zm_View_readIndexed.1 ∈ z_WB := ⟨z_wi 1069 (by decide +kernel) rfl, z_wi 66 (by decide +kernel) rfl⟩
abbrev zm_World_clear : z_Y := (⟨"TrackHouse$World", "clear", "()V"⟩, prog_12_method_2_code, 1, none, zf_World)
theorem zk_World_clear : z_mk zm_World_clear 0 := ⟨z_wi 1074 (by decide +kernel) rfl, z_wi 82 (by decide +kernel) rfl, ⟨by decide +kernel, by decide +kernel⟩, by decide +kernel⟩
theorem zv_World_clear : Cond.instanceMethod zm_World_clear.1 ∈ z_WB ∧ Cond.selects zm_World_clear.1.cls zm_World_clear.1 zm_World_clear.1 ∈ z_WB := ⟨z_wi 1073 (by decide +kernel) rfl, z_wi 67 (by decide +kernel) rfl⟩
abbrev zm_View_read : z_Y := (⟨"TrackHouse$View", "read", "(LTrackHouse$Log;I)V"⟩, prog_11_method_4_code, 6, none, zf_View)
theorem zk_View_read : z_mk zm_View_read 2 := ⟨z_wi 1081 (by decide +kernel) rfl, z_wi 85 (by decide +kernel) rfl, ⟨by decide +kernel, by decide +kernel⟩, by decide +kernel⟩
theorem zv_View_read : Cond.instanceMethod zm_View_read.1 ∈ z_WB ∧ Cond.selects zm_View_read.1.cls zm_View_read.1 zm_View_read.1 ∈ z_WB := ⟨z_wi 1080 (by decide +kernel) rfl, z_wi 68 (by decide +kernel) rfl⟩
abbrev zm_View_readUpTo : z_Y := (⟨"TrackHouse$View", "readUpTo", "(LTrackHouse$Log;I)V"⟩, prog_11_method_2_code, 4, none, zf_View)
theorem zk_View_readUpTo : z_mk zm_View_readUpTo 2 := ⟨z_wi 1089 (by decide +kernel) rfl, z_wi 85 (by decide +kernel) rfl, ⟨by decide +kernel, by decide +kernel⟩, by decide +kernel⟩
theorem zv_View_readUpTo : Cond.instanceMethod zm_View_readUpTo.1 ∈ z_WB ∧ Cond.selects zm_View_readUpTo.1.cls zm_View_readUpTo.1 zm_View_readUpTo.1 ∈ z_WB := ⟨z_wi 1088 (by decide +kernel) rfl, z_wi 69 (by decide +kernel) rfl⟩
abbrev zm_Finder_hits : z_Y := (⟨"TrackHouse$Finder", "hits", "()I"⟩, prog_3_method_2_code, 6, some .int, zf_Finder)
theorem zk_Finder_hits : z_mk zm_Finder_hits 0 := ⟨z_wi 1093 (by decide +kernel) rfl, z_wi 83 (by decide +kernel) rfl, ⟨by decide +kernel, by decide +kernel⟩, by decide +kernel⟩
theorem zv_Finder_hits : Cond.instanceMethod zm_Finder_hits.1 ∈ z_WB ∧ Cond.selects zm_Finder_hits.1.cls zm_Finder_hits.1 zm_Finder_hits.1 ∈ z_WB := ⟨z_wi 1092 (by decide +kernel) rfl, z_wi 70 (by decide +kernel) rfl⟩
abbrev zm_Finder_isOfOne : z_Y := (⟨"TrackHouse$Finder", "isOfOne", "(I)Z"⟩, prog_3_method_3_code, 1, some .boolean, zf_Finder)
theorem zk_Finder_isOfOne : z_mk zm_Finder_isOfOne 1 := ⟨z_wi 1098 (by decide +kernel) rfl, z_wi 83 (by decide +kernel) rfl, ⟨by decide +kernel, by decide +kernel⟩, by decide +kernel⟩
theorem zs_Finder_isOfOne : Cond.static zm_Finder_isOfOne.1 ∈ z_WB := z_wi 1097 (by decide +kernel) rfl
abbrev zm_Finder_related : z_Y := (⟨"TrackHouse$Finder", "related", "(III)I"⟩, prog_3_method_4_code, 7, some .int, zf_Finder)
theorem zk_Finder_related : z_mk zm_Finder_related 3 := ⟨z_wi 1102 (by decide +kernel) rfl, z_wi 83 (by decide +kernel) rfl, ⟨by decide +kernel, by decide +kernel⟩, by decide +kernel⟩
theorem zv_Finder_related : Cond.instanceMethod zm_Finder_related.1 ∈ z_WB ∧ Cond.selects zm_Finder_related.1.cls zm_Finder_related.1 zm_Finder_related.1 ∈ z_WB := ⟨z_wi 1101 (by decide +kernel) rfl, z_wi 71 (by decide +kernel) rfl⟩
abbrev zm_Finder_leaves : z_Y := (⟨"TrackHouse$Finder", "leaves", "(I)I"⟩, prog_3_method_5_code, 5, some .int, zf_Finder)
theorem zk_Finder_leaves : z_mk zm_Finder_leaves 1 := ⟨z_wi 1110 (by decide +kernel) rfl, z_wi 83 (by decide +kernel) rfl, ⟨by decide +kernel, by decide +kernel⟩, by decide +kernel⟩
theorem zv_Finder_leaves : Cond.instanceMethod zm_Finder_leaves.1 ∈ z_WB ∧ Cond.selects zm_Finder_leaves.1.cls zm_Finder_leaves.1 zm_Finder_leaves.1 ∈ z_WB := ⟨z_wi 1109 (by decide +kernel) rfl, z_wi 72 (by decide +kernel) rfl⟩
abbrev zm_Finder_compares : z_Y := (⟨"TrackHouse$Finder", "compares", "(II)Z"⟩, prog_3_method_6_code, 5, some .boolean, zf_Finder)
theorem zk_Finder_compares : z_mk zm_Finder_compares 2 := ⟨z_wi 1114 (by decide +kernel) rfl, z_wi 83 (by decide +kernel) rfl, ⟨by decide +kernel, by decide +kernel⟩, by decide +kernel⟩
theorem zv_Finder_compares : Cond.instanceMethod zm_Finder_compares.1 ∈ z_WB ∧ Cond.selects zm_Finder_compares.1.cls zm_Finder_compares.1 zm_Finder_compares.1 ∈ z_WB := ⟨z_wi 1113 (by decide +kernel) rfl, z_wi 73 (by decide +kernel) rfl⟩
abbrev zm_Sight_value : z_Y := (⟨"TrackHouse$Sight", "value", "(II)I"⟩, prog_10_method_8_code, 3, some .int, zf_Sight)
theorem zk_Sight_value : z_mk zm_Sight_value 2 := ⟨z_wi 1118 (by decide +kernel) rfl, z_wi 86 (by decide +kernel) rfl, ⟨by decide +kernel, by decide +kernel⟩, by decide +kernel⟩
theorem zv_Sight_value : Cond.instanceMethod zm_Sight_value.1 ∈ z_WB ∧ Cond.selects zm_Sight_value.1.cls zm_Sight_value.1 zm_Sight_value.1 ∈ z_WB := ⟨z_wi 1117 (by decide +kernel) rfl, z_wi 74 (by decide +kernel) rfl⟩
abbrev zm_Sight_computed : z_Y := (⟨"TrackHouse$Sight", "computed", "(I)I"⟩, prog_10_method_9_code, 10, some .int, zf_Sight)
theorem zk_Sight_computed : z_mk zm_Sight_computed 1 := ⟨z_wi 1123 (by decide +kernel) rfl, z_wi 86 (by decide +kernel) rfl, ⟨by decide +kernel, by decide +kernel⟩, by decide +kernel⟩
theorem zv_Sight_computed : Cond.instanceMethod zm_Sight_computed.1 ∈ z_WB ∧ Cond.selects zm_Sight_computed.1.cls zm_Sight_computed.1 zm_Sight_computed.1 ∈ z_WB := ⟨z_wi 1122 (by decide +kernel) rfl, z_wi 75 (by decide +kernel) rfl⟩
abbrev zm_Finder_holds : z_Y := (⟨"TrackHouse$Finder", "holds", "(II)Z"⟩, prog_3_method_7_code, 5, some .boolean, zf_Finder)
theorem zk_Finder_holds : z_mk zm_Finder_holds 2 := ⟨z_wi 1128 (by decide +kernel) rfl, z_wi 83 (by decide +kernel) rfl, ⟨by decide +kernel, by decide +kernel⟩, by decide +kernel⟩
theorem zv_Finder_holds : Cond.instanceMethod zm_Finder_holds.1 ∈ z_WB ∧ Cond.selects zm_Finder_holds.1.cls zm_Finder_holds.1 zm_Finder_holds.1 ∈ z_WB := ⟨z_wi 1127 (by decide +kernel) rfl, z_wi 76 (by decide +kernel) rfl⟩
abbrev zm_View_cameFrom : z_Y := (⟨"TrackHouse$View", "cameFrom", "(III)Z"⟩, prog_11_method_5_code, 4, some .boolean, zf_View)
theorem zk_View_cameFrom : z_mk zm_View_cameFrom 3 := ⟨z_wi 1132 (by decide +kernel) rfl, z_wi 85 (by decide +kernel) rfl, ⟨by decide +kernel, by decide +kernel⟩, by decide +kernel⟩
theorem zv_View_cameFrom : Cond.instanceMethod zm_View_cameFrom.1 ∈ z_WB ∧ Cond.selects zm_View_cameFrom.1.cls zm_View_cameFrom.1 zm_View_cameFrom.1 ∈ z_WB := ⟨z_wi 1131 (by decide +kernel) rfl, z_wi 77 (by decide +kernel) rfl⟩
abbrev zm_T_found : z_Y := (⟨"TrackHouse", "found", "(III)I"⟩, prog_1_method_30_code, 7, some .int, zf_T)
theorem zk_T_found : z_mk zm_T_found 3 := ⟨z_wi 1139 (by decide +kernel) rfl, z_wi 80 (by decide +kernel) rfl, ⟨by decide +kernel, by decide +kernel⟩, by decide +kernel⟩
theorem zv_T_found : Cond.instanceMethod zm_T_found.1 ∈ z_WB ∧ Cond.selects zm_T_found.1.cls zm_T_found.1 zm_T_found.1 ∈ z_WB := ⟨z_wi 1137 (by decide +kernel) rfl, z_wi 1138 (by decide +kernel) rfl⟩
abbrev zm_T_sum : z_Y := (⟨"TrackHouse", "sum", "(III)I"⟩, prog_1_method_31_code, 4, some .int, zf_T)
theorem zk_T_sum : z_mk zm_T_sum 3 := ⟨z_wi 1143 (by decide +kernel) rfl, z_wi 80 (by decide +kernel) rfl, ⟨by decide +kernel, by decide +kernel⟩, by decide +kernel⟩
theorem zv_T_sum : Cond.instanceMethod zm_T_sum.1 ∈ z_WB ∧ Cond.selects zm_T_sum.1.cls zm_T_sum.1 zm_T_sum.1 ∈ z_WB := ⟨z_wi 1141 (by decide +kernel) rfl, z_wi 1142 (by decide +kernel) rfl⟩
abbrev zm_Sight_total : z_Y := (⟨"TrackHouse$Sight", "total", "(II)I"⟩, prog_10_method_10_code, 6, some .int, zf_Sight)
theorem zk_Sight_total : z_mk zm_Sight_total 2 := ⟨z_wi 1147 (by decide +kernel) rfl, z_wi 86 (by decide +kernel) rfl, ⟨by decide +kernel, by decide +kernel⟩, by decide +kernel⟩
theorem zv_Sight_total : Cond.instanceMethod zm_Sight_total.1 ∈ z_WB ∧ Cond.selects zm_Sight_total.1.cls zm_Sight_total.1 zm_Sight_total.1 ∈ z_WB := ⟨z_wi 1146 (by decide +kernel) rfl, z_wi 78 (by decide +kernel) rfl⟩
abbrev zm_L_cell : z_Y := (⟨"TrackHouseLaw", "cell", "([II)I"⟩, method_2_code, 2, some .int, [])
theorem zk_L_cell : z_mk zm_L_cell 2 := ⟨z_wi 1151 (by decide +kernel) rfl, z_wi 79 (by decide +kernel) rfl, ⟨by decide +kernel, by decide +kernel⟩, by decide +kernel⟩
theorem zs_L_cell : Cond.static zm_L_cell.1 ∈ z_WB := z_wi 1150 (by decide +kernel) rfl
abbrev zm_L_low : z_Y := (⟨"TrackHouseLaw", "low", "(II)I"⟩, method_3_code, 2, some .int, [])
theorem zk_L_low : z_mk zm_L_low 2 := ⟨z_wi 1156 (by decide +kernel) rfl, z_wi 79 (by decide +kernel) rfl, ⟨by decide +kernel, by decide +kernel⟩, by decide +kernel⟩
theorem zs_L_low : Cond.static zm_L_low.1 ∈ z_WB := z_wi 1155 (by decide +kernel) rfl
abbrev zm_L_sees : z_Y := (⟨"TrackHouseLaw", "sees", "([I[I[III)Z"⟩, method_4_code, 7, some .boolean, [])
theorem zk_L_sees : z_mk zm_L_sees 5 := ⟨z_wi 1160 (by decide +kernel) rfl, z_wi 79 (by decide +kernel) rfl, ⟨by decide +kernel, by decide +kernel⟩, by decide +kernel⟩
theorem zs_L_sees : Cond.static zm_L_sees.1 ∈ z_WB := z_wi 1159 (by decide +kernel) rfl
abbrev zm_L_edits : z_Y := (⟨"TrackHouseLaw", "edits", "([I[I[III)Z"⟩, method_5_code, 5, some .boolean, [])
theorem zk_L_edits : z_mk zm_L_edits 5 := ⟨z_wi 1163 (by decide +kernel) rfl, z_wi 79 (by decide +kernel) rfl, ⟨by decide +kernel, by decide +kernel⟩, by decide +kernel⟩
theorem zs_L_edits : Cond.static zm_L_edits.1 ∈ z_WB := z_wi 1162 (by decide +kernel) rfl
abbrev zm_L_reads : z_Y := (⟨"TrackHouseLaw", "reads", "([I[I[IIII)Z"⟩, method_6_code, 6, some .boolean, [])
theorem zk_L_reads : z_mk zm_L_reads 6 := ⟨z_wi 1166 (by decide +kernel) rfl, z_wi 79 (by decide +kernel) rfl, ⟨by decide +kernel, by decide +kernel⟩, by decide +kernel⟩
theorem zs_L_reads : Cond.static zm_L_reads.1 ∈ z_WB := z_wi 1165 (by decide +kernel) rfl
abbrev zm_L_value : z_Y := (⟨"TrackHouseLaw", "value", "([I[I[I[I[IIII)I"⟩, method_7_code, 10, some .int, [])
theorem zk_L_value : z_mk zm_L_value 8 := ⟨z_wi 1169 (by decide +kernel) rfl, z_wi 79 (by decide +kernel) rfl, ⟨by decide +kernel, by decide +kernel⟩, by decide +kernel⟩
theorem zs_L_value : Cond.static zm_L_value.1 ∈ z_WB := z_wi 1168 (by decide +kernel) rfl
abbrev zm_L_holds : z_Y := (⟨"TrackHouseLaw", "holds", "([I[I[I[I[IIIIII)Z"⟩, method_8_code, 11, some .boolean, [])
theorem zk_L_holds : z_mk zm_L_holds 10 := ⟨z_wi 1172 (by decide +kernel) rfl, z_wi 79 (by decide +kernel) rfl, ⟨by decide +kernel, by decide +kernel⟩, by decide +kernel⟩
theorem zs_L_holds : Cond.static zm_L_holds.1 ∈ z_WB := z_wi 1171 (by decide +kernel) rfl
abbrev zm_L_types : z_Y := (⟨"TrackHouseLaw", "types", "(LTrackHouse;III)V"⟩, method_9_code, 4, none, [])
theorem zk_L_types : z_mk zm_L_types 4 := ⟨z_wi 1175 (by decide +kernel) rfl, z_wi 79 (by decide +kernel) rfl, ⟨by decide +kernel, by decide +kernel⟩, by decide +kernel⟩
theorem zs_L_types : Cond.static zm_L_types.1 ∈ z_WB := z_wi 1174 (by decide +kernel) rfl
abbrev zm_T_field : z_Y := (⟨"TrackHouse", "field", "(III)I"⟩, prog_1_method_34_code, 4, some .int, zf_T)
theorem zk_T_field : z_mk zm_T_field 3 := ⟨z_wi 1185 (by decide +kernel) rfl, z_wi 80 (by decide +kernel) rfl, ⟨by decide +kernel, by decide +kernel⟩, by decide +kernel⟩
theorem zv_T_field : Cond.instanceMethod zm_T_field.1 ∈ z_WB ∧ Cond.selects zm_T_field.1.cls zm_T_field.1 zm_T_field.1 ∈ z_WB := ⟨z_wi 1183 (by decide +kernel) rfl, z_wi 1184 (by decide +kernel) rfl⟩
abbrev zm_L_changes : z_Y := (⟨"TrackHouseLaw", "changes", "([III[I)V"⟩, method_11_code, 4, none, [])
theorem zk_L_changes : z_mk zm_L_changes 4 := ⟨z_wi 1189 (by decide +kernel) rfl, z_wi 79 (by decide +kernel) rfl, ⟨by decide +kernel, by decide +kernel⟩, by decide +kernel⟩
theorem zs_L_changes : Cond.static zm_L_changes.1 ∈ z_WB := z_wi 1188 (by decide +kernel) rfl
abbrev zm_L_same : z_Y := (⟨"TrackHouseLaw", "same", "(LTrackHouse;[I[I[I[I[I[II)Z"⟩, method_12_code, 12, some .boolean, [])
theorem zk_L_same : z_mk zm_L_same 8 := ⟨z_wi 1192 (by decide +kernel) rfl, z_wi 79 (by decide +kernel) rfl, ⟨by decide +kernel, by decide +kernel⟩, by decide +kernel⟩
theorem zs_L_same : Cond.static zm_L_same.1 ∈ z_WB := z_wi 1191 (by decide +kernel) rfl
abbrev zm_T_stateOn : z_Y := (⟨"TrackHouse", "stateOn", "(II)I"⟩, prog_1_method_32_code, 5, some .int, zf_T)
theorem zk_T_stateOn : z_mk zm_T_stateOn 2 := ⟨z_wi 1196 (by decide +kernel) rfl, z_wi 80 (by decide +kernel) rfl, ⟨by decide +kernel, by decide +kernel⟩, by decide +kernel⟩
theorem zv_T_stateOn : Cond.instanceMethod zm_T_stateOn.1 ∈ z_WB ∧ Cond.selects zm_T_stateOn.1.cls zm_T_stateOn.1 zm_T_stateOn.1 ∈ z_WB := ⟨z_wi 1194 (by decide +kernel) rfl, z_wi 1195 (by decide +kernel) rfl⟩
abbrev zm_T_stateOnAnew : z_Y := (⟨"TrackHouse", "stateOnAnew", "(II)I"⟩, prog_1_method_33_code, 5, some .int, zf_T)
theorem zk_T_stateOnAnew : z_mk zm_T_stateOnAnew 2 := ⟨z_wi 1200 (by decide +kernel) rfl, z_wi 80 (by decide +kernel) rfl, ⟨by decide +kernel, by decide +kernel⟩, by decide +kernel⟩
theorem zv_T_stateOnAnew : Cond.instanceMethod zm_T_stateOnAnew.1 ∈ z_WB ∧ Cond.selects zm_T_stateOnAnew.1.cls zm_T_stateOnAnew.1 zm_T_stateOnAnew.1 ∈ z_WB := ⟨z_wi 1198 (by decide +kernel) rfl, z_wi 1199 (by decide +kernel) rfl⟩
abbrev zm_T_entries : z_Y := (⟨"TrackHouse", "entries", "()I"⟩, prog_1_method_8_code, 1, some .int, zf_T)
theorem zk_T_entries : z_mk zm_T_entries 0 := ⟨z_wi 1204 (by decide +kernel) rfl, z_wi 80 (by decide +kernel) rfl, ⟨by decide +kernel, by decide +kernel⟩, by decide +kernel⟩
theorem zv_T_entries : Cond.instanceMethod zm_T_entries.1 ∈ z_WB ∧ Cond.selects zm_T_entries.1.cls zm_T_entries.1 zm_T_entries.1 ∈ z_WB := ⟨z_wi 1202 (by decide +kernel) rfl, z_wi 1203 (by decide +kernel) rfl⟩
end
section
theorem zl_T_11 : z_lk "TrackHouse" 11 zm_Log_init 0 := z_lk_n zk_Log_init "TrackHouse" 112 (by decide +kernel)
theorem zl_T_18 : z_lk "TrackHouse" 18 zm_World_init 0 := z_lk_n zk_World_init "TrackHouse" 161 (by decide +kernel)
theorem zl_T_28 : z_lk "TrackHouse" 28 zm_Finder_init 0 := z_lk_n zk_Finder_init "TrackHouse" 181 (by decide +kernel)
theorem zl_T_57 : z_lk "TrackHouse" 57 zm_Flows_init 0 := z_lk_n zk_Flows_init "TrackHouse" 365 (by decide +kernel)
theorem zl_T_64 : z_lk "TrackHouse" 64 zm_Rules_init 0 := z_lk_n zk_Rules_init "TrackHouse" 391 (by decide +kernel)
theorem zl_T_71 : z_lk "TrackHouse" 71 zm_Ranks_init 0 := z_lk_n zk_Ranks_init "TrackHouse" 432 (by decide +kernel)
theorem zl_T_78 : z_lk "TrackHouse" 78 zm_Bulks_init 0 := z_lk_n zk_Bulks_init "TrackHouse" 448 (by decide +kernel)
theorem zl_T_97 : z_lk "TrackHouse" 97 zm_T_isPerson 1 := z_lk_m zk_T_isPerson 521 (by decide +kernel)
theorem zl_T_101 : z_lk "TrackHouse" 101 zm_T_isProject 1 := z_lk_m zk_T_isProject 524 (by decide +kernel)
theorem zl_T_104 : z_lk "TrackHouse" 104 zm_T_mustExist 1 := z_lk_m zk_T_mustExist 527 (by decide +kernel)
theorem zl_T_108 : z_lk "TrackHouse" 108 zm_T_isRoles 1 := z_lk_m zk_T_isRoles 598 (by decide +kernel)
theorem zl_T_111 : z_lk "TrackHouse" 111 zm_T_mustFit 1 := z_lk_m zk_T_mustFit 601 (by decide +kernel)
theorem zl_T_114 : z_lk "TrackHouse" 114 zm_World_rolesOf 2 := z_lk_n zk_World_rolesOf "TrackHouse" 620 (by decide +kernel)
theorem zl_T_121 : z_lk "TrackHouse" 121 zm_T_change 5 := z_lk_m zk_T_change 627 (by decide +kernel)
theorem zl_T_125 : z_lk "TrackHouse" 125 zm_T_isWithinLimit 1 := z_lk_m zk_T_isWithinLimit 661 (by decide +kernel)
theorem zl_T_128 : z_lk "TrackHouse" 128 zm_T_mustBeAllowed 1 := z_lk_m zk_T_mustBeAllowed 680 (by decide +kernel)
theorem zl_T_134 : z_lk "TrackHouse" 134 zm_T_at 2 := z_lk_m zk_T_at 703 (by decide +kernel)
theorem zl_T_141 : z_lk "TrackHouse" 141 zm_T_put 3 := z_lk_m zk_T_put 704 (by decide +kernel)
theorem zl_T_148 : z_lk "TrackHouse" 148 zm_T_isAnyField 1 := z_lk_m zk_T_isAnyField 713 (by decide +kernel)
theorem zl_T_154 : z_lk "TrackHouse" 154 zm_T_isKind 1 := z_lk_m zk_T_isKind 728 (by decide +kernel)
theorem zl_T_157 : z_lk "TrackHouse" 157 zm_T_isField 1 := z_lk_m zk_T_isField 731 (by decide +kernel)
theorem zl_T_174 : z_lk "TrackHouse" 174 zm_Flows_begin 1 := z_lk_n zk_Flows_begin "TrackHouse" 738 (by decide +kernel)
theorem zl_T_181 : z_lk "TrackHouse" 181 zm_Flows_has 2 := z_lk_n zk_Flows_has "TrackHouse" 748 (by decide +kernel)
theorem zl_T_185 : z_lk "TrackHouse" 185 zm_Flows_add 1 := z_lk_n zk_Flows_add "TrackHouse" 753 (by decide +kernel)
theorem zl_T_188 : z_lk "TrackHouse" 188 zm_T_isState 1 := z_lk_m zk_T_isState 762 (by decide +kernel)
theorem zl_T_194 : z_lk "TrackHouse" 194 zm_T_isNumber 1 := z_lk_m zk_T_isNumber 765 (by decide +kernel)
theorem zl_T_200 : z_lk "TrackHouse" 200 zm_Flows_setEnds 3 := z_lk_n zk_Flows_setEnds "TrackHouse" 768 (by decide +kernel)
theorem zl_T_204 : z_lk "TrackHouse" 204 zm_Flows_setTerms 5 := z_lk_n zk_Flows_setTerms "TrackHouse" 776 (by decide +kernel)
theorem zl_T_207 : z_lk "TrackHouse" 207 zm_World_cell 2 := z_lk_n zk_World_cell "TrackHouse" 784 (by decide +kernel)
theorem zl_T_210 : z_lk "TrackHouse" 210 zm_World_has 1 := z_lk_n zk_World_has "TrackHouse" 785 (by decide +kernel)
theorem zl_T_212 : z_lk "TrackHouse" 212 zm_Flows_mappedFrom 1 := z_lk_n zk_Flows_mappedFrom "TrackHouse" 789 (by decide +kernel)
theorem zl_T_216 : z_lk "TrackHouse" 216 zm_Flows_exchange 1 := z_lk_n zk_Flows_exchange "TrackHouse" 794 (by decide +kernel)
theorem zl_T_219 : z_lk "TrackHouse" 219 zm_T_isSettled 2 := z_lk_m zk_T_isSettled 801 (by decide +kernel)
theorem zl_T_222 : z_lk "TrackHouse" 222 zm_World_size 0 := z_lk_n zk_World_size "TrackHouse" 864 (by decide +kernel)
theorem zl_T_225 : z_lk "TrackHouse" 225 zm_T_canEditIn 2 := z_lk_m zk_T_canEditIn 874 (by decide +kernel)
theorem zl_T_228 : z_lk "TrackHouse" 228 zm_Log_add 7 := z_lk_n zk_Log_add "TrackHouse" 646 (by decide +kernel)
theorem zl_T_231 : z_lk "TrackHouse" 231 zm_World_redo 2 := z_lk_n zk_World_redo "TrackHouse" 878 (by decide +kernel)
theorem zl_T_235 : z_lk "TrackHouse" 235 zm_Ranks_append 1 := z_lk_n zk_Ranks_append "TrackHouse" 886 (by decide +kernel)
theorem zl_T_238 : z_lk "TrackHouse" 238 zm_T_isSeen 2 := z_lk_m zk_T_isSeen 899 (by decide +kernel)
theorem zl_T_241 : z_lk "TrackHouse" 241 zm_T_isValue 1 := z_lk_m zk_T_isValue 927 (by decide +kernel)
theorem zl_T_244 : z_lk "TrackHouse" 244 zm_T_canWrite 2 := z_lk_m zk_T_canWrite 930 (by decide +kernel)
theorem zl_T_247 : z_lk "TrackHouse" 247 zm_T_setCell 4 := z_lk_m zk_T_setCell 946 (by decide +kernel)
theorem zl_T_251 : z_lk "TrackHouse" 251 zm_Sight_canEdit 1 := z_lk_n zk_Sight_canEdit "TrackHouse" 934 (by decide +kernel)
theorem zl_T_254 : z_lk "TrackHouse" 254 zm_T_stepTo 3 := z_lk_m zk_T_stepTo 954 (by decide +kernel)
theorem zl_T_258 : z_lk "TrackHouse" 258 zm_Flows_part 3 := z_lk_n zk_Flows_part "TrackHouse" 958 (by decide +kernel)
theorem zl_T_261 : z_lk "TrackHouse" 261 zm_Sight_sees 1 := z_lk_n zk_Sight_sees "TrackHouse" 922 (by decide +kernel)
theorem zl_T_264 : z_lk "TrackHouse" 264 zm_T_isAtOrAbove 2 := z_lk_m zk_T_isAtOrAbove 966 (by decide +kernel)
theorem zl_T_270 : z_lk "TrackHouse" 270 zm_World_current 3 := z_lk_n zk_World_current "TrackHouse" 631 (by decide +kernel)
theorem zl_T_273 : z_lk "TrackHouse" 273 zm_T_isSprint 1 := z_lk_m zk_T_isSprint 982 (by decide +kernel)
theorem zl_T_287 : z_lk "TrackHouse" 287 zm_Query_append 1 := z_lk_n zk_Query_append "TrackHouse" 989 (by decide +kernel)
theorem zl_T_290 : z_lk "TrackHouse" 290 zm_Query_compile 0 := z_lk_n zk_Query_compile "TrackHouse" 1001 (by decide +kernel)
theorem zl_T_293 : z_lk "TrackHouse" 293 zm_T_isDay 1 := z_lk_m zk_T_isDay 1059 (by decide +kernel)
theorem zl_T_296 : z_lk "TrackHouse" 296 zm_T_lookOn 2 := z_lk_m zk_T_lookOn 1063 (by decide +kernel)
theorem zl_T_299 : z_lk "TrackHouse" 299 zm_Finder_hits 0 := z_lk_n zk_Finder_hits "TrackHouse" 1090 (by decide +kernel)
theorem zl_T_302 : z_lk "TrackHouse" 302 zm_Integer_bitCount 1 := z_lk_m zk_Integer_bitCount 1135 (by decide +kernel)
theorem zl_T_307 : z_lk "TrackHouse" 307 zm_T_isIn 2 := z_lk_m zk_T_isIn 841 (by decide +kernel)
theorem zl_T_310 : z_lk "TrackHouse" 310 zm_Sight_total 2 := z_lk_n zk_Sight_total "TrackHouse" 1144 (by decide +kernel)
theorem zl_T_328 : z_lk "TrackHouse" 328 zm_Sight_value 2 := z_lk_n zk_Sight_value "TrackHouse" 1186 (by decide +kernel)
theorem zl_T_331 : z_lk "TrackHouse" 331 zm_Sight_look 2 := z_lk_n zk_Sight_look "TrackHouse" 903 (by decide +kernel)
theorem zl_T_341 : z_lk "TrackHouse" 341 zm_View_readUpTo 2 := z_lk_n zk_View_readUpTo "TrackHouse" 1086 (by decide +kernel)
theorem zl_T_352 : z_lk "TrackHouse" 352 zm_T_bit 1 := z_lk_m zk_T_bit 834 (by decide +kernel)
theorem zl_T_393 : z_lk "TrackHouse" 393 zm_Kinds_has 2 := z_lk_n zk_Kinds_has "TrackHouse" 826 (by decide +kernel)
theorem zl_T_417 : z_lk "TrackHouse" 417 zm_Sight_canRead 2 := z_lk_n zk_Sight_canRead "TrackHouse" 938 (by decide +kernel)
theorem zl_T_420 : z_lk "TrackHouse" 420 zm_T_isMet 3 := z_lk_m zk_T_isMet 822 (by decide +kernel)
theorem zl_T_424 : z_lk "TrackHouse" 424 zm_World_linksOf 2 := z_lk_n zk_World_linksOf "TrackHouse" 840 (by decide +kernel)
theorem zl_T_427 : z_lk "TrackHouse" 427 zm_World_write 4 := z_lk_n zk_World_write "TrackHouse" 650 (by decide +kernel)
theorem zl_T_430 : z_lk "TrackHouse" 430 zm_World_undo 2 := z_lk_n zk_World_undo "TrackHouse" 669 (by decide +kernel)
theorem zl_T_438 : z_lk "TrackHouse" 438 zm_T_takeBack 1 := z_lk_m zk_T_takeBack 665 (by decide +kernel)
theorem zl_T_441 : z_lk "TrackHouse" 441 zm_T_goesThrough 3 := z_lk_m zk_T_goesThrough 805 (by decide +kernel)
theorem zl_T_445 : z_lk "TrackHouse" 445 zm_World_copyFrom 1 := z_lk_n zk_World_copyFrom "TrackHouse" 846 (by decide +kernel)
theorem zl_T_449 : z_lk "TrackHouse" 449 zm_World_isLike 1 := z_lk_n zk_World_isLike "TrackHouse" 853 (by decide +kernel)
theorem zl_T_453 : z_lk "TrackHouse" 453 zm_T_wake 4 := z_lk_m zk_T_wake 809 (by decide +kernel)
theorem zl_T_457 : z_lk "TrackHouse" 457 zm_T_isWoken 2 := z_lk_m zk_T_isWoken 813 (by decide +kernel)
theorem zl_T_463 : z_lk "TrackHouse" 463 zm_T_targetsOf 2 := z_lk_m zk_T_targetsOf 830 (by decide +kernel)
theorem zl_T_466 : z_lk "TrackHouse" 466 zm_T_canTake 2 := z_lk_m zk_T_canTake 842 (by decide +kernel)
theorem zl_T_477 : z_lk "TrackHouse" 477 zm_Rules_isCause 3 := z_lk_n zk_Rules_isCause "TrackHouse" 817 (by decide +kernel)
theorem zl_T_484 : z_lk "TrackHouse" 484 zm_World_childrenOf 1 := z_lk_n zk_World_childrenOf "TrackHouse" 835 (by decide +kernel)
theorem zl_T_487 : z_lk "TrackHouse" 487 zm_View_readIndexed 4 := z_lk_n zk_View_readIndexed "TrackHouse" 1067 (by decide +kernel)
theorem zl_Finder_17 : z_lk "TrackHouse$Finder" 17 zm_Query_init 0 := z_lk_n zk_Query_init "TrackHouse" 187 (by decide +kernel)
theorem zl_Finder_24 : z_lk "TrackHouse$Finder" 24 zm_View_init 0 := z_lk_n zk_View_init "TrackHouse" 237 (by decide +kernel)
theorem zl_Finder_31 : z_lk "TrackHouse$Finder" 31 zm_Sight_init 0 := z_lk_n zk_Sight_init "TrackHouse" 270 (by decide +kernel)
theorem zl_Finder_43 : z_lk "TrackHouse$Finder" 43 zm_T_at 2 := z_lk_n zk_T_at "TrackHouse" 1094 (by decide +kernel)
theorem zl_Finder_47 : z_lk "TrackHouse$Finder" 47 zm_T_put 3 := z_lk_n zk_T_put "TrackHouse" 1095 (by decide +kernel)
theorem zl_Finder_51 : z_lk "TrackHouse$Finder" 51 zm_Finder_isOfOne 1 := z_lk_m zk_Finder_isOfOne 1096 (by decide +kernel)
theorem zl_Finder_58 : z_lk "TrackHouse$Finder" 58 zm_Finder_related 3 := z_lk_m zk_Finder_related 1099 (by decide +kernel)
theorem zl_Finder_62 : z_lk "TrackHouse$Finder" 62 zm_Finder_leaves 1 := z_lk_m zk_Finder_leaves 1107 (by decide +kernel)
theorem zl_Finder_78 : z_lk "TrackHouse$Finder" 78 zm_T_isIn 2 := z_lk_n zk_T_isIn "TrackHouse" 1103 (by decide +kernel)
theorem zl_Finder_82 : z_lk "TrackHouse$Finder" 82 zm_World_cell 2 := z_lk_n zk_World_cell "TrackHouse" 1104 (by decide +kernel)
theorem zl_Finder_86 : z_lk "TrackHouse$Finder" 86 zm_T_bit 1 := z_lk_n zk_T_bit "TrackHouse" 1105 (by decide +kernel)
theorem zl_Finder_89 : z_lk "TrackHouse$Finder" 89 zm_World_linksOf 2 := z_lk_n zk_World_linksOf "TrackHouse" 1106 (by decide +kernel)
theorem zl_Finder_92 : z_lk "TrackHouse$Finder" 92 zm_Finder_compares 2 := z_lk_m zk_Finder_compares 1111 (by decide +kernel)
theorem zl_Finder_95 : z_lk "TrackHouse$Finder" 95 zm_Finder_holds 2 := z_lk_m zk_Finder_holds 1125 (by decide +kernel)
theorem zl_Finder_98 : z_lk "TrackHouse$Finder" 98 zm_Sight_value 2 := z_lk_n zk_Sight_value "TrackHouse" 1115 (by decide +kernel)
theorem zl_Finder_110 : z_lk "TrackHouse$Finder" 110 zm_View_cameFrom 3 := z_lk_n zk_View_cameFrom "TrackHouse" 1129 (by decide +kernel)
theorem zl_Flows_28 : z_lk "TrackHouse$Flows" 28 zm_Arrays_fill 2 := z_lk_m zk_Arrays_fill 369 (by decide +kernel)
theorem zl_Flows_34 : z_lk "TrackHouse$Flows" 34 zm_T_at 2 := z_lk_n zk_T_at "TrackHouse" 742 (by decide +kernel)
theorem zl_Flows_38 : z_lk "TrackHouse$Flows" 38 zm_T_isIn 2 := z_lk_n zk_T_isIn "TrackHouse" 752 (by decide +kernel)
theorem zl_Flows_42 : z_lk "TrackHouse$Flows" 42 zm_T_put 3 := z_lk_n zk_T_put "TrackHouse" 743 (by decide +kernel)
theorem zl_Flows_46 : z_lk "TrackHouse$Flows" 46 zm_Flows_setPart 3 := z_lk_m zk_Flows_setPart 772 (by decide +kernel)
theorem zl_Flows_50 : z_lk "TrackHouse$Flows" 50 zm_T_bit 1 := z_lk_n zk_T_bit "TrackHouse" 757 (by decide +kernel)
theorem zl_Flows_58 : z_lk "TrackHouse$Flows" 58 zm_Flows_has 2 := z_lk_m zk_Flows_has 793 (by decide +kernel)
theorem zl_Flows_61 : z_lk "TrackHouse$Flows" 61 zm_Flows_swap 3 := z_lk_m zk_Flows_swap 798 (by decide +kernel)
theorem zl_Kinds_30 : z_lk "TrackHouse$Kinds" 30 zm_Arrays_fill 2 := z_lk_m zk_Arrays_fill 280 (by decide +kernel)
theorem zl_Query_51 : z_lk "TrackHouse$Query" 51 zm_Query_beginsWell 0 := z_lk_m zk_Query_beginsWell 1005 (by decide +kernel)
theorem zl_Query_55 : z_lk "TrackHouse$Query" 55 zm_Query_goesOnWell 0 := z_lk_m zk_Query_goesOnWell 1047 (by decide +kernel)
theorem zl_Query_58 : z_lk "TrackHouse$Query" 58 zm_Query_sign 0 := z_lk_m zk_Query_sign 1009 (by decide +kernel)
theorem zl_Query_62 : z_lk "TrackHouse$Query" 62 zm_Query_takes 1 := z_lk_m zk_Query_takes 1013 (by decide +kernel)
theorem zl_Query_66 : z_lk "TrackHouse$Query" 66 zm_Query_opens 2 := z_lk_m zk_Query_opens 1017 (by decide +kernel)
theorem zl_Query_70 : z_lk "TrackHouse$Query" 70 zm_Query_digit 1 := z_lk_m zk_Query_digit 1022 (by decide +kernel)
theorem zl_Query_74 : z_lk "TrackHouse$Query" 74 zm_Query_opensTyped 2 := z_lk_m zk_Query_opensTyped 1026 (by decide +kernel)
theorem zl_Query_77 : z_lk "TrackHouse$Query" 77 zm_Query_ends 4 := z_lk_m zk_Query_ends 1030 (by decide +kernel)
theorem zl_Query_81 : z_lk "TrackHouse$Query" 81 zm_Query_endsWithTwo 2 := z_lk_m zk_Query_endsWithTwo 1039 (by decide +kernel)
theorem zl_Query_84 : z_lk "TrackHouse$Query" 84 zm_Query_compares 1 := z_lk_m zk_Query_compares 1043 (by decide +kernel)
theorem zl_Query_88 : z_lk "TrackHouse$Query" 88 zm_T_put 3 := z_lk_n zk_T_put "TrackHouse" 1021 (by decide +kernel)
theorem zl_Query_92 : z_lk "TrackHouse$Query" 92 zm_Query_add 4 := z_lk_m zk_Query_add 1034 (by decide +kernel)
theorem zl_Query_96 : z_lk "TrackHouse$Query" 96 zm_T_at 2 := z_lk_n zk_T_at "TrackHouse" 1038 (by decide +kernel)
theorem zl_Query_100 : z_lk "TrackHouse$Query" 100 zm_Query_closes 1 := z_lk_m zk_Query_closes 1051 (by decide +kernel)
theorem zl_Ranks_22 : z_lk "TrackHouse$Ranks" 22 zm_T_at 2 := z_lk_n zk_T_at "TrackHouse" 890 (by decide +kernel)
theorem zl_Ranks_32 : z_lk "TrackHouse$Ranks" 32 zm_T_put 3 := z_lk_n zk_T_put "TrackHouse" 894 (by decide +kernel)
theorem zl_Rules_44 : z_lk "TrackHouse$Rules" 44 zm_T_at 2 := z_lk_n zk_T_at "TrackHouse" 821 (by decide +kernel)
theorem zl_Sight_32 : z_lk "TrackHouse$Sight" 32 zm_Kinds_init 0 := z_lk_n zk_Kinds_init "TrackHouse" 276 (by decide +kernel)
theorem zl_Sight_39 : z_lk "TrackHouse$Sight" 39 zm_World_init 0 := z_lk_n zk_World_init "TrackHouse" 308 (by decide +kernel)
theorem zl_Sight_51 : z_lk "TrackHouse$Sight" 51 zm_Arrays_fill 2 := z_lk_m zk_Arrays_fill 309 (by decide +kernel)
theorem zl_Sight_57 : z_lk "TrackHouse$Sight" 57 zm_World_has 1 := z_lk_n zk_World_has "TrackHouse" 907 (by decide +kernel)
theorem zl_Sight_61 : z_lk "TrackHouse$Sight" 61 zm_World_cell 2 := z_lk_n zk_World_cell "TrackHouse" 908 (by decide +kernel)
theorem zl_Sight_65 : z_lk "TrackHouse$Sight" 65 zm_World_rolesOf 2 := z_lk_n zk_World_rolesOf "TrackHouse" 909 (by decide +kernel)
theorem zl_Sight_68 : z_lk "TrackHouse$Sight" 68 zm_Sight_lookAt 2 := z_lk_m zk_Sight_lookAt 910 (by decide +kernel)
theorem zl_Sight_72 : z_lk "TrackHouse$Sight" 72 zm_T_at 2 := z_lk_n zk_T_at "TrackHouse" 914 (by decide +kernel)
theorem zl_Sight_76 : z_lk "TrackHouse$Sight" 76 zm_T_bit 1 := z_lk_n zk_T_bit "TrackHouse" 915 (by decide +kernel)
theorem zl_Sight_80 : z_lk "TrackHouse$Sight" 80 zm_T_put 3 := z_lk_n zk_T_put "TrackHouse" 916 (by decide +kernel)
theorem zl_Sight_84 : z_lk "TrackHouse$Sight" 84 zm_Sight_tell 2 := z_lk_m zk_Sight_tell 917 (by decide +kernel)
theorem zl_Sight_87 : z_lk "TrackHouse$Sight" 87 zm_Kinds_has 2 := z_lk_n zk_Kinds_has "TrackHouse" 921 (by decide +kernel)
theorem zl_Sight_90 : z_lk "TrackHouse$Sight" 90 zm_T_isIn 2 := z_lk_n zk_T_isIn "TrackHouse" 926 (by decide +kernel)
theorem zl_Sight_93 : z_lk "TrackHouse$Sight" 93 zm_Sight_canRead 2 := z_lk_m zk_Sight_canRead 1119 (by decide +kernel)
theorem zl_Sight_96 : z_lk "TrackHouse$Sight" 96 zm_Sight_computed 1 := z_lk_m zk_Sight_computed 1120 (by decide +kernel)
theorem zl_Sight_110 : z_lk "TrackHouse$Sight" 110 zm_Sight_value 2 := z_lk_m zk_Sight_value 1148 (by decide +kernel)
theorem zl_View_11 : z_lk "TrackHouse$View" 11 zm_World_init 0 := z_lk_n zk_World_init "TrackHouse" 242 (by decide +kernel)
theorem zl_View_35 : z_lk "TrackHouse$View" 35 zm_World_clear 0 := z_lk_n zk_World_clear "TrackHouse" 1071 (by decide +kernel)
theorem zl_View_46 : z_lk "TrackHouse$View" 46 zm_T_at 2 := z_lk_n zk_T_at "TrackHouse" 1076 (by decide +kernel)
theorem zl_View_50 : z_lk "TrackHouse$View" 50 zm_View_read 2 := z_lk_m zk_View_read 1078 (by decide +kernel)
theorem zl_View_60 : z_lk "TrackHouse$View" 60 zm_World_has 1 := z_lk_n zk_World_has "TrackHouse" 1077 (by decide +kernel)
theorem zl_View_67 : z_lk "TrackHouse$View" 67 zm_T_put 3 := z_lk_n zk_T_put "TrackHouse" 1082 (by decide +kernel)
theorem zl_View_71 : z_lk "TrackHouse$View" 71 zm_T_bit 1 := z_lk_n zk_T_bit "TrackHouse" 1083 (by decide +kernel)
theorem zl_View_75 : z_lk "TrackHouse$View" 75 zm_World_cell 2 := z_lk_n zk_World_cell "TrackHouse" 1084 (by decide +kernel)
theorem zl_View_82 : z_lk "TrackHouse$View" 82 zm_World_redo 2 := z_lk_n zk_World_redo "TrackHouse" 1085 (by decide +kernel)
theorem zl_View_85 : z_lk "TrackHouse$View" 85 zm_T_isState 1 := z_lk_n zk_T_isState "TrackHouse" 1133 (by decide +kernel)
theorem zl_View_88 : z_lk "TrackHouse$View" 88 zm_T_isIn 2 := z_lk_n zk_T_isIn "TrackHouse" 1134 (by decide +kernel)
theorem zl_World_25 : z_lk "TrackHouse$World" 25 zm_Arrays_fill 2 := z_lk_m zk_Arrays_fill 1075 (by decide +kernel)
theorem zl_World_31 : z_lk "TrackHouse$World" 31 zm_Integer_bitCount 1 := z_lk_m zk_Integer_bitCount 868 (by decide +kernel)
theorem zl_World_37 : z_lk "TrackHouse$World" 37 zm_T_at 2 := z_lk_n zk_T_at "TrackHouse" 624 (by decide +kernel)
theorem zl_World_41 : z_lk "TrackHouse$World" 41 zm_World_has 1 := z_lk_m zk_World_has 839 (by decide +kernel)
theorem zl_World_45 : z_lk "TrackHouse$World" 45 zm_World_cell 2 := z_lk_m zk_World_cell 642 (by decide +kernel)
theorem zl_World_49 : z_lk "TrackHouse$World" 49 zm_T_bit 1 := z_lk_n zk_T_bit "TrackHouse" 673 (by decide +kernel)
theorem zl_World_52 : z_lk "TrackHouse$World" 52 zm_World_linksOf 2 := z_lk_m zk_World_linksOf 635 (by decide +kernel)
theorem zl_World_55 : z_lk "TrackHouse$World" 55 zm_T_isIn 2 := z_lk_n zk_T_isIn "TrackHouse" 639 (by decide +kernel)
theorem zl_World_59 : z_lk "TrackHouse$World" 59 zm_T_put 3 := z_lk_n zk_T_put "TrackHouse" 654 (by decide +kernel)
theorem zl_World_63 : z_lk "TrackHouse$World" 63 zm_World_connect 4 := z_lk_m zk_World_connect 657 (by decide +kernel)
theorem zl_World_81 : z_lk "TrackHouse$World" 81 zm_World_begin 3 := z_lk_m zk_World_begin 882 (by decide +kernel)
theorem zl_World_85 : z_lk "TrackHouse$World" 85 zm_World_write 4 := z_lk_m zk_World_write 676 (by decide +kernel)
theorem zl_World_98 : z_lk "TrackHouse$World" 98 zm_World_isSame 2 := z_lk_m zk_World_isSame 857 (by decide +kernel)
theorem zl_L_10 : z_lk "TrackHouseLaw" 10 zm_L_sees 5 := z_lk_m zk_L_sees 1158 (by decide +kernel)
theorem zl_L_16 : z_lk "TrackHouseLaw" 16 zm_L_reads 6 := z_lk_m zk_L_reads 1164 (by decide +kernel)
theorem zl_L_20 : z_lk "TrackHouseLaw" 20 zm_L_value 8 := z_lk_m zk_L_value 1167 (by decide +kernel)
theorem zl_L_24 : z_lk "TrackHouseLaw" 24 zm_T_type 1 := z_lk_m zk_T_type 985 (by decide +kernel)
theorem zl_L_30 : z_lk "TrackHouseLaw" 30 zm_T_create 3 := z_lk_m zk_T_create 860 (by decide +kernel)
theorem zl_L_34 : z_lk "TrackHouseLaw" 34 zm_T_set 4 := z_lk_m zk_T_set 895 (by decide +kernel)
theorem zl_L_38 : z_lk "TrackHouseLaw" 38 zm_T_assign 3 := z_lk_m zk_T_assign 942 (by decide +kernel)
theorem zl_L_41 : z_lk "TrackHouseLaw" 41 zm_T_move 3 := z_lk_m zk_T_move 950 (by decide +kernel)
theorem zl_L_44 : z_lk "TrackHouseLaw" 44 zm_T_nest 3 := z_lk_m zk_T_nest 962 (by decide +kernel)
theorem zl_L_47 : z_lk "TrackHouseLaw" 47 zm_T_level 3 := z_lk_m zk_T_level 970 (by decide +kernel)
theorem zl_L_51 : z_lk "TrackHouseLaw" 51 zm_T_transfer 3 := z_lk_m zk_T_transfer 974 (by decide +kernel)
theorem zl_L_54 : z_lk "TrackHouseLaw" 54 zm_T_sprint 3 := z_lk_m zk_T_sprint 978 (by decide +kernel)
theorem zl_L_57 : z_lk "TrackHouseLaw" 57 zm_T_field 3 := z_lk_m zk_T_field 1182 (by decide +kernel)
theorem zl_L_70 : z_lk "TrackHouseLaw" 70 zm_T_stateOn 2 := z_lk_m zk_T_stateOn 1193 (by decide +kernel)
theorem zl_L_74 : z_lk "TrackHouseLaw" 74 zm_T_stateOnAnew 2 := z_lk_m zk_T_stateOnAnew 1197 (by decide +kernel)
theorem zl_L_77 : z_lk "TrackHouseLaw" 77 zm_T_entries 0 := z_lk_m zk_T_entries 1201 (by decide +kernel)
theorem zl_L_81 : z_lk "TrackHouseLaw" 81 zm_T_init 0 := z_lk_m zk_T_init 104 (by decide +kernel)
theorem zl_L_82 : z_lk "TrackHouseLaw" 82 zm_T_kind 4 := z_lk_m zk_T_kind 724 (by decide +kernel)
theorem zl_L_86 : z_lk "TrackHouseLaw" 86 zm_T_draft 1 := z_lk_m zk_T_draft 734 (by decide +kernel)
theorem zl_L_90 : z_lk "TrackHouseLaw" 90 zm_T_state 1 := z_lk_m zk_T_state 744 (by decide +kernel)
theorem zl_L_93 : z_lk "TrackHouseLaw" 93 zm_L_cell 2 := z_lk_m zk_L_cell 1149 (by decide +kernel)
theorem zl_L_97 : z_lk "TrackHouseLaw" 97 zm_L_low 2 := z_lk_m zk_L_low 1154 (by decide +kernel)
theorem zl_L_100 : z_lk "TrackHouseLaw" 100 zm_T_transition 6 := z_lk_m zk_T_transition 758 (by decide +kernel)
theorem zl_L_104 : z_lk "TrackHouseLaw" 104 zm_T_publish 1 := z_lk_m zk_T_publish 780 (by decide +kernel)
theorem zl_L_107 : z_lk "TrackHouseLaw" 107 zm_L_changes 4 := z_lk_m zk_L_changes 1187 (by decide +kernel)
theorem zl_L_111 : z_lk "TrackHouseLaw" 111 zm_T_grant 3 := z_lk_m zk_T_grant 517 (by decide +kernel)
theorem zl_L_114 : z_lk "TrackHouseLaw" 114 zm_T_scheme 3 := z_lk_m zk_T_scheme 699 (by decide +kernel)
theorem zl_L_117 : z_lk "TrackHouseLaw" 117 zm_T_secure 2 := z_lk_m zk_T_secure 705 (by decide +kernel)
theorem zl_L_120 : z_lk "TrackHouseLaw" 120 zm_T_reads 2 := z_lk_m zk_T_reads 709 (by decide +kernel)
theorem zl_L_122 : z_lk "TrackHouseLaw" 122 zm_T_pass 1 := z_lk_m zk_T_pass 716 (by decide +kernel)
theorem zl_L_125 : z_lk "TrackHouseLaw" 125 zm_T_index 0 := z_lk_m zk_T_index 720 (by decide +kernel)
theorem zl_L_128 : z_lk "TrackHouseLaw" 128 zm_T_wipe 0 := z_lk_m zk_T_wipe 993 (by decide +kernel)
theorem zl_L_131 : z_lk "TrackHouseLaw" 131 zm_L_types 4 := z_lk_m zk_L_types 1173 (by decide +kernel)
theorem zl_L_135 : z_lk "TrackHouseLaw" 135 zm_T_fault 0 := z_lk_m zk_T_fault 997 (by decide +kernel)
theorem zl_L_138 : z_lk "TrackHouseLaw" 138 zm_L_holds 10 := z_lk_m zk_L_holds 1170 (by decide +kernel)
theorem zl_L_142 : z_lk "TrackHouseLaw" 142 zm_T_found 3 := z_lk_m zk_T_found 1136 (by decide +kernel)
theorem zl_L_145 : z_lk "TrackHouseLaw" 145 zm_T_count 2 := z_lk_m zk_T_count 1055 (by decide +kernel)
theorem zl_L_148 : z_lk "TrackHouseLaw" 148 zm_T_sum 3 := z_lk_m zk_T_sum 1140 (by decide +kernel)
theorem zl_L_151 : z_lk "TrackHouseLaw" 151 zm_L_edits 5 := z_lk_m zk_L_edits 1161 (by decide +kernel)
theorem zl_L_154 : z_lk "TrackHouseLaw" 154 zm_L_same 8 := z_lk_m zk_L_same 1190 (by decide +kernel)
end
section
/-! THE STEADY WORLD: the cells of the class (0 .. 77), of the reference (78 .. 192), and the law's own array (193), as their constructors make them -/
def zT0 : List (List (Nat × Nat)) := [[(1, 11), (1, 4), (2, 900), (2, 900), (2, 900), (2, 900), (2, 900), (2, 900), (2, 900), (1, 10), (2, 300), (2, 90), (2, 24), (1, 10), (2, 300), (2, 90)], [(2, 24), (1, 1), (2, 30), (1, 5), (4, 30), (2, 30), (2, 30), (2, 30), (2, 30), (2, 30), (2, 30), (1, 9), (1, 10), (2, 300), (2, 90), (2, 24)], [(2, 30), (2, 180), (2, 30), (2, 30), (1, 8), (2, 3), (2, 3), (2, 3), (2, 4), (2, 4), (2, 3), (1, 3), (2, 3), (2, 3), (2, 3), (2, 3)], [(2, 3), (2, 3), (1, 10), (2, 300), (2, 90), (2, 24), (1, 2), (2, 4), (2, 4), (2, 192), (2, 6), (1, 7), (2, 6), (2, 6), (2, 6), (2, 6)], [(2, 6), (2, 6), (2, 6), (2, 6), (1, 6), (2, 30), (2, 30), (1, 0), (2, 512), (2, 512), (2, 512), (2, 512), (2, 8), (2, 8), (2, 60), (2, 30)], [(2, 6), (2, 10), (2, 3), (2, 60), (2, 18)]]
def zG0 : List (List (List (Option Nat))) := [[[some 1, some 9, some 13, some 17, some 19, some 27, some 36, some 43, some 54, some 59, some 68, some 71, some 76, some 77], [some 2, some 3, some 4, some 5, some 6, some 7, some 8], [], [], [], [], [], [], [], [some 10, some 11, some 12], [], [], [], [some 14, some 15, some 16], [], []], [[], [some 18, some 19, some 27, some 36], [], [some 20, some 21, some 22, some 23, some 24, some 25, some 26], [], [], [], [], [], [], [], [some 28, some 32, some 33, some 34, some 35], [some 29, some 30, some 31], [], [], []], [[], [], [], [], [some 37, some 38, some 39, some 40, some 41, some 42, some 43], [], [], [], [], [], [], [some 44, some 45, some 46, some 47, some 48, some 49], [], [], [], []], [[], [], [some 51, some 52, some 53], [], [], [], [some 55, some 56, some 57, some 58], [], [], [], [], [some 60, some 61, some 62, some 63, some 64, some 65, some 66, some 67], [], [], [], []], [[], [], [], [], [some 69, some 70], [], [], [some 72, some 73, some 74, some 75], [], [], [], [], [], [], [], []], [[], [], [], [], []]]
def zT (T' : Nat → Nat × Nat) (k : Nat) : Nat × Nat := match (zT0.getD (k / 16) [])[k % 16]? with
  | some s => s
  | none => T' k
def zG (G' : Nat → Nat → Option Nat) (k j : Nat) : Option Nat := match ((zG0.getD (k / 16) []).getD (k % 16) []).getD j none with
  | some v => some v
  | none => G' k j
abbrev zW (T' : Nat → Nat × Nat) (G' : Nat → Nat → Option Nat) (S : Nat → Nat → Int32) (n : Nat) : z_W := (zT T', zG G', S, n)
/-- it returns just that, with just that memory -/
def zq (v0 : Option z_V) (w0 : z_W) : Option z_V → z_W → Prop := fun v w => v = v0 ∧ w = w0
/-- the room of a method that calls d deep and makes nothing; .. that may throw c times -/
def zr (d : Nat) : Room := { frames := d, cells := 0, slots := 0, locals := 40 * d }
def zx (d c : Nat) : Room := { frames := d, cells := c, slots := 6 * c, locals := 60 * d }
end
