section
-- ===== PART A: goes FIRST, ahead of the names: the tables' words, and 'selects' of the private methods out of them =====
/-- a private method of a class that the tables say can be made, by its rows of tables_1 -/
def lw_okq (q : MethodName × Nat) : Prop := (q.1.cls ≠ "java/lang/invoke/MethodHandle" ∧ q.1.cls ≠ "java/lang/invoke/VarHandle") ∧ Cond.instantiable q.1.cls q.2 ∈ tables_1 ∧ Cond.privateMethod q.1 ∈ tables_1 ∧ Cond.instanceMethod q.1 ∈ tables_1
theorem lw_p0 : lw_okq (⟨"RowsIntoPlane$Page", "dueBehind", "(CI)I"⟩, 3) := ⟨⟨by decide +kernel, by decide +kernel⟩, List.mem_of_getElem? (i := 127) (by decide +kernel), List.mem_of_getElem? (i := 397) (by decide +kernel), List.mem_of_getElem? (i := 398) (by decide +kernel)⟩
theorem lw_p1 : lw_okq (⟨"RowsIntoPlane", "refusalOf", "(I)I"⟩, 11) := ⟨⟨by decide +kernel, by decide +kernel⟩, List.mem_of_getElem? (i := 14) (by decide +kernel), List.mem_of_getElem? (i := 421) (by decide +kernel), List.mem_of_getElem? (i := 422) (by decide +kernel)⟩
theorem lw_p2 : lw_okq (⟨"RowsIntoPlane", "hasCall", "(I)Z"⟩, 11) := ⟨⟨by decide +kernel, by decide +kernel⟩, List.mem_of_getElem? (i := 14) (by decide +kernel), List.mem_of_getElem? (i := 425) (by decide +kernel), List.mem_of_getElem? (i := 426) (by decide +kernel)⟩
theorem lw_p3 : lw_okq (⟨"RowsIntoPlane", "lineUp", "(II)V"⟩, 11) := ⟨⟨by decide +kernel, by decide +kernel⟩, List.mem_of_getElem? (i := 14) (by decide +kernel), List.mem_of_getElem? (i := 429) (by decide +kernel), List.mem_of_getElem? (i := 430) (by decide +kernel)⟩
theorem lw_p4 : lw_okq (⟨"RowsIntoPlane$Call", "isAhead", "(IILRowsIntoPlane$People;LRowsIntoPlane$Cabin;I)Z"⟩, 3) := ⟨⟨by decide +kernel, by decide +kernel⟩, List.mem_of_getElem? (i := 168) (by decide +kernel), List.mem_of_getElem? (i := 437) (by decide +kernel), List.mem_of_getElem? (i := 438) (by decide +kernel)⟩
theorem lw_p5 : lw_okq (⟨"RowsIntoPlane$Call", "valueOf", "(IILRowsIntoPlane$People;LRowsIntoPlane$Cabin;I)I"⟩, 3) := ⟨⟨by decide +kernel, by decide +kernel⟩, List.mem_of_getElem? (i := 168) (by decide +kernel), List.mem_of_getElem? (i := 444) (by decide +kernel), List.mem_of_getElem? (i := 445) (by decide +kernel)⟩
theorem lw_p6 : lw_okq (⟨"RowsIntoPlane", "boardBy", "(III)V"⟩, 11) := ⟨⟨by decide +kernel, by decide +kernel⟩, List.mem_of_getElem? (i := 14) (by decide +kernel), List.mem_of_getElem? (i := 471) (by decide +kernel), List.mem_of_getElem? (i := 472) (by decide +kernel)⟩
theorem lw_p7 : lw_okq (⟨"RowsIntoPlane$Boarding", "open", "(III)V"⟩, 16) := ⟨⟨by decide +kernel, by decide +kernel⟩, List.mem_of_getElem? (i := 184) (by decide +kernel), List.mem_of_getElem? (i := 479) (by decide +kernel), List.mem_of_getElem? (i := 480) (by decide +kernel)⟩
theorem lw_p8 : lw_okq (⟨"RowsIntoPlane$Boarding", "begin", "(LRowsIntoPlane$Line;)V"⟩, 16) := ⟨⟨by decide +kernel, by decide +kernel⟩, List.mem_of_getElem? (i := 184) (by decide +kernel), List.mem_of_getElem? (i := 488) (by decide +kernel), List.mem_of_getElem? (i := 489) (by decide +kernel)⟩
theorem lw_p9 : lw_okq (⟨"RowsIntoPlane$Boarding", "goOn", "(I)V"⟩, 16) := ⟨⟨by decide +kernel, by decide +kernel⟩, List.mem_of_getElem? (i := 184) (by decide +kernel), List.mem_of_getElem? (i := 492) (by decide +kernel), List.mem_of_getElem? (i := 493) (by decide +kernel)⟩
theorem lw_p10 : lw_okq (⟨"RowsIntoPlane$Boarding", "sitIfReady", "(III)V"⟩, 16) := ⟨⟨by decide +kernel, by decide +kernel⟩, List.mem_of_getElem? (i := 184) (by decide +kernel), List.mem_of_getElem? (i := 496) (by decide +kernel), List.mem_of_getElem? (i := 497) (by decide +kernel)⟩
theorem lw_p11 : lw_okq (⟨"RowsIntoPlane$Boarding", "timeToSit", "(I)I"⟩, 16) := ⟨⟨by decide +kernel, by decide +kernel⟩, List.mem_of_getElem? (i := 184) (by decide +kernel), List.mem_of_getElem? (i := 500) (by decide +kernel), List.mem_of_getElem? (i := 501) (by decide +kernel)⟩
theorem lw_p12 : lw_okq (⟨"RowsIntoPlane$Boarding", "inTheWayOf", "(I)I"⟩, 16) := ⟨⟨by decide +kernel, by decide +kernel⟩, List.mem_of_getElem? (i := 184) (by decide +kernel), List.mem_of_getElem? (i := 504) (by decide +kernel), List.mem_of_getElem? (i := 505) (by decide +kernel)⟩
theorem lw_p13 : lw_okq (⟨"RowsIntoPlane$Boarding", "nearestBin", "(I)I"⟩, 16) := ⟨⟨by decide +kernel, by decide +kernel⟩, List.mem_of_getElem? (i := 184) (by decide +kernel), List.mem_of_getElem? (i := 508) (by decide +kernel), List.mem_of_getElem? (i := 509) (by decide +kernel)⟩
theorem lw_p14 : lw_okq (⟨"RowsIntoPlane", "findBest", "()I"⟩, 11) := ⟨⟨by decide +kernel, by decide +kernel⟩, List.mem_of_getElem? (i := 14) (by decide +kernel), List.mem_of_getElem? (i := 539) (by decide +kernel), List.mem_of_getElem? (i := 540) (by decide +kernel)⟩
theorem lw_p15 : lw_okq (⟨"RowsIntoPlane", "secondsByDoors", "(I)I"⟩, 11) := ⟨⟨by decide +kernel, by decide +kernel⟩, List.mem_of_getElem? (i := 14) (by decide +kernel), List.mem_of_getElem? (i := 587) (by decide +kernel), List.mem_of_getElem? (i := 588) (by decide +kernel)⟩
def lw_privs_1 : List (MethodName × Nat) := [(⟨"RowsIntoPlane$Page", "dueBehind", "(CI)I"⟩, 3), (⟨"RowsIntoPlane", "refusalOf", "(I)I"⟩, 11), (⟨"RowsIntoPlane", "hasCall", "(I)Z"⟩, 11), (⟨"RowsIntoPlane", "lineUp", "(II)V"⟩, 11), (⟨"RowsIntoPlane$Call", "isAhead", "(IILRowsIntoPlane$People;LRowsIntoPlane$Cabin;I)Z"⟩, 3), (⟨"RowsIntoPlane$Call", "valueOf", "(IILRowsIntoPlane$People;LRowsIntoPlane$Cabin;I)I"⟩, 3), (⟨"RowsIntoPlane", "boardBy", "(III)V"⟩, 11), (⟨"RowsIntoPlane$Boarding", "open", "(III)V"⟩, 16), (⟨"RowsIntoPlane$Boarding", "begin", "(LRowsIntoPlane$Line;)V"⟩, 16), (⟨"RowsIntoPlane$Boarding", "goOn", "(I)V"⟩, 16), (⟨"RowsIntoPlane$Boarding", "sitIfReady", "(III)V"⟩, 16), (⟨"RowsIntoPlane$Boarding", "timeToSit", "(I)I"⟩, 16), (⟨"RowsIntoPlane$Boarding", "inTheWayOf", "(I)I"⟩, 16), (⟨"RowsIntoPlane$Boarding", "nearestBin", "(I)I"⟩, 16), (⟨"RowsIntoPlane", "findBest", "()I"⟩, 11), (⟨"RowsIntoPlane", "secondsByDoors", "(I)I"⟩, 11)]
theorem lw_r1 : ∀ q ∈ lw_privs_1, lw_okq q := List.forall_mem_cons.mpr ⟨lw_p0, List.forall_mem_cons.mpr ⟨lw_p1, List.forall_mem_cons.mpr ⟨lw_p2, List.forall_mem_cons.mpr ⟨lw_p3, List.forall_mem_cons.mpr ⟨lw_p4, List.forall_mem_cons.mpr ⟨lw_p5, List.forall_mem_cons.mpr ⟨lw_p6, List.forall_mem_cons.mpr ⟨lw_p7, List.forall_mem_cons.mpr ⟨lw_p8, List.forall_mem_cons.mpr ⟨lw_p9, List.forall_mem_cons.mpr ⟨lw_p10, List.forall_mem_cons.mpr ⟨lw_p11, List.forall_mem_cons.mpr ⟨lw_p12, List.forall_mem_cons.mpr ⟨lw_p13, List.forall_mem_cons.mpr ⟨lw_p14, List.forall_mem_cons.mpr ⟨lw_p15, fun _ h => absurd h List.not_mem_nil⟩⟩⟩⟩⟩⟩⟩⟩⟩⟩⟩⟩⟩⟩⟩⟩
theorem lw_p16 : lw_okq (⟨"RowsIntoPlane$Leaving", "goOn", "(I)V"⟩, 9) := ⟨⟨by decide +kernel, by decide +kernel⟩, List.mem_of_getElem? (i := 243) (by decide +kernel), List.mem_of_getElem? (i := 627) (by decide +kernel), List.mem_of_getElem? (i := 628) (by decide +kernel)⟩
theorem lw_p17 : lw_okq (⟨"RowsIntoPlane$Leaving", "getUp", "()V"⟩, 9) := ⟨⟨by decide +kernel, by decide +kernel⟩, List.mem_of_getElem? (i := 243) (by decide +kernel), List.mem_of_getElem? (i := 631) (by decide +kernel), List.mem_of_getElem? (i := 632) (by decide +kernel)⟩
theorem lw_p18 : lw_okq (⟨"RowsIntoPlane$Leaving", "leastTurn", "()I"⟩, 9) := ⟨⟨by decide +kernel, by decide +kernel⟩, List.mem_of_getElem? (i := 243) (by decide +kernel), List.mem_of_getElem? (i := 635) (by decide +kernel), List.mem_of_getElem? (i := 636) (by decide +kernel)⟩
theorem lw_p19 : lw_okq (⟨"RowsIntoPlane$Leaving", "turnOf", "(I)I"⟩, 9) := ⟨⟨by decide +kernel, by decide +kernel⟩, List.mem_of_getElem? (i := 243) (by decide +kernel), List.mem_of_getElem? (i := 639) (by decide +kernel), List.mem_of_getElem? (i := 640) (by decide +kernel)⟩
theorem lw_p20 : lw_okq (⟨"RowsIntoPlane$Leaving", "nextOf", "(II)I"⟩, 9) := ⟨⟨by decide +kernel, by decide +kernel⟩, List.mem_of_getElem? (i := 243) (by decide +kernel), List.mem_of_getElem? (i := 643) (by decide +kernel), List.mem_of_getElem? (i := 644) (by decide +kernel)⟩
theorem lw_p21 : lw_okq (⟨"RowsIntoPlane$Leaving", "isNearer", "(II)Z"⟩, 9) := ⟨⟨by decide +kernel, by decide +kernel⟩, List.mem_of_getElem? (i := 243) (by decide +kernel), List.mem_of_getElem? (i := 647) (by decide +kernel), List.mem_of_getElem? (i := 648) (by decide +kernel)⟩
theorem lw_p22 : lw_okq (⟨"RowsIntoPlane", "withCall", "(JI)J"⟩, 11) := ⟨⟨by decide +kernel, by decide +kernel⟩, List.mem_of_getElem? (i := 14) (by decide +kernel), List.mem_of_getElem? (i := 698) (by decide +kernel), List.mem_of_getElem? (i := 699) (by decide +kernel)⟩
theorem lw_p23 : lw_okq (⟨"RowsIntoPlaneModel", "lacks", "()Z"⟩, 37) := ⟨⟨by decide +kernel, by decide +kernel⟩, List.mem_of_getElem? (i := 706) (by decide +kernel), List.mem_of_getElem? (i := 839) (by decide +kernel), List.mem_of_getElem? (i := 840) (by decide +kernel)⟩
theorem lw_p24 : lw_okq (⟨"RowsIntoPlaneModel", "isPerson", "(I)Z"⟩, 37) := ⟨⟨by decide +kernel, by decide +kernel⟩, List.mem_of_getElem? (i := 706) (by decide +kernel), List.mem_of_getElem? (i := 843) (by decide +kernel), List.mem_of_getElem? (i := 844) (by decide +kernel)⟩
theorem lw_p25 : lw_okq (⟨"RowsIntoPlaneModel", "isTaken", "(III)Z"⟩, 37) := ⟨⟨by decide +kernel, by decide +kernel⟩, List.mem_of_getElem? (i := 706) (by decide +kernel), List.mem_of_getElem? (i := 848) (by decide +kernel), List.mem_of_getElem? (i := 849) (by decide +kernel)⟩
theorem lw_p26 : lw_okq (⟨"RowsIntoPlaneModel", "faultOf", "()I"⟩, 37) := ⟨⟨by decide +kernel, by decide +kernel⟩, List.mem_of_getElem? (i := 706) (by decide +kernel), List.mem_of_getElem? (i := 878) (by decide +kernel), List.mem_of_getElem? (i := 879) (by decide +kernel)⟩
theorem lw_p27 : lw_okq (⟨"RowsIntoPlaneModel", "go", "(I)Z"⟩, 37) := ⟨⟨by decide +kernel, by decide +kernel⟩, List.mem_of_getElem? (i := 706) (by decide +kernel), List.mem_of_getElem? (i := 882) (by decide +kernel), List.mem_of_getElem? (i := 883) (by decide +kernel)⟩
theorem lw_p28 : lw_okq (⟨"RowsIntoPlaneModel", "isCall", "(I)Z"⟩, 37) := ⟨⟨by decide +kernel, by decide +kernel⟩, List.mem_of_getElem? (i := 706) (by decide +kernel), List.mem_of_getElem? (i := 899) (by decide +kernel), List.mem_of_getElem? (i := 900) (by decide +kernel)⟩
theorem lw_p29 : lw_okq (⟨"RowsIntoPlaneModel", "layPeople", "(I)V"⟩, 37) := ⟨⟨by decide +kernel, by decide +kernel⟩, List.mem_of_getElem? (i := 706) (by decide +kernel), List.mem_of_getElem? (i := 904) (by decide +kernel), List.mem_of_getElem? (i := 905) (by decide +kernel)⟩
theorem lw_p30 : lw_okq (⟨"RowsIntoPlaneModel", "layOrder", "(I)V"⟩, 37) := ⟨⟨by decide +kernel, by decide +kernel⟩, List.mem_of_getElem? (i := 706) (by decide +kernel), List.mem_of_getElem? (i := 908) (by decide +kernel), List.mem_of_getElem? (i := 909) (by decide +kernel)⟩
theorem lw_p31 : lw_okq (⟨"RowsIntoPlaneModel", "isAhead", "(III)Z"⟩, 37) := ⟨⟨by decide +kernel, by decide +kernel⟩, List.mem_of_getElem? (i := 706) (by decide +kernel), List.mem_of_getElem? (i := 912) (by decide +kernel), List.mem_of_getElem? (i := 913) (by decide +kernel)⟩
def lw_privs_2 : List (MethodName × Nat) := [(⟨"RowsIntoPlane$Leaving", "goOn", "(I)V"⟩, 9), (⟨"RowsIntoPlane$Leaving", "getUp", "()V"⟩, 9), (⟨"RowsIntoPlane$Leaving", "leastTurn", "()I"⟩, 9), (⟨"RowsIntoPlane$Leaving", "turnOf", "(I)I"⟩, 9), (⟨"RowsIntoPlane$Leaving", "nextOf", "(II)I"⟩, 9), (⟨"RowsIntoPlane$Leaving", "isNearer", "(II)Z"⟩, 9), (⟨"RowsIntoPlane", "withCall", "(JI)J"⟩, 11), (⟨"RowsIntoPlaneModel", "lacks", "()Z"⟩, 37), (⟨"RowsIntoPlaneModel", "isPerson", "(I)Z"⟩, 37), (⟨"RowsIntoPlaneModel", "isTaken", "(III)Z"⟩, 37), (⟨"RowsIntoPlaneModel", "faultOf", "()I"⟩, 37), (⟨"RowsIntoPlaneModel", "go", "(I)Z"⟩, 37), (⟨"RowsIntoPlaneModel", "isCall", "(I)Z"⟩, 37), (⟨"RowsIntoPlaneModel", "layPeople", "(I)V"⟩, 37), (⟨"RowsIntoPlaneModel", "layOrder", "(I)V"⟩, 37), (⟨"RowsIntoPlaneModel", "isAhead", "(III)Z"⟩, 37)]
theorem lw_r2 : ∀ q ∈ lw_privs_2, lw_okq q := List.forall_mem_cons.mpr ⟨lw_p16, List.forall_mem_cons.mpr ⟨lw_p17, List.forall_mem_cons.mpr ⟨lw_p18, List.forall_mem_cons.mpr ⟨lw_p19, List.forall_mem_cons.mpr ⟨lw_p20, List.forall_mem_cons.mpr ⟨lw_p21, List.forall_mem_cons.mpr ⟨lw_p22, List.forall_mem_cons.mpr ⟨lw_p23, List.forall_mem_cons.mpr ⟨lw_p24, List.forall_mem_cons.mpr ⟨lw_p25, List.forall_mem_cons.mpr ⟨lw_p26, List.forall_mem_cons.mpr ⟨lw_p27, List.forall_mem_cons.mpr ⟨lw_p28, List.forall_mem_cons.mpr ⟨lw_p29, List.forall_mem_cons.mpr ⟨lw_p30, List.forall_mem_cons.mpr ⟨lw_p31, fun _ h => absurd h List.not_mem_nil⟩⟩⟩⟩⟩⟩⟩⟩⟩⟩⟩⟩⟩⟩⟩⟩
theorem lw_p32 : lw_okq (⟨"RowsIntoPlaneModel", "valueOf", "(III)I"⟩, 37) := ⟨⟨by decide +kernel, by decide +kernel⟩, List.mem_of_getElem? (i := 706) (by decide +kernel), List.mem_of_getElem? (i := 919) (by decide +kernel), List.mem_of_getElem? (i := 920) (by decide +kernel)⟩
theorem lw_p33 : lw_okq (⟨"RowsIntoPlaneModel", "depthOf", "(I)I"⟩, 37) := ⟨⟨by decide +kernel, by decide +kernel⟩, List.mem_of_getElem? (i := 706) (by decide +kernel), List.mem_of_getElem? (i := 923) (by decide +kernel), List.mem_of_getElem? (i := 924) (by decide +kernel)⟩
theorem lw_p34 : lw_okq (⟨"RowsIntoPlaneModel", "sideOf", "(I)I"⟩, 37) := ⟨⟨by decide +kernel, by decide +kernel⟩, List.mem_of_getElem? (i := 706) (by decide +kernel), List.mem_of_getElem? (i := 927) (by decide +kernel), List.mem_of_getElem? (i := 928) (by decide +kernel)⟩
theorem lw_p35 : lw_okq (⟨"RowsIntoPlaneModel", "put", "(II)V"⟩, 37) := ⟨⟨by decide +kernel, by decide +kernel⟩, List.mem_of_getElem? (i := 706) (by decide +kernel), List.mem_of_getElem? (i := 931) (by decide +kernel), List.mem_of_getElem? (i := 932) (by decide +kernel)⟩
theorem lw_p36 : lw_okq (⟨"RowsIntoPlaneModel", "placeOf", "(I)I"⟩, 37) := ⟨⟨by decide +kernel, by decide +kernel⟩, List.mem_of_getElem? (i := 706) (by decide +kernel), List.mem_of_getElem? (i := 935) (by decide +kernel), List.mem_of_getElem? (i := 936) (by decide +kernel)⟩
theorem lw_p37 : lw_okq (⟨"RowsIntoPlaneModel", "boardOf", "(II)I"⟩, 37) := ⟨⟨by decide +kernel, by decide +kernel⟩, List.mem_of_getElem? (i := 706) (by decide +kernel), List.mem_of_getElem? (i := 943) (by decide +kernel), List.mem_of_getElem? (i := 944) (by decide +kernel)⟩
theorem lw_p38 : lw_okq (⟨"RowsIntoPlaneModel", "boardBy", "(I)I"⟩, 37) := ⟨⟨by decide +kernel, by decide +kernel⟩, List.mem_of_getElem? (i := 706) (by decide +kernel), List.mem_of_getElem? (i := 947) (by decide +kernel), List.mem_of_getElem? (i := 948) (by decide +kernel)⟩
theorem lw_p39 : lw_okq (⟨"RowsIntoPlaneModel", "boardAll", "()I"⟩, 37) := ⟨⟨by decide +kernel, by decide +kernel⟩, List.mem_of_getElem? (i := 706) (by decide +kernel), List.mem_of_getElem? (i := 951) (by decide +kernel), List.mem_of_getElem? (i := 952) (by decide +kernel)⟩
theorem lw_p40 : lw_okq (⟨"RowsIntoPlaneModel", "beginBoard", "()V"⟩, 37) := ⟨⟨by decide +kernel, by decide +kernel⟩, List.mem_of_getElem? (i := 706) (by decide +kernel), List.mem_of_getElem? (i := 955) (by decide +kernel), List.mem_of_getElem? (i := 956) (by decide +kernel)⟩
theorem lw_p41 : lw_okq (⟨"RowsIntoPlaneModel", "goSecond", "(I)V"⟩, 37) := ⟨⟨by decide +kernel, by decide +kernel⟩, List.mem_of_getElem? (i := 706) (by decide +kernel), List.mem_of_getElem? (i := 959) (by decide +kernel), List.mem_of_getElem? (i := 960) (by decide +kernel)⟩
theorem lw_p42 : lw_okq (⟨"RowsIntoPlaneModel", "goCell", "(II)V"⟩, 37) := ⟨⟨by decide +kernel, by decide +kernel⟩, List.mem_of_getElem? (i := 706) (by decide +kernel), List.mem_of_getElem? (i := 963) (by decide +kernel), List.mem_of_getElem? (i := 964) (by decide +kernel)⟩
theorem lw_p43 : lw_okq (⟨"RowsIntoPlaneModel", "sit", "(III)V"⟩, 37) := ⟨⟨by decide +kernel, by decide +kernel⟩, List.mem_of_getElem? (i := 706) (by decide +kernel), List.mem_of_getElem? (i := 967) (by decide +kernel), List.mem_of_getElem? (i := 968) (by decide +kernel)⟩
theorem lw_p44 : lw_okq (⟨"RowsIntoPlaneModel", "begin", "(I)I"⟩, 37) := ⟨⟨by decide +kernel, by decide +kernel⟩, List.mem_of_getElem? (i := 706) (by decide +kernel), List.mem_of_getElem? (i := 971) (by decide +kernel), List.mem_of_getElem? (i := 972) (by decide +kernel)⟩
theorem lw_p45 : lw_okq (⟨"RowsIntoPlaneModel", "nearestBin", "(I)I"⟩, 37) := ⟨⟨by decide +kernel, by decide +kernel⟩, List.mem_of_getElem? (i := 706) (by decide +kernel), List.mem_of_getElem? (i := 975) (by decide +kernel), List.mem_of_getElem? (i := 976) (by decide +kernel)⟩
theorem lw_p46 : lw_okq (⟨"RowsIntoPlaneModel", "leastOf", "()I"⟩, 37) := ⟨⟨by decide +kernel, by decide +kernel⟩, List.mem_of_getElem? (i := 706) (by decide +kernel), List.mem_of_getElem? (i := 992) (by decide +kernel), List.mem_of_getElem? (i := 993) (by decide +kernel)⟩
theorem lw_p47 : lw_okq (⟨"RowsIntoPlaneModel", "layNumber", "(I)Z"⟩, 37) := ⟨⟨by decide +kernel, by decide +kernel⟩, List.mem_of_getElem? (i := 706) (by decide +kernel), List.mem_of_getElem? (i := 1001) (by decide +kernel), List.mem_of_getElem? (i := 1002) (by decide +kernel)⟩
def lw_privs_3 : List (MethodName × Nat) := [(⟨"RowsIntoPlaneModel", "valueOf", "(III)I"⟩, 37), (⟨"RowsIntoPlaneModel", "depthOf", "(I)I"⟩, 37), (⟨"RowsIntoPlaneModel", "sideOf", "(I)I"⟩, 37), (⟨"RowsIntoPlaneModel", "put", "(II)V"⟩, 37), (⟨"RowsIntoPlaneModel", "placeOf", "(I)I"⟩, 37), (⟨"RowsIntoPlaneModel", "boardOf", "(II)I"⟩, 37), (⟨"RowsIntoPlaneModel", "boardBy", "(I)I"⟩, 37), (⟨"RowsIntoPlaneModel", "boardAll", "()I"⟩, 37), (⟨"RowsIntoPlaneModel", "beginBoard", "()V"⟩, 37), (⟨"RowsIntoPlaneModel", "goSecond", "(I)V"⟩, 37), (⟨"RowsIntoPlaneModel", "goCell", "(II)V"⟩, 37), (⟨"RowsIntoPlaneModel", "sit", "(III)V"⟩, 37), (⟨"RowsIntoPlaneModel", "begin", "(I)I"⟩, 37), (⟨"RowsIntoPlaneModel", "nearestBin", "(I)I"⟩, 37), (⟨"RowsIntoPlaneModel", "leastOf", "()I"⟩, 37), (⟨"RowsIntoPlaneModel", "layNumber", "(I)Z"⟩, 37)]
theorem lw_r3 : ∀ q ∈ lw_privs_3, lw_okq q := List.forall_mem_cons.mpr ⟨lw_p32, List.forall_mem_cons.mpr ⟨lw_p33, List.forall_mem_cons.mpr ⟨lw_p34, List.forall_mem_cons.mpr ⟨lw_p35, List.forall_mem_cons.mpr ⟨lw_p36, List.forall_mem_cons.mpr ⟨lw_p37, List.forall_mem_cons.mpr ⟨lw_p38, List.forall_mem_cons.mpr ⟨lw_p39, List.forall_mem_cons.mpr ⟨lw_p40, List.forall_mem_cons.mpr ⟨lw_p41, List.forall_mem_cons.mpr ⟨lw_p42, List.forall_mem_cons.mpr ⟨lw_p43, List.forall_mem_cons.mpr ⟨lw_p44, List.forall_mem_cons.mpr ⟨lw_p45, List.forall_mem_cons.mpr ⟨lw_p46, List.forall_mem_cons.mpr ⟨lw_p47, fun _ h => absurd h List.not_mem_nil⟩⟩⟩⟩⟩⟩⟩⟩⟩⟩⟩⟩⟩⟩⟩⟩
theorem lw_p48 : lw_okq (⟨"RowsIntoPlaneModel", "everybody", "()I"⟩, 37) := ⟨⟨by decide +kernel, by decide +kernel⟩, List.mem_of_getElem? (i := 706) (by decide +kernel), List.mem_of_getElem? (i := 1005) (by decide +kernel), List.mem_of_getElem? (i := 1006) (by decide +kernel)⟩
theorem lw_p49 : lw_okq (⟨"RowsIntoPlaneModel", "exchange", "(II)V"⟩, 37) := ⟨⟨by decide +kernel, by decide +kernel⟩, List.mem_of_getElem? (i := 706) (by decide +kernel), List.mem_of_getElem? (i := 1013) (by decide +kernel), List.mem_of_getElem? (i := 1014) (by decide +kernel)⟩
theorem lw_p50 : lw_okq (⟨"RowsIntoPlaneModel", "doorsOf", "(I)I"⟩, 37) := ⟨⟨by decide +kernel, by decide +kernel⟩, List.mem_of_getElem? (i := 706) (by decide +kernel), List.mem_of_getElem? (i := 1029) (by decide +kernel), List.mem_of_getElem? (i := 1030) (by decide +kernel)⟩
theorem lw_p51 : lw_okq (⟨"RowsIntoPlaneModel", "layPart", "(II)V"⟩, 37) := ⟨⟨by decide +kernel, by decide +kernel⟩, List.mem_of_getElem? (i := 706) (by decide +kernel), List.mem_of_getElem? (i := 1033) (by decide +kernel), List.mem_of_getElem? (i := 1034) (by decide +kernel)⟩
theorem lw_p52 : lw_okq (⟨"RowsIntoPlaneModel", "mixedOf", "(III)I"⟩, 37) := ⟨⟨by decide +kernel, by decide +kernel⟩, List.mem_of_getElem? (i := 706) (by decide +kernel), List.mem_of_getElem? (i := 1042) (by decide +kernel), List.mem_of_getElem? (i := 1043) (by decide +kernel)⟩
theorem lw_p53 : lw_okq (⟨"RowsIntoPlaneModel", "draw", "(I)I"⟩, 37) := ⟨⟨by decide +kernel, by decide +kernel⟩, List.mem_of_getElem? (i := 706) (by decide +kernel), List.mem_of_getElem? (i := 1046) (by decide +kernel), List.mem_of_getElem? (i := 1047) (by decide +kernel)⟩
theorem lw_p54 : lw_okq (⟨"RowsIntoPlaneModel", "goOut", "(I)I"⟩, 37) := ⟨⟨by decide +kernel, by decide +kernel⟩, List.mem_of_getElem? (i := 706) (by decide +kernel), List.mem_of_getElem? (i := 1058) (by decide +kernel), List.mem_of_getElem? (i := 1059) (by decide +kernel)⟩
theorem lw_p55 : lw_okq (⟨"RowsIntoPlaneModel", "getUp", "(I)V"⟩, 37) := ⟨⟨by decide +kernel, by decide +kernel⟩, List.mem_of_getElem? (i := 706) (by decide +kernel), List.mem_of_getElem? (i := 1062) (by decide +kernel), List.mem_of_getElem? (i := 1063) (by decide +kernel)⟩
theorem lw_p56 : lw_okq (⟨"RowsIntoPlaneModel", "lowestOf", "(I)I"⟩, 37) := ⟨⟨by decide +kernel, by decide +kernel⟩, List.mem_of_getElem? (i := 706) (by decide +kernel), List.mem_of_getElem? (i := 1066) (by decide +kernel), List.mem_of_getElem? (i := 1067) (by decide +kernel)⟩
theorem lw_p57 : lw_okq (⟨"RowsIntoPlaneModel", "mayGo", "(III)Z"⟩, 37) := ⟨⟨by decide +kernel, by decide +kernel⟩, List.mem_of_getElem? (i := 706) (by decide +kernel), List.mem_of_getElem? (i := 1070) (by decide +kernel), List.mem_of_getElem? (i := 1071) (by decide +kernel)⟩
theorem lw_p58 : lw_okq (⟨"RowsIntoPlaneModel", "countOf", "(I)I"⟩, 37) := ⟨⟨by decide +kernel, by decide +kernel⟩, List.mem_of_getElem? (i := 706) (by decide +kernel), List.mem_of_getElem? (i := 1099) (by decide +kernel), List.mem_of_getElem? (i := 1100) (by decide +kernel)⟩
theorem lw_p59 : lw_okq (⟨"RowsIntoPlaneModel", "bagsOfAll", "()I"⟩, 37) := ⟨⟨by decide +kernel, by decide +kernel⟩, List.mem_of_getElem? (i := 706) (by decide +kernel), List.mem_of_getElem? (i := 1103) (by decide +kernel), List.mem_of_getElem? (i := 1104) (by decide +kernel)⟩
theorem lw_p60 : lw_okq (⟨"RowsIntoPlaneModel", "say", "(J)V"⟩, 37) := ⟨⟨by decide +kernel, by decide +kernel⟩, List.mem_of_getElem? (i := 706) (by decide +kernel), List.mem_of_getElem? (i := 1112) (by decide +kernel), List.mem_of_getElem? (i := 1113) (by decide +kernel)⟩
theorem lw_p61 : lw_okq (⟨"RowsIntoPlaneModel", "sayCalls", "()V"⟩, 37) := ⟨⟨by decide +kernel, by decide +kernel⟩, List.mem_of_getElem? (i := 706) (by decide +kernel), List.mem_of_getElem? (i := 1117) (by decide +kernel), List.mem_of_getElem? (i := 1118) (by decide +kernel)⟩
def lw_privs_4 : List (MethodName × Nat) := [(⟨"RowsIntoPlaneModel", "everybody", "()I"⟩, 37), (⟨"RowsIntoPlaneModel", "exchange", "(II)V"⟩, 37), (⟨"RowsIntoPlaneModel", "doorsOf", "(I)I"⟩, 37), (⟨"RowsIntoPlaneModel", "layPart", "(II)V"⟩, 37), (⟨"RowsIntoPlaneModel", "mixedOf", "(III)I"⟩, 37), (⟨"RowsIntoPlaneModel", "draw", "(I)I"⟩, 37), (⟨"RowsIntoPlaneModel", "goOut", "(I)I"⟩, 37), (⟨"RowsIntoPlaneModel", "getUp", "(I)V"⟩, 37), (⟨"RowsIntoPlaneModel", "lowestOf", "(I)I"⟩, 37), (⟨"RowsIntoPlaneModel", "mayGo", "(III)Z"⟩, 37), (⟨"RowsIntoPlaneModel", "countOf", "(I)I"⟩, 37), (⟨"RowsIntoPlaneModel", "bagsOfAll", "()I"⟩, 37), (⟨"RowsIntoPlaneModel", "say", "(J)V"⟩, 37), (⟨"RowsIntoPlaneModel", "sayCalls", "()V"⟩, 37)]
theorem lw_r4 : ∀ q ∈ lw_privs_4, lw_okq q := List.forall_mem_cons.mpr ⟨lw_p48, List.forall_mem_cons.mpr ⟨lw_p49, List.forall_mem_cons.mpr ⟨lw_p50, List.forall_mem_cons.mpr ⟨lw_p51, List.forall_mem_cons.mpr ⟨lw_p52, List.forall_mem_cons.mpr ⟨lw_p53, List.forall_mem_cons.mpr ⟨lw_p54, List.forall_mem_cons.mpr ⟨lw_p55, List.forall_mem_cons.mpr ⟨lw_p56, List.forall_mem_cons.mpr ⟨lw_p57, List.forall_mem_cons.mpr ⟨lw_p58, List.forall_mem_cons.mpr ⟨lw_p59, List.forall_mem_cons.mpr ⟨lw_p60, List.forall_mem_cons.mpr ⟨lw_p61, fun _ h => absurd h List.not_mem_nil⟩⟩⟩⟩⟩⟩⟩⟩⟩⟩⟩⟩⟩⟩
def lw_privs : List (MethodName × Nat) := lw_privs_1 ++ (lw_privs_2 ++ (lw_privs_3 ++ (lw_privs_4)))
def lw_tbl : List Cond := k2_sels lw_privs ++ tables_1
theorem lw_privs_ok : ∀ q ∈ lw_privs, lw_okq q := by
  show ∀ q ∈ lw_privs_1 ++ (lw_privs_2 ++ (lw_privs_3 ++ (lw_privs_4))), lw_okq q
  exact List.forall_mem_append.mpr ⟨lw_r1, List.forall_mem_append.mpr ⟨lw_r2, List.forall_mem_append.mpr ⟨lw_r3, lw_r4⟩⟩⟩
end
section
/-! names: classes and their fields, methods, links (by program gen01.py) -/
def ax_Ts : List Cond := lw_tbl.filter goodWord
theorem ax_mem {w : Cond} (i : Nat) (h : lw_tbl[i]? = some w) (hg : goodWord w = true) : w ∈ ax_Ts := List.mem_filter.mpr ⟨List.mem_of_getElem? h, hg⟩
theorem ax_Ts_sub : ∀ w ∈ ax_Ts, w ∈ lw_tbl := fun w h => (List.mem_filter.mp h).1
theorem ax_Ts_good : ∀ w ∈ ax_Ts, goodWord w = true := fun w h => (List.mem_filter.mp h).2
abbrev rn_0 : String := "RowsIntoPlane$Boarding"
def tb_0 : u_T := fun k => match k with
  | 0 => ("RowsIntoPlane$Boarding", "people", "LRowsIntoPlane$People;", true)
  | 1 => ("RowsIntoPlane$Boarding", "row", "[I", true)
  | 2 => ("RowsIntoPlane$Boarding", "bags", "[I", true)
  | 3 => ("RowsIntoPlane$Boarding", "coming", "[I", true)
  | 4 => ("RowsIntoPlane$Boarding", "left", "[I", true)
  | 5 => ("RowsIntoPlane$Boarding", "busy", "[I", true)
  | 6 => ("RowsIntoPlane$Boarding", "sat", "[I", true)
  | 7 => ("RowsIntoPlane$Boarding", "waited", "[I", true)
  | 8 => ("RowsIntoPlane$Boarding", "bins", "[[I", true)
  | 9 => ("RowsIntoPlane$Boarding", "aisle", "[I", true)
  | 10 => ("RowsIntoPlane$Boarding", "rows", "I", false)
  | 11 => ("RowsIntoPlane$Boarding", "room", "I", false)
  | 12 => ("RowsIntoPlane$Boarding", "many", "I", false)
  | 13 => ("RowsIntoPlane$Boarding", "seated", "I", false)
  | 14 => ("RowsIntoPlane$Boarding", "below", "I", false)
  | _ => ("RowsIntoPlane$Boarding", "seconds", "I", false)
def ft_0 : Nat → FieldType := fun k => match k with
  | 0 => .object "RowsIntoPlane$People"
  | 1 => .array .int
  | 2 => .array .int
  | 3 => .array .int
  | 4 => .array .int
  | 5 => .array .int
  | 6 => .array .int
  | 7 => .array .int
  | 8 => .array (.array .int)
  | 9 => .array .int
  | 10 => .int
  | 11 => .int
  | 12 => .int
  | 13 => .int
  | 14 => .int
  | _ => .int
abbrev rn_1 : String := "RowsIntoPlane$Cabin"
def tb_1 : u_T := fun k => match k with
  | 0 => ("RowsIntoPlane$Cabin", "rows", "I", false)
  | 1 => ("RowsIntoPlane$Cabin", "wide", "I", false)
  | 2 => ("RowsIntoPlane$Cabin", "room", "I", false)
  | _ => ("RowsIntoPlane$Cabin", "built", "I", false)
def ft_1 : Nat → FieldType := fun k => match k with
  | 0 => .int
  | 1 => .int
  | 2 => .int
  | _ => .int
abbrev rn_2 : String := "RowsIntoPlane$Call"
def tb_2 : u_T := fun k => match k with
  | 0 => ("RowsIntoPlane$Call", "keys", "[C", true)
  | 1 => ("RowsIntoPlane$Call", "numbers", "[I", true)
  | _ => ("RowsIntoPlane$Call", "size", "I", false)
def ft_2 : Nat → FieldType := fun k => match k with
  | 0 => .array .char
  | 1 => .array .int
  | _ => .int
abbrev rn_3 : String := "RowsIntoPlane$Image"
def tb_3 : u_T := fun k => match k with
  | 0 => ("RowsIntoPlane$Image", "bags", "[I", true)
  | 1 => ("RowsIntoPlane$Image", "worth", "[I", true)
  | 2 => ("RowsIntoPlane$Image", "size", "I", false)
  | _ => ("RowsIntoPlane$Image", "isKept", "Z", false)
def ft_3 : Nat → FieldType := fun k => match k with
  | 0 => .array .int
  | 1 => .array .int
  | 2 => .int
  | _ => .boolean
abbrev rn_4 : String := "RowsIntoPlane$Leaving"
def tb_4 : u_T := fun k => match k with
  | 0 => ("RowsIntoPlane$Leaving", "people", "LRowsIntoPlane$People;", true)
  | 1 => ("RowsIntoPlane$Leaving", "aisle", "[I", true)
  | 2 => ("RowsIntoPlane$Leaving", "busy", "[I", true)
  | 3 => ("RowsIntoPlane$Leaving", "isUp", "[Z", true)
  | 4 => ("RowsIntoPlane$Leaving", "wentOut", "[I", true)
  | 5 => ("RowsIntoPlane$Leaving", "rows", "I", false)
  | 6 => ("RowsIntoPlane$Leaving", "manner", "I", false)
  | 7 => ("RowsIntoPlane$Leaving", "gone", "I", false)
  | _ => ("RowsIntoPlane$Leaving", "seconds", "I", false)
def ft_4 : Nat → FieldType := fun k => match k with
  | 0 => .object "RowsIntoPlane$People"
  | 1 => .array .int
  | 2 => .array .int
  | 3 => .array .boolean
  | 4 => .array .int
  | 5 => .int
  | 6 => .int
  | 7 => .int
  | _ => .int
abbrev rn_5 : String := "RowsIntoPlane$Line"
def tb_5 : u_T := fun k => match k with
  | 0 => ("RowsIntoPlane$Line", "who", "[I", true)
  | _ => ("RowsIntoPlane$Line", "size", "I", false)
def ft_5 : Nat → FieldType := fun k => match k with
  | 0 => .array .int
  | _ => .int
abbrev rn_6 : String := "RowsIntoPlane$Page"
def tb_6 : u_T := fun k => match k with
  | 0 => ("RowsIntoPlane$Page", "letters", "[C", true)
  | 1 => ("RowsIntoPlane$Page", "size", "I", false)
  | _ => ("RowsIntoPlane$Page", "due", "I", false)
def ft_6 : Nat → FieldType := fun k => match k with
  | 0 => .array .char
  | 1 => .int
  | _ => .int
abbrev rn_7 : String := "RowsIntoPlane$People"
def tb_7 : u_T := fun k => match k with
  | 0 => ("RowsIntoPlane$People", "kind", "[I", true)
  | 1 => ("RowsIntoPlane$People", "with", "[I", true)
  | 2 => ("RowsIntoPlane$People", "row", "[I", true)
  | 3 => ("RowsIntoPlane$People", "side", "[I", true)
  | 4 => ("RowsIntoPlane$People", "depth", "[I", true)
  | 5 => ("RowsIntoPlane$People", "bags", "[I", true)
  | 6 => ("RowsIntoPlane$People", "worth", "[I", true)
  | _ => ("RowsIntoPlane$People", "size", "I", false)
def ft_7 : Nat → FieldType := fun k => match k with
  | 0 => .array .int
  | 1 => .array .int
  | 2 => .array .int
  | 3 => .array .int
  | 4 => .array .int
  | 5 => .array .int
  | 6 => .array .int
  | _ => .int
abbrev rn_8 : String := "RowsIntoPlane"
def tb_8 : u_T := fun k => match k with
  | 0 => ("RowsIntoPlane", "cabin", "LRowsIntoPlane$Cabin;", true)
  | 1 => ("RowsIntoPlane", "people", "LRowsIntoPlane$People;", true)
  | 2 => ("RowsIntoPlane", "image", "LRowsIntoPlane$Image;", true)
  | 3 => ("RowsIntoPlane", "page", "LRowsIntoPlane$Page;", true)
  | 4 => ("RowsIntoPlane", "calls", "[LRowsIntoPlane$Call;", true)
  | 5 => ("RowsIntoPlane", "line", "LRowsIntoPlane$Line;", true)
  | 6 => ("RowsIntoPlane", "best", "LRowsIntoPlane$Line;", true)
  | 7 => ("RowsIntoPlane", "boarding", "LRowsIntoPlane$Boarding;", true)
  | 8 => ("RowsIntoPlane", "leaving", "LRowsIntoPlane$Leaving;", true)
  | 9 => ("RowsIntoPlane", "callCount", "I", false)
  | _ => ("RowsIntoPlane", "bestDone", "I", false)
def ft_8 : Nat → FieldType := fun k => match k with
  | 0 => .object "RowsIntoPlane$Cabin"
  | 1 => .object "RowsIntoPlane$People"
  | 2 => .object "RowsIntoPlane$Image"
  | 3 => .object "RowsIntoPlane$Page"
  | 4 => .array (.object "RowsIntoPlane$Call")
  | 5 => .object "RowsIntoPlane$Line"
  | 6 => .object "RowsIntoPlane$Line"
  | 7 => .object "RowsIntoPlane$Boarding"
  | 8 => .object "RowsIntoPlane$Leaving"
  | 9 => .int
  | _ => .int
abbrev rn_9 : String := "RowsIntoPlaneModel"
def tb_9 : u_T := fun k => match k with
  | 0 => ("RowsIntoPlaneModel", "rows", "I", false)
  | 1 => ("RowsIntoPlaneModel", "wide", "I", false)
  | 2 => ("RowsIntoPlaneModel", "room", "I", false)
  | 3 => ("RowsIntoPlaneModel", "cabins", "I", false)
  | 4 => ("RowsIntoPlaneModel", "people", "I", false)
  | 5 => ("RowsIntoPlaneModel", "persons", "[I", true)
  | 6 => ("RowsIntoPlaneModel", "page", "[I", true)
  | 7 => ("RowsIntoPlaneModel", "pageMany", "I", false)
  | 8 => ("RowsIntoPlaneModel", "calls", "I", false)
  | 9 => ("RowsIntoPlaneModel", "keys", "[I", true)
  | 10 => ("RowsIntoPlaneModel", "state", "I", false)
  | 11 => ("RowsIntoPlaneModel", "readMany", "I", false)
  | 12 => ("RowsIntoPlaneModel", "readRow", "[I", true)
  | 13 => ("RowsIntoPlaneModel", "rowsNow", "I", false)
  | 14 => ("RowsIntoPlaneModel", "rowNow", "[I", true)
  | 15 => ("RowsIntoPlaneModel", "bagsNow", "[I", true)
  | 16 => ("RowsIntoPlaneModel", "queue", "[I", true)
  | 17 => ("RowsIntoPlaneModel", "queued", "I", false)
  | 18 => ("RowsIntoPlaneModel", "aisle", "[I", true)
  | 19 => ("RowsIntoPlaneModel", "busy", "[I", true)
  | 20 => ("RowsIntoPlaneModel", "satAt", "[I", true)
  | 21 => ("RowsIntoPlaneModel", "waited", "[I", true)
  | 22 => ("RowsIntoPlaneModel", "bins", "[I", true)
  | 23 => ("RowsIntoPlaneModel", "binOf", "[I", true)
  | 24 => ("RowsIntoPlaneModel", "belowNow", "I", false)
  | 25 => ("RowsIntoPlaneModel", "came", "I", false)
  | 26 => ("RowsIntoPlaneModel", "satMany", "I", false)
  | 27 => ("RowsIntoPlaneModel", "done", "I", false)
  | 28 => ("RowsIntoPlaneModel", "bestQueue", "[I", true)
  | 29 => ("RowsIntoPlaneModel", "whole", "[I", true)
  | 30 => ("RowsIntoPlaneModel", "seedNow", "I", false)
  | 31 => ("RowsIntoPlaneModel", "outAt", "[I", true)
  | 32 => ("RowsIntoPlaneModel", "still", "[I", true)
  | 33 => ("RowsIntoPlaneModel", "keptPeople", "I", false)
  | 34 => ("RowsIntoPlaneModel", "keptCabin", "I", false)
  | 35 => ("RowsIntoPlaneModel", "keptRows", "[I", true)
  | _ => ("RowsIntoPlaneModel", "hash", "J", false)
def ft_9 : Nat → FieldType := fun k => match k with
  | 0 => .int
  | 1 => .int
  | 2 => .int
  | 3 => .int
  | 4 => .int
  | 5 => .array .int
  | 6 => .array .int
  | 7 => .int
  | 8 => .int
  | 9 => .array .int
  | 10 => .int
  | 11 => .int
  | 12 => .array .int
  | 13 => .int
  | 14 => .array .int
  | 15 => .array .int
  | 16 => .array .int
  | 17 => .int
  | 18 => .array .int
  | 19 => .array .int
  | 20 => .array .int
  | 21 => .array .int
  | 22 => .array .int
  | 23 => .array .int
  | 24 => .int
  | 25 => .int
  | 26 => .int
  | 27 => .int
  | 28 => .array .int
  | 29 => .array .int
  | 30 => .int
  | 31 => .array .int
  | 32 => .array .int
  | 33 => .int
  | 34 => .int
  | 35 => .array .int
  | _ => .long
abbrev ax_cl : List vw_C := [(rn_0, tb_0, 16), (rn_1, tb_1, 4), (rn_2, tb_2, 3), (rn_3, tb_3, 4), (rn_4, tb_4, 9), (rn_5, tb_5, 2), (rn_6, tb_6, 3), (rn_7, tb_7, 8), (rn_8, tb_8, 11), (rn_9, tb_9, 37)]
theorem nm_0 : ∀ a, a < 16 → ∀ b, b < 16 → a ≠ b → (tb_0 a).2.1 ≠ (tb_0 b).2.1 := by decide +kernel
theorem fo_0 : ∀ k, k < 16 → parseFieldDescriptor (tb_0 k).2.2.1 = some (ft_0 k) := by decide +kernel
theorem wi_0 : ∀ w ∈ u_ws rn_0 tb_0 16, w ∈ ax_Ts := by
  have h : (List.range 16).all (fun k => decide (lw_tbl[([271, 273, 275, 277, 279, 281, 283, 285, 287, 289, 291, 293, 295, 297, 299, 301] : List Nat).getD k 0]? = some (u_lay rn_0 tb_0 k)) && goodWord (u_lay rn_0 tb_0 k)) = true := by decide +kernel
  intro w hw
  obtain ⟨k, hk, rfl⟩ := List.mem_map.mp hw
  have h1 := List.all_eq_true.mp h k hk
  simp only [Bool.and_eq_true, decide_eq_true_eq] at h1
  exact ax_mem _ h1.1 h1.2
theorem nm_1 : ∀ a, a < 4 → ∀ b, b < 4 → a ≠ b → (tb_1 a).2.1 ≠ (tb_1 b).2.1 := by decide +kernel
theorem fo_1 : ∀ k, k < 4 → parseFieldDescriptor (tb_1 k).2.2.1 = some (ft_1 k) := by decide +kernel
theorem wi_1 : ∀ w ∈ u_ws rn_1 tb_1 4, w ∈ ax_Ts := by
  have h : (List.range 4).all (fun k => decide (lw_tbl[([99, 101, 103, 105] : List Nat).getD k 0]? = some (u_lay rn_1 tb_1 k)) && goodWord (u_lay rn_1 tb_1 k)) = true := by decide +kernel
  intro w hw
  obtain ⟨k, hk, rfl⟩ := List.mem_map.mp hw
  have h1 := List.all_eq_true.mp h k hk
  simp only [Bool.and_eq_true, decide_eq_true_eq] at h1
  exact ax_mem _ h1.1 h1.2
theorem nm_2 : ∀ a, a < 3 → ∀ b, b < 3 → a ≠ b → (tb_2 a).2.1 ≠ (tb_2 b).2.1 := by decide +kernel
theorem fo_2 : ∀ k, k < 3 → parseFieldDescriptor (tb_2 k).2.2.1 = some (ft_2 k) := by decide +kernel
theorem wi_2 : ∀ w ∈ u_ws rn_2 tb_2 3, w ∈ ax_Ts := by
  have h : (List.range 3).all (fun k => decide (lw_tbl[([238, 240, 242] : List Nat).getD k 0]? = some (u_lay rn_2 tb_2 k)) && goodWord (u_lay rn_2 tb_2 k)) = true := by decide +kernel
  intro w hw
  obtain ⟨k, hk, rfl⟩ := List.mem_map.mp hw
  have h1 := List.all_eq_true.mp h k hk
  simp only [Bool.and_eq_true, decide_eq_true_eq] at h1
  exact ax_mem _ h1.1 h1.2
theorem nm_3 : ∀ a, a < 4 → ∀ b, b < 4 → a ≠ b → (tb_3 a).2.1 ≠ (tb_3 b).2.1 := by decide +kernel
theorem fo_3 : ∀ k, k < 4 → parseFieldDescriptor (tb_3 k).2.2.1 = some (ft_3 k) := by decide +kernel
theorem wi_3 : ∀ w ∈ u_ws rn_3 tb_3 4, w ∈ ax_Ts := by
  have h : (List.range 4).all (fun k => decide (lw_tbl[([179, 181, 183, 185] : List Nat).getD k 0]? = some (u_lay rn_3 tb_3 k)) && goodWord (u_lay rn_3 tb_3 k)) = true := by decide +kernel
  intro w hw
  obtain ⟨k, hk, rfl⟩ := List.mem_map.mp hw
  have h1 := List.all_eq_true.mp h k hk
  simp only [Bool.and_eq_true, decide_eq_true_eq] at h1
  exact ax_mem _ h1.1 h1.2
theorem nm_4 : ∀ a, a < 9 → ∀ b, b < 9 → a ≠ b → (tb_4 a).2.1 ≠ (tb_4 b).2.1 := by decide +kernel
theorem fo_4 : ∀ k, k < 9 → parseFieldDescriptor (tb_4 k).2.2.1 = some (ft_4 k) := by decide +kernel
theorem wi_4 : ∀ w ∈ u_ws rn_4 tb_4 9, w ∈ ax_Ts := by
  have h : (List.range 9).all (fun k => decide (lw_tbl[([321, 323, 325, 327, 329, 331, 333, 335, 337] : List Nat).getD k 0]? = some (u_lay rn_4 tb_4 k)) && goodWord (u_lay rn_4 tb_4 k)) = true := by decide +kernel
  intro w hw
  obtain ⟨k, hk, rfl⟩ := List.mem_map.mp hw
  have h1 := List.all_eq_true.mp h k hk
  simp only [Bool.and_eq_true, decide_eq_true_eq] at h1
  exact ax_mem _ h1.1 h1.2
theorem nm_5 : ∀ a, a < 2 → ∀ b, b < 2 → a ≠ b → (tb_5 a).2.1 ≠ (tb_5 b).2.1 := by decide +kernel
theorem fo_5 : ∀ k, k < 2 → parseFieldDescriptor (tb_5 k).2.2.1 = some (ft_5 k) := by decide +kernel
theorem wi_5 : ∀ w ∈ u_ws rn_5 tb_5 2, w ∈ ax_Ts := by
  have h : (List.range 2).all (fun k => decide (lw_tbl[([225, 227] : List Nat).getD k 0]? = some (u_lay rn_5 tb_5 k)) && goodWord (u_lay rn_5 tb_5 k)) = true := by decide +kernel
  intro w hw
  obtain ⟨k, hk, rfl⟩ := List.mem_map.mp hw
  have h1 := List.all_eq_true.mp h k hk
  simp only [Bool.and_eq_true, decide_eq_true_eq] at h1
  exact ax_mem _ h1.1 h1.2
theorem nm_6 : ∀ a, a < 3 → ∀ b, b < 3 → a ≠ b → (tb_6 a).2.1 ≠ (tb_6 b).2.1 := by decide +kernel
theorem fo_6 : ∀ k, k < 3 → parseFieldDescriptor (tb_6 k).2.2.1 = some (ft_6 k) := by decide +kernel
theorem wi_6 : ∀ w ∈ u_ws rn_6 tb_6 3, w ∈ ax_Ts := by
  have h : (List.range 3).all (fun k => decide (lw_tbl[([201, 203, 205] : List Nat).getD k 0]? = some (u_lay rn_6 tb_6 k)) && goodWord (u_lay rn_6 tb_6 k)) = true := by decide +kernel
  intro w hw
  obtain ⟨k, hk, rfl⟩ := List.mem_map.mp hw
  have h1 := List.all_eq_true.mp h k hk
  simp only [Bool.and_eq_true, decide_eq_true_eq] at h1
  exact ax_mem _ h1.1 h1.2
theorem nm_7 : ∀ a, a < 8 → ∀ b, b < 8 → a ≠ b → (tb_7 a).2.1 ≠ (tb_7 b).2.1 := by decide +kernel
theorem fo_7 : ∀ k, k < 8 → parseFieldDescriptor (tb_7 k).2.2.1 = some (ft_7 k) := by decide +kernel
theorem wi_7 : ∀ w ∈ u_ws rn_7 tb_7 8, w ∈ ax_Ts := by
  have h : (List.range 8).all (fun k => decide (lw_tbl[([150, 152, 154, 156, 158, 160, 162, 164] : List Nat).getD k 0]? = some (u_lay rn_7 tb_7 k)) && goodWord (u_lay rn_7 tb_7 k)) = true := by decide +kernel
  intro w hw
  obtain ⟨k, hk, rfl⟩ := List.mem_map.mp hw
  have h1 := List.all_eq_true.mp h k hk
  simp only [Bool.and_eq_true, decide_eq_true_eq] at h1
  exact ax_mem _ h1.1 h1.2
theorem nm_8 : ∀ a, a < 11 → ∀ b, b < 11 → a ≠ b → (tb_8 a).2.1 ≠ (tb_8 b).2.1 := by decide +kernel
theorem fo_8 : ∀ k, k < 11 → parseFieldDescriptor (tb_8 k).2.2.1 = some (ft_8 k) := by decide +kernel
theorem wi_8 : ∀ w ∈ u_ws rn_8 tb_8 11, w ∈ ax_Ts := by
  have h : (List.range 11).all (fun k => decide (lw_tbl[([352, 354, 356, 358, 360, 362, 364, 366, 368, 370, 372] : List Nat).getD k 0]? = some (u_lay rn_8 tb_8 k)) && goodWord (u_lay rn_8 tb_8 k)) = true := by decide +kernel
  intro w hw
  obtain ⟨k, hk, rfl⟩ := List.mem_map.mp hw
  have h1 := List.all_eq_true.mp h k hk
  simp only [Bool.and_eq_true, decide_eq_true_eq] at h1
  exact ax_mem _ h1.1 h1.2
theorem nm_9 : ∀ a, a < 37 → ∀ b, b < 37 → a ≠ b → (tb_9 a).2.1 ≠ (tb_9 b).2.1 := by decide +kernel
theorem fo_9 : ∀ k, k < 37 → parseFieldDescriptor (tb_9 k).2.2.1 = some (ft_9 k) := by decide +kernel
theorem wi_9 : ∀ w ∈ u_ws rn_9 tb_9 37, w ∈ ax_Ts := by
  have h : (List.range 37).all (fun k => decide (lw_tbl[([810, 812, 814, 816, 818, 820, 822, 824, 826, 828, 830, 832, 834, 836, 838, 840, 842, 844, 846, 848, 850, 852, 854, 856, 858, 860, 862, 864, 866, 868, 870, 872, 874, 876, 878, 880, 882] : List Nat).getD k 0]? = some (u_lay rn_9 tb_9 k)) && goodWord (u_lay rn_9 tb_9 k)) = true := by decide +kernel
  intro w hw
  obtain ⟨k, hk, rfl⟩ := List.mem_map.mp hw
  have h1 := List.all_eq_true.mp h k hk
  simp only [Bool.and_eq_true, decide_eq_true_eq] at h1
  exact ax_mem _ h1.1 h1.2
end
section
/-! the layer: an abstract memory of whole numbers over the kit's worlds; judgements that quantify over the machine -/
abbrev ax_V : Type := Int ⊕ (Int ⊕ Nat)
abbrev ax_Mem : Type := Nat → Nat → Int
abbrev ax_Sh : Type := (Nat × Nat) ⊕ ((Nat × List Nat) ⊕ (Nat × List (Option (Option Nat))))
def ax_r (i : Int) : Prop := -2147483648 ≤ i ∧ i < 2147483648
def ax_vr (v : ax_V) : Prop := match v with
  | .inl i => ax_r i
  | .inr _ => True
def ax_lg (v : ax_V) : Bool := match v with
  | .inr (.inl _) => true
  | _ => false
def ax_c (ad : Nat → Nat) (v : ax_V) : Value := match v with
  | .inl i => .int (Int32.ofInt i)
  | .inr (.inl i) => .long (Int64.ofInt i)
  | .inr (.inr k) => .ref (ad k)
def ax_f (ad : Nat → Nat) (f : Nat → Int) (j : Nat) (o : Option (Option Nat)) : Value := match o with
  | none => .int (Int32.ofInt (f j))
  | some none => .long (Int64.ofInt (f j))
  | some (some r) => .ref (ad r)
def ax_e (ca : Nat → ClassId) (ad : Nat → Nat) (f : Nat → Int) (s : ax_Sh) : va_E := match s with
  | .inl q => .inl (ca q.1, q.2, .inl (fun j => Int32.ofInt (f j)))
  | .inr (.inl q) => .inl (ca q.1, q.2.length, .inr (.inr (.inr (.inr (fun j => (q.2[j]?).map ad)))))
  | .inr (.inr q) => .inr (q.1, q.2.mapIdx (ax_f ad f))
def ax_w (sh : List ax_Sh) (ca : Nat → ClassId) (ad : Nat → Nat) (M : ax_Mem) : va_W := sh.mapIdx (fun k s => (ad k, ax_e ca ad (M k) s))
theorem ax_w_get {sh : List ax_Sh} {ca : Nat → ClassId} {ad : Nat → Nat} {M : ax_Mem} {k : Nat} {s : ax_Sh} (h : sh[k]? = some s) : (ax_w sh ca ad M)[k]? = some (ad k, ax_e ca ad (M k) s) := by
  simp [ax_w, List.getElem?_mapIdx, h]
theorem ax_w_at {sh : List ax_Sh} {ca : Nat → ClassId} {ad : Nat → Nat} {M : ax_Mem} {k : Nat} {q : Nat × va_E} (h : (ax_w sh ca ad M)[k]? = some q) : ∃ s, sh[k]? = some s ∧ k < sh.length ∧ q = (ad k, ax_e ca ad (M k) s) := by
  simp only [ax_w, List.getElem?_mapIdx] at h
  cases hs : sh[k]? with
  | none => rw [hs] at h; cases h
  | some s =>
    rw [hs] at h
    exact ⟨s, rfl, (List.getElem?_eq_some_iff.mp hs).1, (Option.some.inj h).symm⟩
def ax_isl (sh : List ax_Sh) (k j : Nat) : Bool := match sh[k]? with
  | some (.inr (.inr q)) => q.2[j]? == some (some none)
  | _ => false
def ax_n (sh : List ax_Sh) (M : ax_Mem) : Prop := ∀ k j, ax_isl sh k j = false → ax_r (M k j)
def ax_I (sh : List ax_Sh) (ad : Nat → Nat) : Prop := ∀ i j, i < sh.length → j < sh.length → ad i = ad j → i = j
def ax_As (sh : List ax_Sh) (ad : Nat → Nat) (q : Nat) : Prop := ∃ k, k < sh.length ∧ q = ad k
theorem ax_D {sh : List ax_Sh} {ca : Nat → ClassId} {ad : Nat → Nat} (M : ax_Mem) (h : ax_I sh ad) : va_D (ax_As sh ad) (ax_w sh ca ad M) := by
  refine ⟨fun i j p q hi hj e => ?_, fun k q hk => ?_⟩
  · obtain ⟨s, -, h1, rfl⟩ := ax_w_at hi
    obtain ⟨t, -, h2, rfl⟩ := ax_w_at hj
    exact h i j h1 h2 e
  · obtain ⟨s, -, h1, rfl⟩ := ax_w_at hk
    exact ⟨k, h1, rfl⟩
/-- one place of one cell gets v -/
def ax_u (M : ax_Mem) (k j : Nat) (v : Int) : ax_Mem := fun a => if a = k then (fun b => if b = j then v else M a b) else M a
/-- one cell gets new contents -/
def ax_s (M : ax_Mem) (k : Nat) (f : Nat → Int) : ax_Mem := fun a => if a = k then f else M a
theorem ax_w_set {sh : List ax_Sh} {ca : Nat → ClassId} {ad : Nat → Nat} {M M' : ax_Mem} {k : Nat} {s : ax_Sh} (h : sh[k]? = some s) (hM : ∀ a, a ≠ k → M' a = M a) : (ax_w sh ca ad M).set k (ad k, ax_e ca ad (M' k) s) = ax_w sh ca ad M' := by
  have hk := (List.getElem?_eq_some_iff.mp h).1
  apply List.ext_getElem?
  intro i
  by_cases hi : i = k
  · subst hi
    rw [List.getElem?_set_self (by simpa [ax_w] using hk), ax_w_get h]
  · rw [List.getElem?_set_ne (Ne.symm hi)]
    simp only [ax_w, List.getElem?_mapIdx]
    rw [hM i hi]
def ax_nest : Cond := .methodLinkNest "RowsIntoPlane$Cabin" 22 ⟨"RowsIntoPlane", "outside", "(III)Z"⟩ "RowsIntoPlane"
def ax_tys (ca : Nat → ClassId) : List (ClassId × FieldType) := [(ca 0, .int), (ca 1, .char), (ca 2, .boolean), (ca 3, .object "RowsIntoPlane$Call"), (ca 4, .array .int)]
def ax_rm (d : Nat) : Room := { frames := d, cells := 0, slots := 0, locals := 36 * d }
def ax_B (sh : List ax_Sh) (D : va_G) (ca : Nat → ClassId) (ad : Nat → Nat) (u : ax_Mem) (t : State) : Prop := ax_n sh u ∧ va_P D ax_cl (ax_w sh ca ad u) t.heap
def ax_Q (sh : List ax_Sh) (ret : Option FieldType) (D : va_G) (ca : Nat → ClassId) (ad : Nat → Nat) (P : Int → ax_Mem → Prop) : Array Value → State → Outcome → State → Prop := match ret with
  | none => va_Qv (fun u => P 0 u) (ax_B sh D ca ad) (ax_As sh ad)
  | some .long => va_Ql (fun r u => ∃ i, r = Int64.ofInt i ∧ P i u) (ax_B sh D ca ad) (ax_As sh ad)
  | some _ => va_Qi (fun r u => ∃ i, ax_r i ∧ r = Int32.ofInt i ∧ P i u) (ax_B sh D ca ad) (ax_As sh ad)
def ax_ws (y : MethodName) (cc : ByteArray) (mL : Nat) (ret : Option FieldType) : List Cond := Cond.code y cc mL ret :: ax_Ts
/-- a call of y with these arguments over this memory returns, and P of the answer and the memory then -/
def ax_C (sh : List ax_Sh) (y : MethodName) (cc : ByteArray) (mL : Nat) (ret : Option FieldType) (dp : Nat) (as : List ax_V) (M : ax_Mem) (P : Int → ax_Mem → Prop) : Prop :=
  ∀ (l : Launch) (D : va_G) (ca : Nat → ClassId) (ad : Nat → Nat), ax_I sh ad → ax_n sh M → (∀ v ∈ as, ax_vr v) →
    Met l y (ax_ws y cc mL ret) (ax_rm dp) (va_Pc (as.map (ax_c ad)) (fun U => va_P D ax_cl (ax_w sh ca ad M) U.heap ∧ va_K D ax_cl (ax_tys ca) U ∧ va_Nw ax_nest U)) (ax_Q sh ret D ca ad P) 0 0 (ax_As sh ad)
def ax_l (ad : Nat → Nat) (ls : List (Nat × ax_V)) : List (Nat × Value) := ls.map (fun q => (q.1, ax_c ad q.2))
/-- what stands fixed while a method's body runs -/
def ax_X (sh : List ax_Sh) (y : MethodName) (cc : ByteArray) (mL : Nat) (ret : Option FieldType) (p : Program) (s : State) (m : MethodId) (args : Array Value) (meth : Method) (c : Code) (D : va_G) (ca : Nat → ClassId) (ad : Nat → Nat) : Prop :=
  p.tables.exec = Jvm.exec ∧ c.code = cc ∧ meth.sig.returnType = ret ∧ c.maxLocals = mL ∧ meth.locks = false ∧ s.vm.findClass y.cls = some m.cls ∧ (∀ w ∈ ax_Ts, w.before args s = true) ∧ va_K D ax_cl (ax_tys ca) s ∧ ax_I sh ad ∧ va_Nw ax_nest s
/-- the body of y at pc with these locals, this stack, this memory comes to y's end, and P there -/
def ax_J (sh : List ax_Sh) (y : MethodName) (cc : ByteArray) (mL : Nat) (ret : Option FieldType) (dp : Nat) (P : Int → ax_Mem → Prop) (pc : Nat) (ls : List (Nat × ax_V)) (st : List ax_V) (M : ax_Mem) : Prop :=
  ∀ (p : Program) (l : Launch) (e : Env) (s : State) (m : MethodId) (args : Array Value) (below : List Frame) (meth : Method) (c : Code) (D : va_G) (ca : Nat → ClassId) (ad : Nat → Nat), ax_X sh y cc mL ret p s m args meth c D ca ad →
    ax_n sh M → (∀ v ∈ st, ax_vr v) → (∀ q ∈ ls, ax_vr q.2) → ∀ (H : Heap) (locs : List Loc) (lsA : Array Slot), va_P D ax_cl (ax_w sh ca ad M) H → va_S (ax_As sh ad) s.heap H locs → lv_has lsA mL (ax_l ad ls) →
    W p l e (ax_rm dp) s m args below meth c H locs 0 0 (MQ below (ax_Q sh ret D ca ad P) args s 0 0 (ax_As sh ad)) (F0 m pc lsA (st.map (ax_c ad)))
theorem ax_i32 {i : Int} (h : ax_r i) : (Int32.ofInt i).toInt = i := Int32.toInt_ofInt_of_le h.1 h.2
theorem ax_lt {a b : Int} (ha : ax_r a) (hb : ax_r b) : Int32.ofInt a < Int32.ofInt b ↔ a < b := by rw [Int32.lt_iff_toInt_lt, ax_i32 ha, ax_i32 hb]
theorem ax_le {a b : Int} (ha : ax_r a) (hb : ax_r b) : Int32.ofInt a ≤ Int32.ofInt b ↔ a ≤ b := by rw [Int32.le_iff_toInt_le, ax_i32 ha, ax_i32 hb]
theorem ax_eq {a b : Int} (ha : ax_r a) (hb : ax_r b) : Int32.ofInt a = Int32.ofInt b ↔ a = b := by rw [← Int32.toInt_inj, ax_i32 ha, ax_i32 hb]
theorem ax_cl0 {i : Int} (h : ax_r i) : (Int32.ofInt i).toNatClampNeg = i.toNat := by
  show (Int32.ofInt i).toInt.toNat = i.toNat
  rw [ax_i32 h]
theorem ax_in {i : Int} {n : Nat} (h : ax_r i) (h0 : 0 ≤ i) (h1 : i < n) : vp_in (Int32.ofInt i) n := by
  rw [vp_in_iff, ax_i32 h]
  exact ⟨h0, h1⟩
theorem ax_ofNat {i : Int} (h : 0 ≤ i) : Int32.ofInt i = nI i.toNat := by
  obtain ⟨n, rfl⟩ := Int.eq_ofNat_of_zero_le h
  rfl
theorem ax_lofNat {i : Int} (h : 0 ≤ i) : Int64.ofInt i = lN i.toNat := by
  obtain ⟨n, rfl⟩ := Int.eq_ofNat_of_zero_le h
  rfl
section AXJ
variable {sh : List ax_Sh} {y : MethodName} {cc : ByteArray} {mL : Nat} {ret : Option FieldType} {dp : Nat} {P : Int → ax_Mem → Prop} {pc : Nat} {ls : List (Nat × ax_V)} {st : List ax_V} {M : ax_Mem}
theorem ax_cr {i : Int} (h : ∀ v ∈ (.inl i :: st : List ax_V), ax_vr v) : ax_r i := h _ List.mem_cons_self
theorem ax_ct {v : ax_V} (h : ∀ w ∈ (v :: st : List ax_V), ax_vr w) : ∀ w ∈ st, ax_vr w := fun w hw => h w (List.mem_cons_of_mem _ hw)
theorem ax_cc {v : ax_V} (hv : ax_vr v) (h : ∀ w ∈ st, ax_vr w) : ∀ w ∈ (v :: st : List ax_V), ax_vr w := fun w hw => (List.mem_cons.mp hw).elim (fun e => e ▸ hv) (h w)
/-- fewer locals, in another order -/
theorem ax_sub {ls' : List (Nat × ax_V)} (ks : List Nat) (hl : ks.filterMap (fun k => ls[k]?) = ls') (k : ax_J sh y cc mL ret dp P pc ls' st M) : ax_J sh y cc mL ret dp P pc ls st M := by
  intro p l e s m args below meth c D ca ad X hn hs hq H locs lsA hP hS hl'
  have hsub : ∀ q ∈ ls', q ∈ ls := by
    intro q h
    rw [← hl] at h
    obtain ⟨i, -, hi⟩ := List.mem_filterMap.mp h
    exact List.mem_of_getElem? hi
  refine k p l e s m args below meth c D ca ad X hn hs (fun q h => hq q (hsub q h)) H locs lsA hP hS ⟨hl'.1, hl'.2.1, fun q h => ?_⟩
  obtain ⟨q0, h0, rfl⟩ := List.mem_map.mp h
  exact hl'.2.2 _ (List.mem_map.mpr ⟨q0, hsub q0 h0, rfl⟩)
/-- a step that leaves locals and memory -/
theorem ax_step {pc' : Nat} {st' : List ax_V} (hr : ax_n sh M → (∀ q ∈ ls, ax_vr q.2) → (∀ v ∈ st, ax_vr v) → ∀ v ∈ st', ax_vr v)
    (h : ∀ {p : Program} {l : Launch} {e : Env} {s : State} {m : MethodId} {args : Array Value} {below : List Frame} {meth : Method} {c : Code} {D : va_G} {ca : Nat → ClassId} {ad : Nat → Nat} {H : Heap} {locs : List Loc} {lsA : Array Slot} {Q : State → Prop}, ax_X sh y cc mL ret p s m args meth c D ca ad → ax_n sh M → (∀ v ∈ st, ax_vr v) → (∀ q ∈ ls, ax_vr q.2) → va_P D ax_cl (ax_w sh ca ad M) H → lv_has lsA mL (ax_l ad ls) →
      W p l e (ax_rm dp) s m args below meth c H locs 0 0 Q (F0 m pc' lsA (st'.map (ax_c ad))) → W p l e (ax_rm dp) s m args below meth c H locs 0 0 Q (F0 m pc lsA (st.map (ax_c ad))))
    (k : ax_J sh y cc mL ret dp P pc' ls st' M) : ax_J sh y cc mL ret dp P pc ls st M := by
  intro p l e s m args below meth c D ca ad X hn hs hq H locs lsA hP hS hl
  exact h X hn hs hq hP hl (k p l e s m args below meth c D ca ad X hn (hr hn hq hs) hq H locs lsA hP hS hl)
theorem ax_iconst {n : Int} (hd : decode cc pc = .ok (.iconst n, 1)) (hv : -1 ≤ n ∧ n ≤ 5) (k : ax_J sh y cc mL ret dp P (pc + 1) ls (.inl n :: st) M) : ax_J sh y cc mL ret dp P pc ls st M :=
  ax_step (fun _ _ h => ax_cc (v := .inl n) (show ax_r n from ⟨by omega, by omega⟩) h) (fun X _ _ _ _ _ w => lv_iconst X.1 X.2.1 hd rfl w) k
theorem ax_bipush {n : Int} (hd : decode cc pc = .ok (.bipush n, 2)) (hv : -128 ≤ n ∧ n < 128) (k : ax_J sh y cc mL ret dp P (pc + 2) ls (.inl n :: st) M) : ax_J sh y cc mL ret dp P pc ls st M := by
  refine ax_step (fun _ _ h => ax_cc (v := .inl n) (show ax_r n from ⟨by omega, by omega⟩) h) (fun X _ _ _ _ _ w => lv_bipush X.1 X.2.1 hd ?_ w) k
  have h1 : (Int8.ofInt n).toInt = n := Int8.toInt_ofInt_of_le (by omega) (by omega)
  apply Int32.toInt_inj.mp
  rw [ax_i32 ⟨by omega, by omega⟩, Int8.toInt_toInt32, h1]
theorem ax_sipush {n : Int} (hd : decode cc pc = .ok (.sipush n, 3)) (hv : -32768 ≤ n ∧ n < 32768) (k : ax_J sh y cc mL ret dp P (pc + 3) ls (.inl n :: st) M) : ax_J sh y cc mL ret dp P pc ls st M := by
  refine ax_step (fun _ _ h => ax_cc (v := .inl n) (show ax_r n from ⟨by omega, by omega⟩) h) (fun X _ _ _ _ _ w => lv_sipush X.1 X.2.1 hd ?_ w) k
  have h1 : (Int16.ofInt n).toInt = n := Int16.toInt_ofInt_of_le (by omega) (by omega)
  apply Int32.toInt_inj.mp
  rw [ax_i32 ⟨by omega, by omega⟩, Int16.toInt_toInt32, h1]
theorem ax_ldc {idx : Nat} {n : Int} (hd : decode cc pc = .ok (.ldc idx, 2)) (hc : Cond.constant y.cls idx (Int32.ofInt n) ∈ ax_Ts) (hv : ax_r n) (k : ax_J sh y cc mL ret dp P (pc + 2) ls (.inl n :: st) M) : ax_J sh y cc mL ret dp P pc ls st M :=
  ax_step (fun _ _ h => ax_cc (v := .inl n) hv h) (fun X _ _ _ _ _ w => lv_ldc X.1 X.2.1 X.2.2.2.2.2.1 (X.2.2.2.2.2.2.1 _ hc) hd w) k
theorem ax_ldc2 {idx : Nat} {n : Int} (hd : decode cc pc = .ok (.ldc2_w idx, 3)) (hc : Cond.constantLong y.cls idx (Int64.ofInt n) ∈ ax_Ts) (k : ax_J sh y cc mL ret dp P (pc + 3) ls (.inr (.inl n) :: st) M) : ax_J sh y cc mL ret dp P pc ls st M :=
  ax_step (fun _ _ h => ax_cc (v := .inr (.inl n)) trivial h) (fun X _ _ _ _ _ w => lv_ldc2 X.1 X.2.1 X.2.2.2.2.2.1 (X.2.2.2.2.2.2.1 _ hc) hd w) k
theorem ax_lconst {n : Fin 2} {i : Int} (hd : decode cc pc = .ok (.lconst n, 1)) (hi : i = (n.val : Int)) (k : ax_J sh y cc mL ret dp P (pc + 1) ls (.inr (.inl i) :: st) M) : ax_J sh y cc mL ret dp P pc ls st M := by
  subst hi
  exact ax_step (fun _ _ h => ax_cc (v := .inr (.inl (n.val : Int))) trivial h) (fun X _ _ _ _ _ w => lv_lconst X.1 X.2.1 hd rfl w) k
theorem ax_lat {ad : Nat → Nat} {lsA : Array Slot} {j i : Nat} {v : ax_V} (h : lv_has lsA mL (ax_l ad ls)) (hj : ls[j]? = some (i, v)) : lsA[i]? = some (.val (ax_c ad v)) :=
  h.2.2 (i, ax_c ad v) (List.mem_map.mpr ⟨(i, v), List.mem_of_getElem? hj, rfl⟩)
theorem ax_lvr {j i : Nat} {v : ax_V} (h : ∀ q ∈ ls, ax_vr q.2) (hj : ls[j]? = some (i, v)) : ax_vr v := h _ (List.mem_of_getElem? hj)
theorem ax_iloadn {q : Fin 4} {i : Nat} {x : Int} (j : Nat) (hd : decode cc pc = .ok (.iload_n q, 1)) (hi : q.val = i) (hj : ls[j]? = some (i, .inl x)) (k : ax_J sh y cc mL ret dp P (pc + 1) ls (.inl x :: st) M) : ax_J sh y cc mL ret dp P pc ls st M :=
  ax_step (fun _ hl h => ax_cc (ax_lvr hl hj) h) (fun X _ _ _ _ hl w => lv_iload_n X.1 X.2.1 hd hi (ax_lat hl hj) w) k
theorem ax_iload {i : Nat} {x : Int} (j : Nat) (hd : decode cc pc = .ok (.iload i, 2)) (hj : ls[j]? = some (i, .inl x)) (k : ax_J sh y cc mL ret dp P (pc + 2) ls (.inl x :: st) M) : ax_J sh y cc mL ret dp P pc ls st M :=
  ax_step (fun _ hl h => ax_cc (ax_lvr hl hj) h) (fun X _ _ _ _ hl w => lv_iload X.1 X.2.1 hd (ax_lat hl hj) w) k
theorem ax_lloadn {q : Fin 4} {i : Nat} {x : Int} (j : Nat) (hd : decode cc pc = .ok (.lload_n q, 1)) (hi : q.val = i) (hj : ls[j]? = some (i, .inr (.inl x))) (k : ax_J sh y cc mL ret dp P (pc + 1) ls (.inr (.inl x) :: st) M) : ax_J sh y cc mL ret dp P pc ls st M :=
  ax_step (fun _ hl h => ax_cc (ax_lvr hl hj) h) (fun X _ _ _ _ hl w => lv_lload_n X.1 X.2.1 hd hi (ax_lat hl hj) w) k
theorem ax_lload {i : Nat} {x : Int} (j : Nat) (hd : decode cc pc = .ok (.lload i, 2)) (hj : ls[j]? = some (i, .inr (.inl x))) (k : ax_J sh y cc mL ret dp P (pc + 2) ls (.inr (.inl x) :: st) M) : ax_J sh y cc mL ret dp P pc ls st M :=
  ax_step (fun _ hl h => ax_cc (ax_lvr hl hj) h) (fun X _ _ _ _ hl w => lv_lload X.1 X.2.1 hd (ax_lat hl hj) w) k
theorem ax_aloadn {q : Fin 4} {i : Nat} {x : Nat} (j : Nat) (hd : decode cc pc = .ok (.aload_n q, 1)) (hi : q.val = i) (hj : ls[j]? = some (i, .inr (.inr x))) (k : ax_J sh y cc mL ret dp P (pc + 1) ls (.inr (.inr x) :: st) M) : ax_J sh y cc mL ret dp P pc ls st M :=
  ax_step (fun _ hl h => ax_cc (ax_lvr hl hj) h) (fun X _ _ _ _ hl w => lv_aload_n X.1 X.2.1 hd hi (ax_lat hl hj) w) k
theorem ax_aload {i : Nat} {x : Nat} (j : Nat) (hd : decode cc pc = .ok (.aload i, 2)) (hj : ls[j]? = some (i, .inr (.inr x))) (k : ax_J sh y cc mL ret dp P (pc + 2) ls (.inr (.inr x) :: st) M) : ax_J sh y cc mL ret dp P pc ls st M :=
  ax_step (fun _ hl h => ax_cc (ax_lvr hl hj) h) (fun X _ _ _ _ hl w => lv_aload X.1 X.2.1 hd (ax_lat hl hj) w) k
theorem ax_cat (ad : Nat → Nat) (v : ax_V) : ((ax_c ad v).category == 2) = ax_lg v := by
  rcases v with i | i | k <;> rfl
theorem ax_fil (ad : Nat → Nat) (i : Nat) (v : ax_V) : (i, ax_c ad v) :: (ax_l ad ls).filter (fun q => !(q.1 == i) && !(q.1 + 1 == i && q.2.category == 2)) = ax_l ad ((i, v) :: ls.filter (fun q => !(q.1 == i) && !(q.1 + 1 == i && ax_lg q.2))) := by
  simp only [ax_l, List.map_cons, List.filter_map]
  congr 3
  funext q
  simp only [Function.comp, ax_cat]
theorem ax_fil2 (ad : Nat → Nat) (i : Nat) (v : ax_V) : (i, ax_c ad v) :: (ax_l ad ls).filter (fun q => !(q.1 == i) && (!(q.1 == i + 1) && !(q.1 + 1 == i && q.2.category == 2))) = ax_l ad ((i, v) :: ls.filter (fun q => !(q.1 == i) && (!(q.1 == i + 1) && !(q.1 + 1 == i && ax_lg q.2)))) := by
  simp only [ax_l, List.map_cons, List.filter_map]
  congr 3
  funext q
  simp only [Function.comp, ax_cat]
theorem ax_lsr {i : Nat} {v : ax_V} {f : Nat × ax_V → Bool} (hv : ax_vr v) (h : ∀ q ∈ ls, ax_vr q.2) : ∀ q ∈ ((i, v) :: ls.filter f), ax_vr q.2 := fun q hq => (List.mem_cons.mp hq).elim (fun e => by rw [e]; exact hv) (fun h2 => h q (List.mem_filter.mp h2).1)
theorem ax_istoren {q : Fin 4} {i : Nat} {x : Int} {ls' : List (Nat × ax_V)} (hd : decode cc pc = .ok (.istore_n q, 1)) (hi : q.val = i) (hm : i < mL) (hl' : (i, .inl x) :: ls.filter (fun q => !(q.1 == i) && !(q.1 + 1 == i && ax_lg q.2)) = ls') (k : ax_J sh y cc mL ret dp P (pc + 1) ls' st M) : ax_J sh y cc mL ret dp P pc ls (.inl x :: st) M := by
  intro p l e s m args below meth c D ca ad X hn hs hq H locs lsA hP hS hl
  refine lv_istore_n X.1 X.2.1 hd hi hl hm (ax_fil ad i (.inl x)) (fun ls2 h2 => ?_)
  rw [hl'] at h2
  exact k p l e s m args below meth c D ca ad X hn (ax_ct hs) (hl' ▸ ax_lsr (hs _ List.mem_cons_self) hq) H locs ls2 hP hS h2
theorem ax_istore {i : Nat} {x : Int} {ls' : List (Nat × ax_V)} (hd : decode cc pc = .ok (.istore i, 2)) (hm : i < mL) (hl' : (i, .inl x) :: ls.filter (fun q => !(q.1 == i) && !(q.1 + 1 == i && ax_lg q.2)) = ls') (k : ax_J sh y cc mL ret dp P (pc + 2) ls' st M) : ax_J sh y cc mL ret dp P pc ls (.inl x :: st) M := by
  intro p l e s m args below meth c D ca ad X hn hs hq H locs lsA hP hS hl
  refine lv_istore X.1 X.2.1 hd hl hm (ax_fil ad i (.inl x)) (fun ls2 h2 => ?_)
  rw [hl'] at h2
  exact k p l e s m args below meth c D ca ad X hn (ax_ct hs) (hl' ▸ ax_lsr (hs _ List.mem_cons_self) hq) H locs ls2 hP hS h2
theorem ax_lstoren {q : Fin 4} {i : Nat} {x : Int} {ls' : List (Nat × ax_V)} (hd : decode cc pc = .ok (.lstore_n q, 1)) (hi : q.val = i) (hm : i + 1 < mL) (hl' : (i, .inr (.inl x)) :: ls.filter (fun q => !(q.1 == i) && (!(q.1 == i + 1) && !(q.1 + 1 == i && ax_lg q.2))) = ls') (k : ax_J sh y cc mL ret dp P (pc + 1) ls' st M) : ax_J sh y cc mL ret dp P pc ls (.inr (.inl x) :: st) M := by
  intro p l e s m args below meth c D ca ad X hn hs hq H locs lsA hP hS hl
  refine lv_lstore_n X.1 X.2.1 hd hi hl hm (ax_fil2 ad i (.inr (.inl x))) (fun ls2 h2 => ?_)
  rw [hl'] at h2
  exact k p l e s m args below meth c D ca ad X hn (ax_ct hs) (hl' ▸ ax_lsr (hs _ List.mem_cons_self) hq) H locs ls2 hP hS h2
theorem ax_lstore {i : Nat} {x : Int} {ls' : List (Nat × ax_V)} (hd : decode cc pc = .ok (.lstore i, 2)) (hm : i + 1 < mL) (hl' : (i, .inr (.inl x)) :: ls.filter (fun q => !(q.1 == i) && (!(q.1 == i + 1) && !(q.1 + 1 == i && ax_lg q.2))) = ls') (k : ax_J sh y cc mL ret dp P (pc + 2) ls' st M) : ax_J sh y cc mL ret dp P pc ls (.inr (.inl x) :: st) M := by
  intro p l e s m args below meth c D ca ad X hn hs hq H locs lsA hP hS hl
  refine lv_lstore X.1 X.2.1 hd hl hm (ax_fil2 ad i (.inr (.inl x))) (fun ls2 h2 => ?_)
  rw [hl'] at h2
  exact k p l e s m args below meth c D ca ad X hn (ax_ct hs) (hl' ▸ ax_lsr (hs _ List.mem_cons_self) hq) H locs ls2 hP hS h2
theorem ax_iinc {i j : Nat} {n : Int} {x : Int} {ls' : List (Nat × ax_V)} (hd : decode cc pc = .ok (.iinc i n, 3)) (hj : ls[j]? = some (i, .inl x)) (hm : i < mL) (hr : ax_r (x + n)) (hl' : (i, .inl (x + n)) :: ls.filter (fun q => !(q.1 == i) && !(q.1 + 1 == i && ax_lg q.2)) = ls') (k : ax_J sh y cc mL ret dp P (pc + 3) ls' st M) : ax_J sh y cc mL ret dp P pc ls st M := by
  intro p l e s m args below meth c D ca ad X hn hs hq H locs lsA hP hS hl
  have hk : (ax_l ad ls)[j]? = some (i, .int (Int32.ofInt x)) := by
    simp only [ax_l, List.getElem?_map, hj]
    rfl
  refine lv_iinc (v := Int32.ofInt (x + n)) X.1 X.2.1 hd hl hk (by rw [Int32.ofInt_add]) hm (ax_fil ad i (.inl (x + n))) (fun ls2 h2 => ?_)
  rw [hl'] at h2
  exact k p l e s m args below meth c D ca ad X hn hs (hl' ▸ ax_lsr hr hq) H locs ls2 hP hS h2
end AXJ
end
section
section AXK
variable {sh : List ax_Sh} {y : MethodName} {cc : ByteArray} {mL : Nat} {ret : Option FieldType} {dp : Nat} {P : Int → ax_Mem → Prop} {pc : Nat} {ls : List (Nat × ax_V)} {st : List ax_V} {M : ax_Mem}
theorem ax_iadd {a b : Int} (hd : decode cc pc = .ok (.iadd, 1)) (hr : ax_r (a + b)) (k : ax_J sh y cc mL ret dp P (pc + 1) ls (.inl (a + b) :: st) M) : ax_J sh y cc mL ret dp P pc ls (.inl b :: .inl a :: st) M :=
  ax_step (fun _ _ h => ax_cc (v := .inl (a + b)) hr (ax_ct (ax_ct h))) (fun X _ _ _ _ _ w => lv_iadd X.1 X.2.1 hd (by rw [← Int32.ofInt_add]; exact w)) k
theorem ax_isub {a b : Int} (hd : decode cc pc = .ok (.isub, 1)) (hr : ax_r (a - b)) (k : ax_J sh y cc mL ret dp P (pc + 1) ls (.inl (a - b) :: st) M) : ax_J sh y cc mL ret dp P pc ls (.inl b :: .inl a :: st) M :=
  ax_step (fun _ _ h => ax_cc (v := .inl (a - b)) hr (ax_ct (ax_ct h))) (fun X _ _ _ _ _ w => lv_isub X.1 X.2.1 hd (by rw [← Int32.ofInt_sub]; exact w)) k
theorem ax_imul {a b : Int} (hd : decode cc pc = .ok (.imul, 1)) (hr : ax_r (a * b)) (k : ax_J sh y cc mL ret dp P (pc + 1) ls (.inl (a * b) :: st) M) : ax_J sh y cc mL ret dp P pc ls (.inl b :: .inl a :: st) M :=
  ax_step (fun _ _ h => ax_cc (v := .inl (a * b)) hr (ax_ct (ax_ct h))) (fun X _ _ _ _ _ w => lv_imul X.1 X.2.1 hd (by rw [← Int32.ofInt_mul]; exact w)) k
theorem ax_ineg {a : Int} (hd : decode cc pc = .ok (.ineg, 1)) (hr : ax_r (-a)) (k : ax_J sh y cc mL ret dp P (pc + 1) ls (.inl (-a) :: st) M) : ax_J sh y cc mL ret dp P pc ls (.inl a :: st) M :=
  ax_step (fun _ _ h => ax_cc (v := .inl (-a)) hr (ax_ct h)) (fun X _ _ _ _ _ w => lv_ineg X.1 X.2.1 hd (by first | (rw [← Int32.ofInt_neg]; exact w) | (have e : (0 : Int32) - Int32.ofInt a = Int32.ofInt (-a) := by (rw [Int32.ofInt_neg]; simp); rw [e]; exact w))) k
theorem ax_divE {a b : Int} (ha : ax_r a) (hb : ax_r b) (h0 : 0 ≤ a) (h1 : 0 < b) : Int32.ofInt a / Int32.ofInt b = Int32.ofInt (a / b) ∧ Int32.ofInt a - Int32.ofInt a / Int32.ofInt b * Int32.ofInt b = Int32.ofInt (a % b) ∧ ¬ Int32.ofInt b = 0 := by
  have hb0 : ¬ Int32.ofInt b = 0 := fun h => by
    have h2 := ax_i32 hb
    rw [h] at h2
    have h3 : (0 : Int32).toInt = 0 := rfl
    omega
  obtain ⟨n, rfl⟩ := Int.eq_ofNat_of_zero_le h0
  obtain ⟨d, rfl⟩ := Int.eq_ofNat_of_zero_le (Int.le_of_lt h1)
  obtain ⟨ha1, ha2⟩ := ha
  obtain ⟨hb1, hb2⟩ := hb
  have e1 : nI n / nI d = nI (n / d) := pk_div (by omega) (by omega) (by omega)
  have e2 : nI n - nI n / nI d * nI d = nI (n % d) := pk_rem (by omega) (by omega) (by omega)
  exact ⟨e1, e2, hb0⟩
theorem ax_idiv {a b : Int} (hd : decode cc pc = .ok (.idiv, 1)) (h0 : 0 ≤ a) (h1 : 0 < b) (k : ax_J sh y cc mL ret dp P (pc + 1) ls (.inl (a / b) :: st) M) : ax_J sh y cc mL ret dp P pc ls (.inl b :: .inl a :: st) M := by
  intro p l e s m args below meth c D ca ad X hn hs hq H locs lsA hP hS hl
  have hb := ax_cr hs
  have ha := ax_cr (ax_ct hs)
  obtain ⟨e1, e2, e3⟩ := ax_divE ha hb h0 h1
  refine lv_idiv X.1 X.2.1 hd e3 ?_
  rw [e1]
  have hr : ax_r (a / b) := ⟨by have := Int.ediv_nonneg h0 (Int.le_of_lt h1); omega, by have := Int.ediv_le_self b h0; have := ha.2; omega⟩
  exact k p l e s m args below meth c D ca ad X hn (ax_cc (v := .inl (a / b)) hr (ax_ct (ax_ct hs))) hq H locs lsA hP hS hl
theorem ax_irem {a b : Int} (hd : decode cc pc = .ok (.irem, 1)) (h0 : 0 ≤ a) (h1 : 0 < b) (k : ax_J sh y cc mL ret dp P (pc + 1) ls (.inl (a % b) :: st) M) : ax_J sh y cc mL ret dp P pc ls (.inl b :: .inl a :: st) M := by
  intro p l e s m args below meth c D ca ad X hn hs hq H locs lsA hP hS hl
  have hb := ax_cr hs
  have ha := ax_cr (ax_ct hs)
  obtain ⟨e1, e2, e3⟩ := ax_divE ha hb h0 h1
  refine lv_irem X.1 X.2.1 hd e3 ?_
  rw [e2]
  have hr : ax_r (a % b) := ⟨by have := Int.emod_nonneg a (show b ≠ 0 by omega); omega, by have := Int.emod_lt_of_pos a h1; have := hb.2; omega⟩
  exact k p l e s m args below meth c D ca ad X hn (ax_cc (v := .inl (a % b)) hr (ax_ct (ax_ct hs))) hq H locs lsA hP hS hl
theorem ax_ladd {a b : Int} (hd : decode cc pc = .ok (.ladd, 1)) (k : ax_J sh y cc mL ret dp P (pc + 1) ls (.inr (.inl (a + b)) :: st) M) : ax_J sh y cc mL ret dp P pc ls (.inr (.inl b) :: .inr (.inl a) :: st) M :=
  ax_step (fun _ _ h => ax_cc (v := .inr (.inl (a + b))) trivial (ax_ct (ax_ct h))) (fun X _ _ _ _ _ w => lv_ladd X.1 X.2.1 hd (by rw [← Int64.ofInt_add]; exact w)) k
theorem ax_lmul {a b : Int} (hd : decode cc pc = .ok (.lmul, 1)) (k : ax_J sh y cc mL ret dp P (pc + 1) ls (.inr (.inl (a * b)) :: st) M) : ax_J sh y cc mL ret dp P pc ls (.inr (.inl b) :: .inr (.inl a) :: st) M :=
  ax_step (fun _ _ h => ax_cc (v := .inr (.inl (a * b))) trivial (ax_ct (ax_ct h))) (fun X _ _ _ _ _ w => lv_lmul X.1 X.2.1 hd (by rw [← Int64.ofInt_mul]; exact w)) k
theorem ax_i2l {a : Int} (hd : decode cc pc = .ok (.i2l, 1)) (k : ax_J sh y cc mL ret dp P (pc + 1) ls (.inr (.inl a) :: st) M) : ax_J sh y cc mL ret dp P pc ls (.inl a :: st) M := by
  intro p l e s m args below meth c D ca ad X hn hs hq H locs lsA hP hS hl
  have ha := ax_cr hs
  have e1 : (Int32.ofInt a).toInt64 = Int64.ofInt a := Int32.toInt64_ofInt ha.1 (by have := ha.2; show a ≤ 2147483647; omega)
  exact lv_i2l X.1 X.2.1 hd e1 (k p l e s m args below meth c D ca ad X hn (ax_cc (v := .inr (.inl a)) trivial (ax_ct hs)) hq H locs lsA hP hS hl)
theorem ax_l2i {a : Int} (hd : decode cc pc = .ok (.l2i, 1)) (hr : ax_r a) (k : ax_J sh y cc mL ret dp P (pc + 1) ls (.inl a :: st) M) : ax_J sh y cc mL ret dp P pc ls (.inr (.inl a) :: st) M :=
  ax_step (fun _ _ h => ax_cc (v := .inl a) hr (ax_ct h)) (fun X _ _ _ _ _ w => lv_l2i X.1 X.2.1 hd Int64.toInt32_ofInt w) k
theorem ax_icmp_eq {a b : Int} {off : Int} {tgt : Nat} (hd : decode cc pc = .ok (.if_icmp .eq off, 3)) (ht : (pc : Int) + off = (tgt : Int)) (kt : a = b → ax_J sh y cc mL ret dp P tgt ls st M) (kf : ¬ a = b → ax_J sh y cc mL ret dp P (pc + 3) ls st M) : ax_J sh y cc mL ret dp P pc ls (.inl b :: .inl a :: st) M := by
  intro p l e s m args below meth c D ca ad X hn hs hq H locs lsA hP hS hl
  have hb := ax_cr hs
  have ha := ax_cr (ax_ct hs)
  exact lv_icmp_eq X.1 X.2.1 hd ht (fun h => kt ((ax_eq ha hb).mp h) p l e s m args below meth c D ca ad X hn (ax_ct (ax_ct hs)) hq H locs lsA hP hS hl) (fun h => kf ((not_congr (ax_eq ha hb)).mp h) p l e s m args below meth c D ca ad X hn (ax_ct (ax_ct hs)) hq H locs lsA hP hS hl)
theorem ax_icmp_ne {a b : Int} {off : Int} {tgt : Nat} (hd : decode cc pc = .ok (.if_icmp .ne off, 3)) (ht : (pc : Int) + off = (tgt : Int)) (kt : ¬ a = b → ax_J sh y cc mL ret dp P tgt ls st M) (kf : a = b → ax_J sh y cc mL ret dp P (pc + 3) ls st M) : ax_J sh y cc mL ret dp P pc ls (.inl b :: .inl a :: st) M := by
  intro p l e s m args below meth c D ca ad X hn hs hq H locs lsA hP hS hl
  have hb := ax_cr hs
  have ha := ax_cr (ax_ct hs)
  exact lv_icmp_ne X.1 X.2.1 hd ht (fun h => kt ((not_congr (ax_eq ha hb)).mp h) p l e s m args below meth c D ca ad X hn (ax_ct (ax_ct hs)) hq H locs lsA hP hS hl) (fun h => kf ((ax_eq ha hb).mp h) p l e s m args below meth c D ca ad X hn (ax_ct (ax_ct hs)) hq H locs lsA hP hS hl)
theorem ax_icmp_lt {a b : Int} {off : Int} {tgt : Nat} (hd : decode cc pc = .ok (.if_icmp .lt off, 3)) (ht : (pc : Int) + off = (tgt : Int)) (kt : a < b → ax_J sh y cc mL ret dp P tgt ls st M) (kf : ¬ a < b → ax_J sh y cc mL ret dp P (pc + 3) ls st M) : ax_J sh y cc mL ret dp P pc ls (.inl b :: .inl a :: st) M := by
  intro p l e s m args below meth c D ca ad X hn hs hq H locs lsA hP hS hl
  have hb := ax_cr hs
  have ha := ax_cr (ax_ct hs)
  exact lv_icmp_lt X.1 X.2.1 hd ht (fun h => kt ((ax_lt ha hb).mp h) p l e s m args below meth c D ca ad X hn (ax_ct (ax_ct hs)) hq H locs lsA hP hS hl) (fun h => kf ((not_congr (ax_lt ha hb)).mp h) p l e s m args below meth c D ca ad X hn (ax_ct (ax_ct hs)) hq H locs lsA hP hS hl)
theorem ax_icmp_ge {a b : Int} {off : Int} {tgt : Nat} (hd : decode cc pc = .ok (.if_icmp .ge off, 3)) (ht : (pc : Int) + off = (tgt : Int)) (kt : b ≤ a → ax_J sh y cc mL ret dp P tgt ls st M) (kf : ¬ b ≤ a → ax_J sh y cc mL ret dp P (pc + 3) ls st M) : ax_J sh y cc mL ret dp P pc ls (.inl b :: .inl a :: st) M := by
  intro p l e s m args below meth c D ca ad X hn hs hq H locs lsA hP hS hl
  have hb := ax_cr hs
  have ha := ax_cr (ax_ct hs)
  exact lv_icmp_ge X.1 X.2.1 hd ht (fun h => kt ((ax_le hb ha).mp h) p l e s m args below meth c D ca ad X hn (ax_ct (ax_ct hs)) hq H locs lsA hP hS hl) (fun h => kf ((not_congr (ax_le hb ha)).mp h) p l e s m args below meth c D ca ad X hn (ax_ct (ax_ct hs)) hq H locs lsA hP hS hl)
theorem ax_icmp_gt {a b : Int} {off : Int} {tgt : Nat} (hd : decode cc pc = .ok (.if_icmp .gt off, 3)) (ht : (pc : Int) + off = (tgt : Int)) (kt : b < a → ax_J sh y cc mL ret dp P tgt ls st M) (kf : ¬ b < a → ax_J sh y cc mL ret dp P (pc + 3) ls st M) : ax_J sh y cc mL ret dp P pc ls (.inl b :: .inl a :: st) M := by
  intro p l e s m args below meth c D ca ad X hn hs hq H locs lsA hP hS hl
  have hb := ax_cr hs
  have ha := ax_cr (ax_ct hs)
  exact lv_icmp_gt X.1 X.2.1 hd ht (fun h => kt ((ax_lt hb ha).mp h) p l e s m args below meth c D ca ad X hn (ax_ct (ax_ct hs)) hq H locs lsA hP hS hl) (fun h => kf ((not_congr (ax_lt hb ha)).mp h) p l e s m args below meth c D ca ad X hn (ax_ct (ax_ct hs)) hq H locs lsA hP hS hl)
theorem ax_icmp_le {a b : Int} {off : Int} {tgt : Nat} (hd : decode cc pc = .ok (.if_icmp .le off, 3)) (ht : (pc : Int) + off = (tgt : Int)) (kt : a ≤ b → ax_J sh y cc mL ret dp P tgt ls st M) (kf : ¬ a ≤ b → ax_J sh y cc mL ret dp P (pc + 3) ls st M) : ax_J sh y cc mL ret dp P pc ls (.inl b :: .inl a :: st) M := by
  intro p l e s m args below meth c D ca ad X hn hs hq H locs lsA hP hS hl
  have hb := ax_cr hs
  have ha := ax_cr (ax_ct hs)
  exact lv_icmp_le X.1 X.2.1 hd ht (fun h => kt ((ax_le ha hb).mp h) p l e s m args below meth c D ca ad X hn (ax_ct (ax_ct hs)) hq H locs lsA hP hS hl) (fun h => kf ((not_congr (ax_le ha hb)).mp h) p l e s m args below meth c D ca ad X hn (ax_ct (ax_ct hs)) hq H locs lsA hP hS hl)
theorem ax_if_eq {a : Int} {off : Int} {tgt : Nat} (hd : decode cc pc = .ok (.ifCond .eq off, 3)) (ht : (pc : Int) + off = (tgt : Int)) (kt : a = 0 → ax_J sh y cc mL ret dp P tgt ls st M) (kf : ¬ a = 0 → ax_J sh y cc mL ret dp P (pc + 3) ls st M) : ax_J sh y cc mL ret dp P pc ls (.inl a :: st) M := by
  intro p l e s m args below meth c D ca ad X hn hs hq H locs lsA hP hS hl
  have ha := ax_cr hs
  have hb : ax_r 0 := ⟨by omega, by omega⟩
  exact lv_if_eq X.1 X.2.1 hd ht (fun h => kt ((ax_eq ha hb).mp h) p l e s m args below meth c D ca ad X hn (ax_ct hs) hq H locs lsA hP hS hl) (fun h => kf ((not_congr (ax_eq ha hb)).mp h) p l e s m args below meth c D ca ad X hn (ax_ct hs) hq H locs lsA hP hS hl)
theorem ax_if_ne {a : Int} {off : Int} {tgt : Nat} (hd : decode cc pc = .ok (.ifCond .ne off, 3)) (ht : (pc : Int) + off = (tgt : Int)) (kt : ¬ a = 0 → ax_J sh y cc mL ret dp P tgt ls st M) (kf : a = 0 → ax_J sh y cc mL ret dp P (pc + 3) ls st M) : ax_J sh y cc mL ret dp P pc ls (.inl a :: st) M := by
  intro p l e s m args below meth c D ca ad X hn hs hq H locs lsA hP hS hl
  have ha := ax_cr hs
  have hb : ax_r 0 := ⟨by omega, by omega⟩
  exact lv_if_ne X.1 X.2.1 hd ht (fun h => kt ((not_congr (ax_eq ha hb)).mp h) p l e s m args below meth c D ca ad X hn (ax_ct hs) hq H locs lsA hP hS hl) (fun h => kf ((ax_eq ha hb).mp h) p l e s m args below meth c D ca ad X hn (ax_ct hs) hq H locs lsA hP hS hl)
theorem ax_if_lt {a : Int} {off : Int} {tgt : Nat} (hd : decode cc pc = .ok (.ifCond .lt off, 3)) (ht : (pc : Int) + off = (tgt : Int)) (kt : a < 0 → ax_J sh y cc mL ret dp P tgt ls st M) (kf : ¬ a < 0 → ax_J sh y cc mL ret dp P (pc + 3) ls st M) : ax_J sh y cc mL ret dp P pc ls (.inl a :: st) M := by
  intro p l e s m args below meth c D ca ad X hn hs hq H locs lsA hP hS hl
  have ha := ax_cr hs
  have hb : ax_r 0 := ⟨by omega, by omega⟩
  exact lv_if_lt X.1 X.2.1 hd ht (fun h => kt ((ax_lt ha hb).mp h) p l e s m args below meth c D ca ad X hn (ax_ct hs) hq H locs lsA hP hS hl) (fun h => kf ((not_congr (ax_lt ha hb)).mp h) p l e s m args below meth c D ca ad X hn (ax_ct hs) hq H locs lsA hP hS hl)
theorem ax_if_ge {a : Int} {off : Int} {tgt : Nat} (hd : decode cc pc = .ok (.ifCond .ge off, 3)) (ht : (pc : Int) + off = (tgt : Int)) (kt : 0 ≤ a → ax_J sh y cc mL ret dp P tgt ls st M) (kf : ¬ 0 ≤ a → ax_J sh y cc mL ret dp P (pc + 3) ls st M) : ax_J sh y cc mL ret dp P pc ls (.inl a :: st) M := by
  intro p l e s m args below meth c D ca ad X hn hs hq H locs lsA hP hS hl
  have ha := ax_cr hs
  have hb : ax_r 0 := ⟨by omega, by omega⟩
  exact lv_if_ge X.1 X.2.1 hd ht (fun h => kt ((ax_le hb ha).mp h) p l e s m args below meth c D ca ad X hn (ax_ct hs) hq H locs lsA hP hS hl) (fun h => kf ((not_congr (ax_le hb ha)).mp h) p l e s m args below meth c D ca ad X hn (ax_ct hs) hq H locs lsA hP hS hl)
theorem ax_if_gt {a : Int} {off : Int} {tgt : Nat} (hd : decode cc pc = .ok (.ifCond .gt off, 3)) (ht : (pc : Int) + off = (tgt : Int)) (kt : 0 < a → ax_J sh y cc mL ret dp P tgt ls st M) (kf : ¬ 0 < a → ax_J sh y cc mL ret dp P (pc + 3) ls st M) : ax_J sh y cc mL ret dp P pc ls (.inl a :: st) M := by
  intro p l e s m args below meth c D ca ad X hn hs hq H locs lsA hP hS hl
  have ha := ax_cr hs
  have hb : ax_r 0 := ⟨by omega, by omega⟩
  exact lv_if_gt X.1 X.2.1 hd ht (fun h => kt ((ax_lt hb ha).mp h) p l e s m args below meth c D ca ad X hn (ax_ct hs) hq H locs lsA hP hS hl) (fun h => kf ((not_congr (ax_lt hb ha)).mp h) p l e s m args below meth c D ca ad X hn (ax_ct hs) hq H locs lsA hP hS hl)
theorem ax_if_le {a : Int} {off : Int} {tgt : Nat} (hd : decode cc pc = .ok (.ifCond .le off, 3)) (ht : (pc : Int) + off = (tgt : Int)) (kt : a ≤ 0 → ax_J sh y cc mL ret dp P tgt ls st M) (kf : ¬ a ≤ 0 → ax_J sh y cc mL ret dp P (pc + 3) ls st M) : ax_J sh y cc mL ret dp P pc ls (.inl a :: st) M := by
  intro p l e s m args below meth c D ca ad X hn hs hq H locs lsA hP hS hl
  have ha := ax_cr hs
  have hb : ax_r 0 := ⟨by omega, by omega⟩
  exact lv_if_le X.1 X.2.1 hd ht (fun h => kt ((ax_le ha hb).mp h) p l e s m args below meth c D ca ad X hn (ax_ct hs) hq H locs lsA hP hS hl) (fun h => kf ((not_congr (ax_le ha hb)).mp h) p l e s m args below meth c D ca ad X hn (ax_ct hs) hq H locs lsA hP hS hl)
theorem ax_goto {off : Int} {tgt : Nat} (hd : decode cc pc = .ok (.goto off, 3)) (ht : (pc : Int) + off = (tgt : Int)) (k : ax_J sh y cc mL ret dp P tgt ls st M) : ax_J sh y cc mL ret dp P pc ls st M :=
  ax_step (fun _ _ h => h) (fun X _ _ _ _ _ w => lv_goto X.1 X.2.1 hd ht w) k
theorem ax_dup {v : ax_V} (hd : decode cc pc = .ok (.dup, 1)) (hv : ax_lg v = false) (k : ax_J sh y cc mL ret dp P (pc + 1) ls (v :: v :: st) M) : ax_J sh y cc mL ret dp P pc ls (v :: st) M :=
  ax_step (fun _ _ h => ax_cc (h _ List.mem_cons_self) h) (fun X _ _ _ _ _ w => lv_dup X.1 X.2.1 hd (by rcases v with i | i | q <;> first | rfl | cases hv) w) k
theorem ax_dup2 {v u : ax_V} (hd : decode cc pc = .ok (.dup2, 1)) (hv : ax_lg v = false) (hu : ax_lg u = false) (k : ax_J sh y cc mL ret dp P (pc + 1) ls (v :: u :: v :: u :: st) M) : ax_J sh y cc mL ret dp P pc ls (v :: u :: st) M :=
  ax_step (fun _ _ h => ax_cc (h _ List.mem_cons_self) (ax_cc (h _ (List.mem_cons_of_mem _ List.mem_cons_self)) h)) (fun X _ _ _ _ _ w => lv_dup2_11 X.1 X.2.1 hd (by rcases v with i | i | q <;> first | rfl | cases hv) (by rcases u with i | i | q <;> first | rfl | cases hu) w) k
end AXK
end
section
/-! fields and arrays -/
section AXM
variable {sh : List ax_Sh} {y : MethodName} {cc : ByteArray} {mL : Nat} {ret : Option FieldType} {dp : Nat} {P : Int → ax_Mem → Prop} {pc : Nat} {ls : List (Nat × ax_V)} {st : List ax_V} {M : ax_Mem}
/-- the entry idx of own's file is the field j of the class ci -/
def ax_FL (own : String) (idx ci j : Nat) : Prop := ∃ r : vw_C, ax_cl[ci]? = some r ∧ j < r.2.2 ∧ Cond.fieldLink own idx (r.2.1 j).1 (r.2.1 j).2.1 (r.2.1 j).2.2.1 ∈ ax_Ts ∧ (∀ w ∈ u_ws r.1 r.2.1 r.2.2, w ∈ ax_Ts)
/-- and it may be written: its type -/
def ax_FP (own : String) (idx ci j : Nat) (ty : FieldType) : Prop := ∃ r : vw_C, ax_cl[ci]? = some r ∧ j < r.2.2 ∧ Cond.fieldLink own idx (r.2.1 j).1 (r.2.1 j).2.1 (r.2.1 j).2.2.1 ∈ ax_Ts ∧ (∀ w ∈ u_ws r.1 r.2.1 r.2.2, w ∈ ax_Ts) ∧ (r.2.1 j).2.2.2 = false ∧ parseFieldDescriptor (r.2.1 j).2.2.1 = some ty ∧ (∃ ty0 : Nat → FieldType, ∀ k, k < r.2.2 → parseFieldDescriptor (r.2.1 k).2.2.1 = some (ty0 k)) ∧ (∀ a, a < r.2.2 → ∀ b, b < r.2.2 → a ≠ b → (r.2.1 a).2.1 ≠ (r.2.1 b).2.1)
theorem ax_nr {k j ci : Nat} {fs : List (Option (Option Nat))} (hn : ax_n sh M) (hs : sh[k]? = some (.inr (.inr (ci, fs)))) (hf : fs[j]? = some none) : ax_r (M k j) := hn k j (by simp [ax_isl, hs, hf])
theorem ax_na {k t n : Nat} (j : Nat) (hn : ax_n sh M) (hs : sh[k]? = some (.inl (t, n))) : ax_r (M k j) := hn k j (by simp [ax_isl, hs])
theorem ax_fg {ad : Nat → Nat} {f : Nat → Int} {fs : List (Option (Option Nat))} {j : Nat} {o : Option (Option Nat)} (h : fs[j]? = some o) : (fs.mapIdx (ax_f ad f))[j]? = some (ax_f ad f j o) := by
  simp [List.getElem?_mapIdx, h]
theorem ax_getv {idx ci j k : Nat} {fs : List (Option (Option Nat))} {o : Option (Option Nat)} {v : ax_V} (hd : decode cc pc = .ok (.getfield idx, 3)) (hl : ax_FL y.cls idx ci j) (hs : sh[k]? = some (.inr (.inr (ci, fs)))) (hf : fs[j]? = some o) (hv : ∀ ad, ax_f ad (M k) j o = ax_c ad v) (hr : ax_n sh M → ax_vr v) (kk : ax_J sh y cc mL ret dp P (pc + 3) ls (v :: st) M) : ax_J sh y cc mL ret dp P pc ls (.inr (.inr k) :: st) M := by
  obtain ⟨r, h1, h2, h3, h4⟩ := hl
  refine ax_step (st' := v :: st) (fun hn _ h => ax_cc (hr hn) (ax_ct h)) (fun {p} {l} {e} {s} {m} {args} {below} {meth} {c} {D} {ca} {ad} {H} {locs} {lsA} {Q} X _ _ _ hP _ w => ?_) kk
  exact va_get (D := D) (ci := ci) (C := r.1) (T := r.2.1) (N := r.2.2) (v := ax_c ad v) X.1 X.2.1 X.2.2.2.2.2.2.1 h4 X.2.2.2.2.2.1 X.2.2.2.2.2.2.2.1 hP k (ax_w_get hs) h1 j h2 (X.2.2.2.2.2.2.1 _ h3) (fun _ h9 => h9) (by rw [ax_fg hf, hv ad]) hd w
theorem ax_geti {idx ci j k : Nat} {fs : List (Option (Option Nat))} (hd : decode cc pc = .ok (.getfield idx, 3)) (hl : ax_FL y.cls idx ci j) (hs : sh[k]? = some (.inr (.inr (ci, fs)))) (hf : fs[j]? = some none) (kk : ax_J sh y cc mL ret dp P (pc + 3) ls (.inl (M k j) :: st) M) : ax_J sh y cc mL ret dp P pc ls (.inr (.inr k) :: st) M :=
  ax_getv (v := .inl (M k j)) hd hl hs hf (fun _ => rfl) (fun hn => ax_nr hn hs hf) kk
theorem ax_getl {idx ci j k : Nat} {fs : List (Option (Option Nat))} (hd : decode cc pc = .ok (.getfield idx, 3)) (hl : ax_FL y.cls idx ci j) (hs : sh[k]? = some (.inr (.inr (ci, fs)))) (hf : fs[j]? = some (some none)) (kk : ax_J sh y cc mL ret dp P (pc + 3) ls (.inr (.inl (M k j)) :: st) M) : ax_J sh y cc mL ret dp P pc ls (.inr (.inr k) :: st) M :=
  ax_getv (v := .inr (.inl (M k j))) hd hl hs hf (fun _ => rfl) (fun _ => trivial) kk
theorem ax_getr {idx ci j k r : Nat} {fs : List (Option (Option Nat))} (hd : decode cc pc = .ok (.getfield idx, 3)) (hl : ax_FL y.cls idx ci j) (hs : sh[k]? = some (.inr (.inr (ci, fs)))) (hf : fs[j]? = some (some (some r))) (kk : ax_J sh y cc mL ret dp P (pc + 3) ls (.inr (.inr r) :: st) M) : ax_J sh y cc mL ret dp P pc ls (.inr (.inr k) :: st) M :=
  ax_getv (v := .inr (.inr r)) hd hl hs hf (fun _ => rfl) (fun _ => trivial) kk
theorem ax_u_at (M : ax_Mem) (k j : Nat) (v : Int) : ax_u M k j v k j = v := by simp [ax_u]
theorem ax_u_ne {M : ax_Mem} {k j a b : Nat} {v : Int} (h : a = k → b ≠ j) : ax_u M k j v a b = M a b := by
  unfold ax_u
  by_cases h1 : a = k
  · simp [h1, h h1]
  · simp [h1]
theorem ax_u_cell {M : ax_Mem} {k j a : Nat} {v : Int} (h : a ≠ k) : ax_u M k j v a = M a := by simp [ax_u, h]
theorem ax_u_n {k j : Nat} {v : Int} (hn : ax_n sh M) (hv : ax_isl sh k j = false → ax_r v) : ax_n sh (ax_u M k j v) := by
  intro a b h
  by_cases h1 : a = k
  · by_cases h2 : b = j
    · subst h1; subst h2
      rw [ax_u_at]; exact hv h
    · rw [ax_u_ne (fun _ => h2)]; exact hn a b h
  · rw [ax_u_ne (fun q => absurd q h1)]; exact hn a b h
theorem ax_fs_set {ad : Nat → Nat} {M : ax_Mem} {fs : List (Option (Option Nat))} {k j : Nat} {o : Option (Option Nat)} {v : Int} {w : Value} (h : fs[j]? = some o) (hw : ∀ f : Nat → Int, f j = v → ax_f ad f j o = w) : (fs.mapIdx (ax_f ad (M k))).set j w = fs.mapIdx (ax_f ad (ax_u M k j v k)) := by
  have hj := (List.getElem?_eq_some_iff.mp h).1
  apply List.ext_getElem?
  intro i
  by_cases hi : i = j
  · subst hi
    rw [List.getElem?_set_self (by simpa using hj), ax_fg h, hw _ (ax_u_at M k i v)]
  · rw [List.getElem?_set_ne (Ne.symm hi)]
    simp only [List.getElem?_mapIdx]
    cases hq : fs[i]? with
    | none => rfl
    | some o2 =>
      have e : ax_u M k j v k i = M k i := ax_u_ne (fun _ => hi)
      rcases o2 with _ | _ | r <;> simp [ax_f, e]
theorem ax_putv {idx ci j k : Nat} {fs : List (Option (Option Nat))} {o : Option (Option Nat)} {v : Int} {x : ax_V} {ty : FieldType} (hd : decode cc pc = .ok (.putfield idx, 3)) (hl : ax_FP y.cls idx ci j ty) (hs : sh[k]? = some (.inr (.inr (ci, fs)))) (hf : fs[j]? = some o) (hw : ∀ (ad : Nat → Nat) (f : Nat → Int), f j = v → ax_f ad f j o = ax_c ad x) (hnr : ∀ ad : Nat → Nat, narrow ty (ax_c ad x) = ax_c ad x) (hfit : ∀ ad : Nat → Nat, fits ty (ax_c ad x) = true) (hrn : ax_vr x → ax_isl sh k j = false → ax_r v) (kk : ax_J sh y cc mL ret dp P (pc + 3) ls st (ax_u M k j v)) : ax_J sh y cc mL ret dp P pc ls (x :: .inr (.inr k) :: st) M := by
  obtain ⟨r, h1, h2, h3, h4, h5, h6, ⟨ty0, h7⟩, h8⟩ := hl
  intro p l e s m args below meth c D ca ad X hn hs' hq H locs lsA hP hS hl'
  have hjl : j < (fs.mapIdx (ax_f ad (M k))).length := by simpa using (List.getElem?_eq_some_iff.mp hf).1
  refine va_put (D := D) (ci := ci) (C := r.1) (T := r.2.1) (N := r.2.2) (v := ax_c ad x) (ty := ty) X.1 X.2.1 X.2.2.2.2.2.2.1 h4 ty0 h7 h8 X.2.2.2.2.2.1 X.2.2.2.2.2.2.2.1 hP (ax_D M X.2.2.2.2.2.2.2.2.1) hS k (ax_w_get hs) h1 j h2 (X.2.2.2.2.2.2.1 _ h3) (fun _ h9 => h9) h5 h6 (hnr ad) (hfit ad) hjl hd (fun H1 locs1 hP1 _ hS1 => ?_)
  rw [ax_fs_set hf (hw ad)] at hP1
  have e1 : (ax_w sh ca ad M).set k (ad k, ax_e ca ad (ax_u M k j v k) (.inr (.inr (ci, fs)))) = ax_w sh ca ad (ax_u M k j v) := ax_w_set hs (fun a ha => ax_u_cell ha)
  have hP2 : va_P D ax_cl (ax_w sh ca ad (ax_u M k j v)) H1 := e1 ▸ hP1
  exact kk p l e s m args below meth c D ca ad X (ax_u_n hn (hrn (hs' _ List.mem_cons_self))) (ax_ct (ax_ct hs')) hq H1 locs1 lsA hP2 hS1 hl'
theorem ax_puti {idx ci j k : Nat} {fs : List (Option (Option Nat))} {v : Int} (hd : decode cc pc = .ok (.putfield idx, 3)) (hl : ax_FP y.cls idx ci j .int) (hs : sh[k]? = some (.inr (.inr (ci, fs)))) (hf : fs[j]? = some none) (kk : ax_J sh y cc mL ret dp P (pc + 3) ls st (ax_u M k j v)) : ax_J sh y cc mL ret dp P pc ls (.inl v :: .inr (.inr k) :: st) M :=
  ax_putv hd hl hs hf (fun ad f h => by simp [ax_f, ax_c, h]) (fun _ => rfl) (fun _ => rfl) (fun h _ => h) kk
theorem ax_putl {idx ci j k : Nat} {fs : List (Option (Option Nat))} {v : Int} (hd : decode cc pc = .ok (.putfield idx, 3)) (hl : ax_FP y.cls idx ci j .long) (hs : sh[k]? = some (.inr (.inr (ci, fs)))) (hf : fs[j]? = some (some none)) (kk : ax_J sh y cc mL ret dp P (pc + 3) ls st (ax_u M k j v)) : ax_J sh y cc mL ret dp P pc ls (.inr (.inl v) :: .inr (.inr k) :: st) M :=
  ax_putv hd hl hs hf (fun ad f h => by simp [ax_f, ax_c, h]) (fun _ => rfl) (fun _ => rfl) (fun _ h => by simp [ax_isl, hs, hf] at h) kk
theorem ax_nz {v : Int} (h : v = 0 ∨ v = 1) : narrow .boolean (.int (Int32.ofInt v)) = .int (Int32.ofInt v) ∧ fits .boolean (.int (Int32.ofInt v)) = true ∧ vp_nar .boolean (Int32.ofInt v) = Int32.ofInt v := by
  rcases h with rfl | rfl <;> decide
theorem ax_putz {idx ci j k : Nat} {fs : List (Option (Option Nat))} {v : Int} (hd : decode cc pc = .ok (.putfield idx, 3)) (hl : ax_FP y.cls idx ci j .boolean) (hs : sh[k]? = some (.inr (.inr (ci, fs)))) (hf : fs[j]? = some none) (hv : v = 0 ∨ v = 1) (kk : ax_J sh y cc mL ret dp P (pc + 3) ls st (ax_u M k j v)) : ax_J sh y cc mL ret dp P pc ls (.inl v :: .inr (.inr k) :: st) M :=
  ax_putv hd hl hs hf (fun ad f h => by simp [ax_f, ax_c, h]) (fun _ => (ax_nz hv).1) (fun _ => (ax_nz hv).2.1) (fun h _ => h) kk
-- arrays
theorem ax_iald {k n : Nat} {i : Int} (hd : decode cc pc = .ok (.iaload, 1)) (hs : sh[k]? = some (.inl (0, n))) (h0 : 0 ≤ i) (h1 : i < n) (kk : ax_J sh y cc mL ret dp P (pc + 1) ls (.inl (M k i.toNat) :: st) M) : ax_J sh y cc mL ret dp P pc ls (.inl i :: .inr (.inr k) :: st) M :=
  ax_step (st' := .inl (M k i.toNat) :: st) (fun hn _ h => ax_cc (v := .inl (M k i.toNat)) (ax_na _ hn hs) (ax_ct (ax_ct h))) (fun X _ hv _ hP _ w => va_iald X.1 X.2.1 X.2.2.2.2.2.2.2.1 hP k 0 (ax_w_get hs) rfl (ax_in (ax_cr hv) h0 h1) hd (by rw [ax_cl0 (ax_cr hv)]; exact w)) kk
theorem ax_cald {k n : Nat} {i : Int} (hd : decode cc pc = .ok (.caload, 1)) (hs : sh[k]? = some (.inl (1, n))) (h0 : 0 ≤ i) (h1 : i < n) (kk : ax_J sh y cc mL ret dp P (pc + 1) ls (.inl (M k i.toNat) :: st) M) : ax_J sh y cc mL ret dp P pc ls (.inl i :: .inr (.inr k) :: st) M :=
  ax_step (st' := .inl (M k i.toNat) :: st) (fun hn _ h => ax_cc (v := .inl (M k i.toNat)) (ax_na _ hn hs) (ax_ct (ax_ct h))) (fun X _ hv _ hP _ w => va_cald X.1 X.2.1 X.2.2.2.2.2.2.2.1 hP k 1 (ax_w_get hs) rfl (ax_in (ax_cr hv) h0 h1) hd (by rw [ax_cl0 (ax_cr hv)]; exact w)) kk
theorem ax_zald {k n : Nat} {i : Int} (hd : decode cc pc = .ok (.baload, 1)) (hs : sh[k]? = some (.inl (2, n))) (h0 : 0 ≤ i) (h1 : i < n) (kk : ax_J sh y cc mL ret dp P (pc + 1) ls (.inl (M k i.toNat) :: st) M) : ax_J sh y cc mL ret dp P pc ls (.inl i :: .inr (.inr k) :: st) M :=
  ax_step (st' := .inl (M k i.toNat) :: st) (fun hn _ h => ax_cc (v := .inl (M k i.toNat)) (ax_na _ hn hs) (ax_ct (ax_ct h))) (fun X _ hv _ hP _ w => va_zald X.1 X.2.1 X.2.2.2.2.2.2.2.1 hP k 2 (ax_w_get hs) rfl (ax_in (ax_cr hv) h0 h1) hd (by rw [ax_cl0 (ax_cr hv)]; exact w)) kk
theorem ax_upd {M : ax_Mem} {k j : Nat} {v : Int} : upd (fun j => Int32.ofInt (M k j)) j (Int32.ofInt v) = fun b => Int32.ofInt (ax_u M k j v k b) := by
  funext b
  by_cases h : b = j
  · subst h
    rw [ax_u_at]; simp [upd]
  · rw [ax_u_ne (fun _ => h)]; simp [upd, h]
theorem ax_iast {k n : Nat} {i v : Int} (hd : decode cc pc = .ok (.iastore, 1)) (hs : sh[k]? = some (.inl (0, n))) (h0 : 0 ≤ i) (h1 : i < n) (kk : ax_J sh y cc mL ret dp P (pc + 1) ls st (ax_u M k i.toNat v)) : ax_J sh y cc mL ret dp P pc ls (.inl v :: .inl i :: .inr (.inr k) :: st) M := by
  intro p l e s m args below meth c D ca ad X hn hv hq H locs lsA hP hS hl
  have hi := ax_cr (ax_ct hv)
  refine va_iast X.1 X.2.1 X.2.2.2.2.2.2.2.1 hP (ax_D M X.2.2.2.2.2.2.2.2.1) hS k 0 (ax_w_get hs) rfl (ax_in hi h0 h1) hd (fun H1 locs1 hP1 _ hS1 => ?_)
  rw [ax_cl0 hi, ax_upd] at hP1
  have e1 : (ax_w sh ca ad M).set k (ad k, ax_e ca ad (ax_u M k i.toNat v k) (.inl (0, n))) = ax_w sh ca ad (ax_u M k i.toNat v) := ax_w_set hs (fun a ha => ax_u_cell ha)
  have hP2 : va_P D ax_cl (ax_w sh ca ad (ax_u M k i.toNat v)) H1 := e1 ▸ hP1
  exact kk p l e s m args below meth c D ca ad X (ax_u_n hn (fun _ => ax_cr hv)) (ax_ct (ax_ct (ax_ct hv))) hq H1 locs1 lsA hP2 hS1 hl
theorem ax_nc {v : Int} (h0 : 0 ≤ v) (h1 : v < 65536) : vp_nar .char (Int32.ofInt v) = Int32.ofInt v := by
  obtain ⟨n, rfl⟩ := Int.eq_ofNat_of_zero_le h0
  have h2 := (pk_charN (q := n) (by omega)).1
  show vp_nar .char (nI n) = nI n
  unfold vp_nar
  rw [h2]
theorem ax_cast {k n : Nat} {i v : Int} (hd : decode cc pc = .ok (.castore, 1)) (hs : sh[k]? = some (.inl (1, n))) (h0 : 0 ≤ i) (h1 : i < n) (hv0 : 0 ≤ v) (hv1 : v < 65536) (kk : ax_J sh y cc mL ret dp P (pc + 1) ls st (ax_u M k i.toNat v)) : ax_J sh y cc mL ret dp P pc ls (.inl v :: .inl i :: .inr (.inr k) :: st) M := by
  intro p l e s m args below meth c D ca ad X hn hv hq H locs lsA hP hS hl
  have hi := ax_cr (ax_ct hv)
  refine va_cast X.1 X.2.1 X.2.2.2.2.2.2.2.1 hP (ax_D M X.2.2.2.2.2.2.2.2.1) hS k 1 (ax_w_get hs) rfl (ax_in hi h0 h1) hd (fun H1 locs1 hP1 _ hS1 => ?_)
  rw [ax_cl0 hi, ax_nc hv0 hv1, ax_upd] at hP1
  have e1 : (ax_w sh ca ad M).set k (ad k, ax_e ca ad (ax_u M k i.toNat v k) (.inl (1, n))) = ax_w sh ca ad (ax_u M k i.toNat v) := ax_w_set hs (fun a ha => ax_u_cell ha)
  have hP2 : va_P D ax_cl (ax_w sh ca ad (ax_u M k i.toNat v)) H1 := e1 ▸ hP1
  exact kk p l e s m args below meth c D ca ad X (ax_u_n hn (fun _ => ax_cr hv)) (ax_ct (ax_ct (ax_ct hv))) hq H1 locs1 lsA hP2 hS1 hl
theorem ax_zast {k n : Nat} {i v : Int} (hd : decode cc pc = .ok (.bastore, 1)) (hs : sh[k]? = some (.inl (2, n))) (h0 : 0 ≤ i) (h1 : i < n) (hv1 : v = 0 ∨ v = 1) (kk : ax_J sh y cc mL ret dp P (pc + 1) ls st (ax_u M k i.toNat v)) : ax_J sh y cc mL ret dp P pc ls (.inl v :: .inl i :: .inr (.inr k) :: st) M := by
  intro p l e s m args below meth c D ca ad X hn hv hq H locs lsA hP hS hl
  have hi := ax_cr (ax_ct hv)
  refine va_zast X.1 X.2.1 X.2.2.2.2.2.2.2.1 hP (ax_D M X.2.2.2.2.2.2.2.2.1) hS k 2 (ax_w_get hs) rfl (ax_in hi h0 h1) hd (fun H1 locs1 hP1 _ hS1 => ?_)
  rw [ax_cl0 hi, (ax_nz hv1).2.2, ax_upd] at hP1
  have e1 : (ax_w sh ca ad M).set k (ad k, ax_e ca ad (ax_u M k i.toNat v k) (.inl (2, n))) = ax_w sh ca ad (ax_u M k i.toNat v) := ax_w_set hs (fun a ha => ax_u_cell ha)
  have hP2 : va_P D ax_cl (ax_w sh ca ad (ax_u M k i.toNat v)) H1 := e1 ▸ hP1
  exact kk p l e s m args below meth c D ca ad X (ax_u_n hn (fun _ => ax_cr hv)) (ax_ct (ax_ct (ax_ct hv))) hq H1 locs1 lsA hP2 hS1 hl
theorem ax_aald {k t r : Nat} {rs : List Nat} {i : Int} (hd : decode cc pc = .ok (.aaload, 1)) (ht : t = 3 ∨ t = 4) (hs : sh[k]? = some (.inr (.inl (t, rs)))) (h0 : 0 ≤ i) (hi : rs[i.toNat]? = some r) (kk : ax_J sh y cc mL ret dp P (pc + 1) ls (.inr (.inr r) :: st) M) : ax_J sh y cc mL ret dp P pc ls (.inl i :: .inr (.inr k) :: st) M := by
  have hlt : i.toNat < rs.length := (List.getElem?_eq_some_iff.mp hi).1
  refine ax_step (st' := .inr (.inr r) :: st) (fun hn _ h => ax_cc (v := .inr (.inr r)) trivial (ax_ct (ax_ct h))) (fun {p} {l} {e} {s} {m} {args} {below} {meth} {c} {D} {ca} {ad} {H} {locs} {lsA} {Q} X _ hv _ hP _ w => ?_) kk
  have hK := X.2.2.2.2.2.2.2.1
  have hin := ax_in (ax_cr hv) h0 (n := rs.length) (by omega)
  have hc0 := ax_cl0 (ax_cr hv)
  have hlt' : (Int32.ofInt i).toNatClampNeg < rs.length := by rw [hc0]; exact hlt
  have hval : (fun j => va_rf ((rs[j]?).map ad)) (Int32.ofInt i).toNatClampNeg = .ref (ad r) := by
    show va_rf ((rs[(Int32.ofInt i).toNatClampNeg]?).map ad) = _
    rw [hc0, hi]; rfl
  have hcell := hP k _ (ax_w_get hs)
  rcases ht with rfl | rfl
  · exact W.aald (v := .ref (ad r)) (ty := .object "RowsIntoPlane$Call") X.1 X.2.1 hcell ((hK.2 3 _ rfl).1 rs.length (fun j => va_rf ((rs[j]?).map ad))) rfl (fun q => by cases q) (by show ¬ (_ < 0 ∨ (arrV _ _ _).slots.size ≤ _); rw [arrV_size]; exact hin) (by show (arrV _ _ _).slots[_]? = _; rw [arrV_read _ _ hlt', ← hval]) rfl rfl hd w
  · exact W.aald (v := .ref (ad r)) (ty := .array .int) X.1 X.2.1 hcell ((hK.2 4 _ rfl).1 rs.length (fun j => va_rf ((rs[j]?).map ad))) rfl (fun q => by cases q) (by show ¬ (_ < 0 ∨ (arrV _ _ _).slots.size ≤ _); rw [arrV_size]; exact hin) (by show (arrV _ _ _).slots[_]? = _; rw [arrV_read _ _ hlt', ← hval]) rfl rfl hd w
-- ends
theorem ax_iret {i : Int} {y : MethodName} {cc : ByteArray} (hd : decode cc pc = .ok (.ireturn, 1)) (h : P i M) : ax_J sh y cc mL (some .int) dp P pc ls [.inl i] M := by
  intro p l e s m args below meth c D ca ad X hn hv hq H locs lsA hP hS hl
  exact W.iret X.1 X.2.1 X.2.2.1 (fun t ht hW => ⟨⟨_, M, rfl, ⟨i, ax_cr hv, rfl, h⟩, hn, by rw [ht]; exact hP⟩, hS.F ht⟩) hS.2.2 hd X.2.2.2.2.1
theorem ax_zret {i : Int} {y : MethodName} {cc : ByteArray} (hd : decode cc pc = .ok (.ireturn, 1)) (hz : i = 0 ∨ i = 1) (h : P i M) : ax_J sh y cc mL (some .boolean) dp P pc ls [.inl i] M := by
  intro p l e s m args below meth c D ca ad X hn hv hq H locs lsA hP hS hl
  exact W.zret X.1 X.2.1 X.2.2.1 (ax_nz hz).1 (fun t ht hW => ⟨⟨_, M, rfl, ⟨i, ax_cr hv, rfl, h⟩, hn, by rw [ht]; exact hP⟩, hS.F ht⟩) hS.2.2 hd X.2.2.2.2.1
theorem ax_lret {i : Int} {y : MethodName} {cc : ByteArray} (hd : decode cc pc = .ok (.lreturn, 1)) (h : P i M) : ax_J sh y cc mL (some .long) dp P pc ls [.inr (.inl i)] M := by
  intro p l e s m args below meth c D ca ad X hn hv hq H locs lsA hP hS hl
  exact W.lret X.1 X.2.1 X.2.2.1 (fun t ht hW => ⟨⟨_, M, rfl, ⟨i, rfl, h⟩, hn, by rw [ht]; exact hP⟩, hS.F ht⟩) hS.2.2 hd X.2.2.2.2.1
theorem ax_vret {y : MethodName} {cc : ByteArray} (hd : decode cc pc = .ok (.return_, 1)) (h : P 0 M) : ax_J sh y cc mL none dp P pc ls [] M := by
  intro p l e s m args below meth c D ca ad X hn hv hq H locs lsA hP hS hl
  exact W.vret X.1 X.2.1 X.2.2.1 (fun t ht hW => ⟨⟨M, rfl, h, hn, by rw [ht]; exact hP⟩, hS.F ht⟩) hS.2.2 hd X.2.2.2.2.1
end AXM
end
section
/-! calls -/
section AXC
variable {sh : List ax_Sh} {y : MethodName} {cc : ByteArray} {mL : Nat} {ret : Option FieldType} {dp : Nat} {P : Int → ax_Mem → Prop} {pc : Nat} {ls : List (Nat × ax_V)} {st : List ax_V} {M : ax_Mem}
def ax_sz (st : List ax_V) : Nat := (st.map (fun v => if ax_lg v then 2 else 1)).sum
theorem ax_sz_eq (ad : Nat → Nat) (st : List ax_V) : ((st.map (ax_c ad)).map fun v => v.category).sum = ax_sz st := by
  unfold ax_sz
  rw [List.map_map]
  congr 1
  apply List.map_congr_left
  intro v _
  rcases v with i | i | k <;> rfl
def ax_push (ret : Option FieldType) (r : Int) (st : List ax_V) : List ax_V := match ret with
  | none => st
  | some .long => .inr (.inl r) :: st
  | some _ => .inl r :: st
/-- where the locals of a call begin -/
def ax_args : Nat → List ax_V → List (Nat × ax_V)
  | _, [] => []
  | i, v :: vs => (i, v) :: ax_args (if ax_lg v then i + 2 else i + 1) vs
theorem ax_args_eq (ad : Nat → Nat) : ∀ (as : List ax_V) (i : Nat), lv_args i (as.map (ax_c ad)) = ax_l ad (ax_args i as)
  | [], i => rfl
  | v :: as, i => by
    show (i, ax_c ad v) :: lv_args (if (ax_c ad v).category = 2 then i + 2 else i + 1) (as.map (ax_c ad)) = (i, ax_c ad v) :: ax_l ad (ax_args (if ax_lg v then i + 2 else i + 1) as)
    have e : (if (ax_c ad v).category = 2 then i + 2 else i + 1) = (if ax_lg v then i + 2 else i + 1) := by
      rcases v with j | j | k <;> rfl
    rw [e, ax_args_eq ad as]
theorem ax_args_vr : ∀ (as : List ax_V) (i : Nat), (∀ v ∈ as, ax_vr v) → ∀ q ∈ ax_args i as, ax_vr q.2
  | [], _, _, q, hq => by cases hq
  | v :: as, i, h, q, hq => by
    rcases List.mem_cons.mp hq with e | e
    · rw [e]; exact h v List.mem_cons_self
    · exact ax_args_vr as _ (fun w hw => h w (List.mem_cons_of_mem _ hw)) q e
theorem ax_sl_len (ad : Nat → Nat) : ∀ (as : List ax_V), (lg_sl (as.map (ax_c ad))).length = ax_sz as
  | [] => rfl
  | v :: as => by
    have ih := ax_sl_len ad as
    simp only [lg_sl, List.map_cons, List.flatMap_cons, List.length_append] at ih ⊢
    rw [ih]
    rcases v with j | j | k <;> simp [ax_sz, ax_c, ax_lg, Value.category]
/-- a method's contract out of its body -/
theorem ax_ofJ {as : List ax_V} (hy : plainName y.cls = true) (hz : ax_sz as ≤ mL) (k : ax_J sh y cc mL ret dp P 0 (ax_args 0 as) [] M) : ax_C sh y cc mL ret dp as M P := by
  intro l D ca ad hI hn ha
  refine Met.ofW (cc := cc) (maxL := mL) (ret := ret) (ws' := ax_Ts) hy rfl ?_
  intro p e s m args below meth c s₁ B hml hv
  obtain ⟨rfl, hP, hK, hN⟩ := hv
  have hts := atoms_spec (ws := ax_ws y cc mL ret) B.pre
  have hown : s.vm.findClass y.cls = some m.cls := findClass_of_methodNamed B.named
  have hl := lv_entry (as.map (ax_c ad)) (n := mL) (by rw [ax_sl_len]; exact hz)
  rw [lg_entry_eq]
  rw [ax_args_eq] at hl
  exact k p l e s m _ below meth c D ca ad ⟨B.exec, B.bytes, B.returns, hml, B.notSynchronized, hown, fun w hw => hts w (List.mem_cons_of_mem _ hw), hK, hI, hN⟩ hn (fun v h => by cases h) (ax_args_vr as 0 ha) s.heap [] _ hP va_S.rf hl
/-- what the tables say of an entry that names an instance method -/
def ax_LV (own : String) (idx : Nat) (y : MethodName) (cc : ByteArray) (mL : Nat) (ret : Option FieldType) (n : Nat) : Prop :=
  Cond.methodLink own idx y ∈ ax_Ts ∧ Cond.instanceMethod y ∈ ax_Ts ∧ Cond.selects y.cls y y ∈ ax_Ts ∧ Cond.initialized y.cls ∈ ax_Ts ∧ Cond.code y cc mL ret ∈ ax_Ts ∧ y.cls ≠ "java/lang/invoke/MethodHandle" ∧ y.cls ≠ "java/lang/invoke/VarHandle" ∧ (parseMethodDescriptor y.desc).map (fun d => d.parameters.length) = some n ∧ mL ≤ 17
def ax_LS (own : String) (idx : Nat) (y : MethodName) (cc : ByteArray) (mL : Nat) (ret : Option FieldType) (n : Nat) : Prop :=
  Cond.methodLink own idx y ∈ ax_Ts ∧ Cond.static y ∈ ax_Ts ∧ Cond.initialized y.cls ∈ ax_Ts ∧ Cond.code y cc mL ret ∈ ax_Ts ∧ y.cls ≠ "java/lang/invoke/MethodHandle" ∧ y.cls ≠ "java/lang/invoke/VarHandle" ∧ (parseMethodDescriptor y.desc).map (fun d => d.parameters.length) = some n ∧ mL ≤ 17
theorem ax_good {y : MethodName} {cc : ByteArray} {mL : Nat} {ret : Option FieldType} (h : Cond.code y cc mL ret ∈ ax_Ts) : GoodIn ax_Ts (ax_ws y cc mL ret) := by
  intro w hw
  rcases List.mem_cons.mp hw with e | e
  · rw [e]; exact ⟨h, good_of_word (ax_Ts_good _ h)⟩
  · exact ⟨e, good_of_word (ax_Ts_good _ e)⟩
theorem ax_back {y2 : MethodName} {ret2 : Option FieldType} {p : Program} {l : Launch} {e : Env} {s : State} {m : MethodId} {args : Array Value} {below : List Frame} {meth : Method} {c : Code} {D : va_G} {ca : Nat → ClassId} {ad : Nat → Nat} {H : Heap} {locs : List Loc} {lsA : Array Slot} {st0 : List Value} {a : Array Value}
    (X : ax_X sh y cc mL ret p s m args meth c D ca ad) (hs : ∀ v ∈ st, ax_vr v) (hq : ∀ q ∈ ls, ax_vr q.2) (hS : va_S (ax_As sh ad) s.heap H locs) (hl : lv_has lsA mL (ax_l ad ls))
    (hr : va_Run p l e (ax_rm dp) s m args below meth c H locs 0 0 0 0 (F0 m pc lsA st0) (st.map (ax_c ad)) (ax_Q sh ret2 D ca ad (fun r M' => ax_J sh y cc mL ret dp P (pc + 3) ls (ax_push ret2 r st) M') a) (ax_As sh ad)) :
    W p l e (ax_rm dp) s m args below meth c H locs 0 0 (MQ below (ax_Q sh ret D ca ad P) args s 0 0 (ax_As sh ad)) (F0 m pc lsA st0) := by
  have gi : va_Run p l e (ax_rm dp) s m args below meth c H locs 0 0 0 0 (F0 m pc lsA st0) (st.map (ax_c ad)) (va_Qi (fun r u => ∃ i, ax_r i ∧ r = Int32.ofInt i ∧ ax_J sh y cc mL ret dp P (pc + 3) ls (.inl i :: st) u) (ax_B sh D ca ad) (ax_As sh ad) a) (ax_As sh ad) → W p l e (ax_rm dp) s m args below meth c H locs 0 0 (MQ below (ax_Q sh ret D ca ad P) args s 0 0 (ax_As sh ad)) (F0 m pc lsA st0) := by
    intro hr
    refine va_calli hr hS (fun _ _ h => h) (fun _ h => h) (fun r u t H1 locs1 ht hvm hpost hB hz hk hS1 => ?_)
    obtain ⟨i, hi, rfl, hj⟩ := hpost
    obtain ⟨hn1, hP1⟩ := hB
    rw [ht] at hP1
    exact hj p l e s m args below meth c D ca ad X hn1 (ax_cc (v := .inl i) hi hs) hq H1 locs1 lsA hP1 hS1 hl
  rcases ret2 with _ | ty
  · refine va_callv (a := a) hr hS (fun _ _ h => h) (fun _ h => h) (fun u t H1 locs1 ht hvm hpost hB hz hk hS1 => ?_)
    obtain ⟨hn1, hP1⟩ := hB
    rw [ht] at hP1
    exact hpost p l e s m args below meth c D ca ad X hn1 hs hq H1 locs1 lsA hP1 hS1 hl
  · cases ty with
    | long =>
      refine va_calll (a := a) hr hS (fun _ _ h => h) (fun _ h => h) (fun r u t H1 locs1 ht hvm hpost hB hz hk hS1 => ?_)
      obtain ⟨i, rfl, hj⟩ := hpost
      obtain ⟨hn1, hP1⟩ := hB
      rw [ht] at hP1
      exact hj p l e s m args below meth c D ca ad X hn1 (ax_cc (v := .inr (.inl i)) trivial hs) hq H1 locs1 lsA hP1 hS1 hl
    | _ => exact gi hr
theorem ax_pre {D : va_G} {ca : Nat → ClassId} {ad : Nat → Nat} {as : List Value} (av : List Value) : FrameBlind (va_Pc av (fun U => va_P D ax_cl (ax_w sh ca ad M) U.heap ∧ va_K D ax_cl (ax_tys ca) U ∧ va_Nw ax_nest U)) := by
  intro a U g mk h
  obtain ⟨h1, h2, h3, h4⟩ := h
  exact ⟨h1, h2, va_K.moved (u := U) (U := U.calling g mk a) (Vm.Alike.refl U.vm) h3, va_Nw.same rfl rfl h4⟩
theorem ax_callV {y2 : MethodName} {cc2 : ByteArray} {mL2 : Nat} {ret2 : Option FieldType} {dp2 idx n k ci : Nat} {as st0 : List ax_V} {fs : List (Option (Option Nat))} (hd : decode cc pc = .ok (.invokevirtual idx, 3)) (hl : ax_LV y.cls idx y2 cc2 mL2 ret2 n) (hs : sh[k]? = some (.inr (.inr (ci, fs)))) (hc : ∃ (T : u_T) (N : Nat), ax_cl[ci]? = some (y2.cls, T, N)) (hn : as.length = n) (h0 : st0 = as.reverse ++ .inr (.inr k) :: st) (hz : ax_sz st ≤ 8) (hdp : dp2 + 1 ≤ dp)
    (kk : ax_C sh y2 cc2 mL2 ret2 dp2 (.inr (.inr k) :: as) M (fun r M' => ax_J sh y cc mL ret dp P (pc + 3) ls (ax_push ret2 r st) M')) : ax_J sh y cc mL ret dp P pc ls st0 M := by
  intro p l e s m args below meth c D ca ad X hn0 hv hq H locs lsA hP hS hls
  obtain ⟨T, N, hc⟩ := hc
  obtain ⟨l1, l2, l3, l4, l5, l6, l7, l8, l9⟩ := hl
  have hts := X.2.2.2.2.2.2.1
  subst h0
  have hst : ∀ v ∈ st, ax_vr v := fun v h => hv v (List.mem_append_right _ (List.mem_cons_of_mem _ h))
  have has : ∀ v ∈ (.inr (.inr k) :: as : List ax_V), ax_vr v := fun v h => by
    rcases List.mem_cons.mp h with e | e
    · rw [e]; trivial
    · exact hv v (List.mem_append_left _ (List.mem_reverse.mpr e))
  refine ax_back (y2 := y2) (ret2 := ret2) X hst hq hS hls (va_runV (As := as.map (ax_c ad)) (b := ad k) (C := y2.cls) (n := n) (Ts := ax_Ts) (bytes := cc2) (maxL := mL2) (ret := ret2) ⟨X.1, X.2.1, X.2.2.2.1, X.2.2.2.2.2.1, hts⟩ (kk l D ca ad X.2.2.2.2.2.2.2.2.1 hn0 has) ⟨?_, hts _ l2, hts _ l3⟩ ⟨ax_pre (as := []) _, ?_, ?_⟩ rfl (by rw [List.length_map]; exact hn) hls.1 ?_ ?_ hd ⟨Nat.le_refl _, Nat.le_refl _⟩)
  · exact callB_of n hts (ax_good l5) rfl rfl rfl (hts _ l4) (hts _ l1) ⟨l6, l7, l8⟩ ⟨hdp, by show 8 + (mL2 + 11) + 36 * dp2 ≤ 36 * dp; omega⟩
  · exact va_recv X.2.2.2.2.2.2.2.1 hP hc (ax_w_get hs)
  · intro U hU hW
    exact ⟨rfl, by rw [hU]; exact hP, va_K.moved hW.alike X.2.2.2.2.2.2.2.1, va_Nw.warmM hW X.2.2.2.2.2.2.2.2.2⟩
  · show (as.reverse ++ .inr (.inr k) :: st).map (ax_c ad) = _
    rw [List.map_append, List.map_reverse]
    rfl
  · exact lv_room (by rw [ax_sz_eq]; exact hz)
theorem ax_callS {y2 : MethodName} {cc2 : ByteArray} {mL2 : Nat} {ret2 : Option FieldType} {dp2 idx n : Nat} {as st0 : List ax_V} (hd : decode cc pc = .ok (.invokestatic idx, 3)) (hl : ax_LS y.cls idx y2 cc2 mL2 ret2 n) (hn : as.length = n) (h0 : st0 = as.reverse ++ st) (hz : ax_sz st ≤ 8) (hdp : dp2 + 1 ≤ dp)
    (kk : ax_C sh y2 cc2 mL2 ret2 dp2 as M (fun r M' => ax_J sh y cc mL ret dp P (pc + 3) ls (ax_push ret2 r st) M')) : ax_J sh y cc mL ret dp P pc ls st0 M := by
  intro p l e s m args below meth c D ca ad X hn0 hv hq H locs lsA hP hS hls
  obtain ⟨l1, l2, l4, l5, l6, l7, l8, l9⟩ := hl
  have hts := X.2.2.2.2.2.2.1
  subst h0
  have hst : ∀ v ∈ st, ax_vr v := fun v h => hv v (List.mem_append_right _ h)
  have has : ∀ v ∈ as, ax_vr v := fun v h => hv v (List.mem_append_left _ (List.mem_reverse.mpr h))
  refine ax_back (y2 := y2) (ret2 := ret2) X hst hq hS hls (va_runS (As := as.map (ax_c ad)) (n := n) (Ts := ax_Ts) (bytes := cc2) (maxL := mL2) (ret := ret2) ⟨X.1, X.2.1, X.2.2.2.1, X.2.2.2.2.2.1, hts⟩ (kk l D ca ad X.2.2.2.2.2.2.2.2.1 hn0 has) ⟨?_, hts _ l2⟩ ⟨ax_pre (as := []) _, ?_⟩ rfl (by rw [List.length_map]; exact hn) hls.1 ?_ ?_ hd ⟨Nat.le_refl _, Nat.le_refl _⟩)
  · exact callB_of n hts (ax_good l5) rfl rfl rfl (hts _ l4) (hts _ l1) ⟨l6, l7, l8⟩ ⟨hdp, by show 8 + (mL2 + 11) + 36 * dp2 ≤ 36 * dp; omega⟩
  · intro U hU hW
    exact ⟨rfl, by rw [hU]; exact hP, va_K.moved hW.alike X.2.2.2.2.2.2.2.1, va_Nw.warmM hW X.2.2.2.2.2.2.2.2.2⟩
  · show (as.reverse ++ st).map (ax_c ad) = _
    rw [List.map_append, List.map_reverse]
  · exact lv_room (by rw [ax_sz_eq]; exact hz)
/-- the one call of a nest mate's private method: Cabin.hasSeat calls RowsIntoPlane.outside -/
def ax_LN (y : MethodName) (cc : ByteArray) (mL : Nat) (ret : Option FieldType) (n : Nat) : Prop :=
  y = ⟨"RowsIntoPlane", "outside", "(III)Z"⟩ ∧ Cond.static y ∈ ax_Ts ∧ Cond.initialized y.cls ∈ ax_Ts ∧ Cond.code y cc mL ret ∈ ax_Ts ∧ y.cls ≠ "java/lang/invoke/MethodHandle" ∧ y.cls ≠ "java/lang/invoke/VarHandle" ∧ (parseMethodDescriptor y.desc).map (fun d => d.parameters.length) = some n ∧ mL ≤ 17
theorem ax_callSN {y2 : MethodName} {cc2 : ByteArray} {mL2 : Nat} {ret2 : Option FieldType} {dp2 n : Nat} {as st0 : List ax_V} (hd : decode cc pc = .ok (.invokestatic 22, 3)) (hown : y.cls = "RowsIntoPlane$Cabin") (hl : ax_LN y2 cc2 mL2 ret2 n) (hn : as.length = n) (h0 : st0 = as.reverse ++ st) (hz : ax_sz st ≤ 8) (hdp : dp2 + 1 ≤ dp)
    (kk : ax_C sh y2 cc2 mL2 ret2 dp2 as M (fun r M' => ax_J sh y cc mL ret dp P (pc + 3) ls (ax_push ret2 r st) M')) : ax_J sh y cc mL ret dp P pc ls st0 M := by
  intro p l e s m args below meth c D ca ad X hn0 hv hq H locs lsA hP hS hls
  obtain ⟨l1, l2, l4, l5, l6, l7, l8, l9⟩ := hl
  have hts := X.2.2.2.2.2.2.1
  subst h0
  subst l1
  have hst : ∀ v ∈ st, ax_vr v := fun v h => hv v (List.mem_append_right _ h)
  have has : ∀ v ∈ as, ax_vr v := fun v h => hv v (List.mem_append_left _ (List.mem_reverse.mpr h))
  refine ax_back (y2 := ⟨"RowsIntoPlane", "outside", "(III)Z"⟩) (ret2 := ret2) X hst hq hS hls (va_runSN (As := as.map (ax_c ad)) (n := n) (Ts := ax_Ts) (bytes := cc2) (maxL := mL2) (ret := ret2) (own := "RowsIntoPlane$Cabin") (host := "RowsIntoPlane") ⟨X.1, X.2.1, X.2.2.2.1, hown ▸ X.2.2.2.2.2.1, hts⟩ (kk l D ca ad X.2.2.2.2.2.2.2.2.1 hn0 has) ⟨?_, hts _ l2, trivial⟩ ⟨ax_pre (as := []) _, ?_⟩ rfl (by rw [List.length_map]; exact hn) hls.1 ?_ ?_ hd ⟨Nat.le_refl _, Nat.le_refl _⟩)
  · exact va_cnB n hts (ax_good l5) rfl rfl rfl X.2.2.2.2.2.2.2.2.2 (hts _ l4) ⟨l6, l7, l8⟩ ⟨hdp, by show 8 + (mL2 + 11) + 36 * dp2 ≤ 36 * dp; omega⟩
  · intro U hU hW
    exact ⟨rfl, by rw [hU]; exact hP, va_K.moved hW.alike X.2.2.2.2.2.2.2.1, va_Nw.warmM hW X.2.2.2.2.2.2.2.2.2⟩
  · show (as.reverse ++ st).map (ax_c ad) = _
    rw [List.map_append, List.map_reverse]
  · exact lv_room (by rw [ax_sz_eq]; exact hz)
end AXC
end
section
theorem wb_tb (n : Nat) : (lN n).toBitVec = BitVec.ofNat 64 n := rfl
theorem wb_inj {a b : Int64} (h : a.toBitVec = b.toBitVec) : a = b := Int64.toBitVec_inj.mp h
theorem wb_tn {n : Nat} (h : n < 2 ^ 64) : (lN n).toBitVec.toNat = n := by rw [wb_tb, BitVec.toNat_ofNat, Nat.mod_eq_of_lt h]
theorem wb_of (x : Int64) : ∃ n, n < 2 ^ 64 ∧ x = lN n := ⟨x.toBitVec.toNat, x.toBitVec.isLt, wb_inj (by rw [wb_tb]; simp)⟩
theorem wb_of32 (x : Int32) : ∃ n, n < 2 ^ 32 ∧ x = nI n := ⟨x.toBitVec.toNat, x.toBitVec.isLt, Int32.toBitVec_inj.mp (by show _ = BitVec.ofNat 32 _; simp)⟩
theorem wb_c : ∀ k, k < 64 → ((nI k).toInt64 &&& 63) = lN k := by decide +kernel
theorem wb_cu : ∀ k, k < 64 → ((nI k).toInt64.toUInt64 &&& Int64.toUInt64 63) = UInt64.ofNat k := by decide +kernel
theorem wb_sm : ∀ k, k < 64 → (BitVec.ofNat 64 k).smod 64 = BitVec.ofNat 64 k := by decide +kernel
theorem wb_pw {a b : Nat} (h : a ≤ b) : 2 ^ b = 2 ^ a * 2 ^ (b - a) := by rw [← Nat.pow_add]; congr 1; omega
theorem wb_lt2 {a b : Nat} (h : a < b) : 2 ^ a < 2 ^ b := Nat.pow_lt_pow_right (by decide) h
theorem wb_mod (n : Nat) : lN n = lN (n % 2 ^ 64) := wb_inj (by rw [wb_tb, wb_tb]; apply BitVec.eq_of_toNat_eq; rw [BitVec.toNat_ofNat, BitVec.toNat_ofNat, Nat.mod_mod])
theorem wb_shr {n k : Nat} (hn : n < 2 ^ 64) (hk : k < 64) : ((lN n).toUInt64 >>> ((nI k).toInt64.toUInt64 &&& Int64.toUInt64 63)).toInt64 = lN (n / 2 ^ k) := by
  rw [wb_cu k hk]
  apply wb_inj
  apply BitVec.eq_of_toNat_eq
  show ((lN n).toUInt64 >>> UInt64.ofNat k).toNat = (BitVec.ofNat 64 _).toNat
  have h1 : (UInt64.ofNat k).toNat = k := by
    show (BitVec.ofNat 64 k).toNat = k
    rw [BitVec.toNat_ofNat, Nat.mod_eq_of_lt (by omega)]
  have h2 : (lN n).toUInt64.toNat = n := wb_tn hn
  rw [UInt64.toNat_shiftRight, h1, h2, Nat.mod_eq_of_lt hk, Nat.shiftRight_eq_div_pow, BitVec.toNat_ofNat, Nat.mod_eq_of_lt (Nat.lt_of_le_of_lt (Nat.div_le_self _ _) hn)]
theorem wb_and {a b : Nat} (ha : a < 2 ^ 64) (hb : b < 2 ^ 64) : lN a &&& lN b = lN (a &&& b) := by
  apply wb_inj
  rw [Int64.toBitVec_and, wb_tb, wb_tb, wb_tb]
  apply BitVec.eq_of_toNat_eq
  rw [BitVec.toNat_and, BitVec.toNat_ofNat, BitVec.toNat_ofNat, BitVec.toNat_ofNat, Nat.mod_eq_of_lt ha, Nat.mod_eq_of_lt hb, Nat.mod_eq_of_lt (Nat.and_lt_two_pow _ hb)]
theorem wb_mask {n k : Nat} (hn : n < 2 ^ 64) (hk : k < 64) : lN n &&& lN (2 ^ k - 1) = lN (n % 2 ^ k) := by
  rw [wb_and hn (by have := wb_lt2 hk; omega), Nat.and_two_pow_sub_one_eq_mod]
/-! Math, copies, longs, bits, switches (the wb_ rows above are the kit's, given for pasting) -/
section AXR
variable {sh : List ax_Sh} {y : MethodName} {cc : ByteArray} {mL : Nat} {ret : Option FieldType} {dp : Nat} {P : Int → ax_Mem → Prop} {pc : Nat} {ls : List (Nat × ax_V)} {st : List ax_V} {M : ax_Mem}
theorem ax_min_if {a b : Int} (ha : ax_r a) (hb : ax_r b) : (if Int32.ofInt b < Int32.ofInt a then Int32.ofInt b else Int32.ofInt a) = Int32.ofInt (min a b) := by
  by_cases h : b < a
  · rw [if_pos ((ax_lt hb ha).mpr h), Int.min_eq_right (by omega)]
  · rw [if_neg (fun q => h ((ax_lt hb ha).mp q)), Int.min_eq_left (by omega)]
theorem ax_max_if {a b : Int} (ha : ax_r a) (hb : ax_r b) : (if Int32.ofInt a < Int32.ofInt b then Int32.ofInt b else Int32.ofInt a) = Int32.ofInt (max a b) := by
  by_cases h : a < b
  · rw [if_pos ((ax_lt ha hb).mpr h), Int.max_eq_right (by omega)]
  · rw [if_neg (fun q => h ((ax_lt ha hb).mp q)), Int.max_eq_left (by omega)]
def ax_MW (own : String) (idx : Nat) (y : MethodName) (cc : ByteArray) (n : Nat) : Prop := Cond.methodLink own idx y ∈ ax_Ts ∧ Cond.static y ∈ ax_Ts ∧ Cond.initialized "java/lang/Math" ∈ ax_Ts ∧ Cond.code y cc n (some .int) ∈ ax_Ts
theorem ax_mmin {a b : Int} {idx : Nat} (hd : decode cc pc = .ok (.invokestatic idx, 3)) (hl : ax_MW y.cls idx Lib.Math.min.name Lib.Math.min.code 2) (hz : ax_sz st ≤ 8) (hdp : 1 ≤ dp) (k : ax_J sh y cc mL ret dp P (pc + 3) ls (.inl (min a b) :: st) M) : ax_J sh y cc mL ret dp P pc ls (.inl b :: .inl a :: st) M := by
  intro p l e s m args below meth c D ca ad X hn hs hq H locs lsA hP hS hls
  have hb := ax_cr hs
  have ha := ax_cr (ax_ct hs)
  have hts := X.2.2.2.2.2.2.1
  refine va_mmin X.1 X.2.1 (by rw [hls.1]; exact X.2.2.2.1) X.2.2.2.2.2.1 (hts _ hl.1) (hts _ hl.2.1) (hts _ hl.2.2.1) (hts _ hl.2.2.2) hdp (by rw [ax_sz_eq]; show _ ≤ 36 * dp; omega) (Nat.le_refl _) (Nat.le_refl _) hd ?_
  rw [ax_min_if ha hb]
  exact k p l e s m args below meth c D ca ad X hn (ax_cc (v := .inl (min a b)) (show ax_r _ from ⟨by have := ha.1; have := hb.1; omega, by have := ha.2; omega⟩) (ax_ct (ax_ct hs))) hq H locs lsA hP hS hls
theorem ax_mmax {a b : Int} {idx : Nat} (hd : decode cc pc = .ok (.invokestatic idx, 3)) (hl : ax_MW y.cls idx Lib.Math.max.name Lib.Math.max.code 2) (hz : ax_sz st ≤ 8) (hdp : 1 ≤ dp) (k : ax_J sh y cc mL ret dp P (pc + 3) ls (.inl (max a b) :: st) M) : ax_J sh y cc mL ret dp P pc ls (.inl b :: .inl a :: st) M := by
  intro p l e s m args below meth c D ca ad X hn hs hq H locs lsA hP hS hls
  have hb := ax_cr hs
  have ha := ax_cr (ax_ct hs)
  have hts := X.2.2.2.2.2.2.1
  refine va_mmax X.1 X.2.1 (by rw [hls.1]; exact X.2.2.2.1) X.2.2.2.2.2.1 (hts _ hl.1) (hts _ hl.2.1) (hts _ hl.2.2.1) (hts _ hl.2.2.2) hdp (by rw [ax_sz_eq]; show _ ≤ 36 * dp; omega) (Nat.le_refl _) (Nat.le_refl _) hd ?_
  rw [ax_max_if ha hb]
  exact k p l e s m args below meth c D ca ad X hn (ax_cc (v := .inl (max a b)) (show ax_r _ from ⟨by have := ha.1; omega, by have := ha.2; have := hb.2; omega⟩) (ax_ct (ax_ct hs))) hq H locs lsA hP hS hls
def ax_abs (a : Int) : Int := if 0 ≤ a then a else -a
theorem ax_mabs {a : Int} {idx : Nat} (hd : decode cc pc = .ok (.invokestatic idx, 3)) (hl : ax_MW y.cls idx Lib.Math.abs.name Lib.Math.abs.code 1) (hz : ax_sz st ≤ 8) (hdp : 1 ≤ dp) (h0 : -2147483648 < a) (k : ax_J sh y cc mL ret dp P (pc + 3) ls (.inl (ax_abs a) :: st) M) : ax_J sh y cc mL ret dp P pc ls (.inl a :: st) M := by
  intro p l e s m args below meth c D ca ad X hn hs hq H locs lsA hP hS hls
  have ha := ax_cr hs
  have hts := X.2.2.2.2.2.2.1
  refine va_mabs X.1 X.2.1 (by rw [hls.1]; exact X.2.2.2.1) X.2.2.2.2.2.1 (hts _ hl.1) (hts _ hl.2.1) (hts _ hl.2.2.1) (hts _ hl.2.2.2) hdp (by rw [ax_sz_eq]; show _ ≤ 36 * dp; omega) (Nat.le_refl _) (Nat.le_refl _) hd ?_
  have e1 : (if 0 ≤ Int32.ofInt a then Int32.ofInt a else 0 - Int32.ofInt a) = Int32.ofInt (ax_abs a) := by
    unfold ax_abs
    have h00 : ax_r 0 := ⟨by omega, by omega⟩
    have hz : (0 : Int32) = Int32.ofInt 0 := rfl
    by_cases h : 0 ≤ a
    · rw [if_pos h, if_pos (by rw [hz]; exact (ax_le h00 ha).mpr h)]
    · rw [if_neg h, if_neg (by rw [hz]; exact fun q => h ((ax_le h00 ha).mp q)), hz, ← Int32.ofInt_sub]
      congr 1
      omega
  rw [e1]
  exact k p l e s m args below meth c D ca ad X hn (ax_cc (v := .inl (ax_abs a)) (show ax_r _ from by unfold ax_abs; have := ha.2; split <;> exact ⟨by omega, by omega⟩) (ax_ct hs)) hq H locs lsA hP hS hls
/-- System.arraycopy of whole int arrays from place 0 to place 0 -/
def ax_cp (M : ax_Mem) (k q n : Nat) : ax_Mem := ax_s M q (fun j => if j < n then M k j else M q j)
def ax_AW (own : String) (idx : Nat) : Prop := Cond.methodLink own idx arraycopyName ∈ ax_Ts ∧ Cond.native arraycopyName ∈ ax_Ts ∧ Cond.static arraycopyName ∈ ax_Ts ∧ Cond.initialized "java/lang/System" ∈ ax_Ts
theorem ax_copy {k q n0 n1 idx : Nat} {n : Int} (hd : decode cc pc = .ok (.invokestatic idx, 3)) (hl : ax_AW y.cls idx) (hk : sh[k]? = some (.inl (0, n0))) (hq0 : sh[q]? = some (.inl (0, n1))) (h0 : 0 ≤ n) (h1 : n ≤ n0) (h2 : n ≤ n1) (hz : ax_sz st ≤ 8) (hdp : 1 ≤ dp) (kk : ax_J sh y cc mL ret dp P (pc + 3) ls st (ax_cp M k q n.toNat)) : ax_J sh y cc mL ret dp P pc ls (.inl n :: .inl 0 :: .inr (.inr q) :: .inl 0 :: .inr (.inr k) :: st) M := by
  intro p l e s m args below meth c D ca ad X hn hs hq H locs lsA hP hS hls
  have hn1 := ax_cr hs
  have hts := X.2.2.2.2.2.2.1
  have h00 : ax_r 0 := ⟨by omega, by omega⟩
  have c0 : (Int32.ofInt 0).toNatClampNeg = 0 := rfl
  have cn := ax_cl0 hn1
  have hz0 : (0 : Int32) = Int32.ofInt 0 := rfl
  have hwords : nativeFrameWords "java/lang/System" "arraycopy" 5 + 11 ≤ 28 := by decide +kernel
  refine va_copyi X.1 X.2.1 (by rw [hls.1]; exact X.2.2.2.1) X.2.2.2.2.2.1 (hts _ hl.1) (hts _ hl.2.1) (hts _ hl.2.2.1) (hts _ hl.2.2.2) X.2.2.2.2.2.2.2.1 hP (ax_D M X.2.2.2.2.2.2.2.2.1) hS k q 0 0 (ax_w_get hk) (ax_w_get hq0) (ty := .int) rfl rfl rfl (by rw [hz0]; exact fun h => absurd ((ax_lt h00 h00).mp h) (by omega)) (by rw [hz0]; exact fun h => absurd ((ax_lt h00 h00).mp h) (by omega)) (by rw [hz0]; exact fun h => absurd ((ax_lt hn1 h00).mp h) (by omega)) (by rw [c0, cn]; omega) (by rw [c0, cn]; omega) (fun i _ => rfl) hdp (by rw [ax_sz_eq]; show _ ≤ 36 * dp; omega) hd (fun H1 locs1 hP1 _ hS1 => ?_)
  rw [c0, cn] at hP1
  have e2 : va_cpy (fun j => Int32.ofInt (M k j)) (fun j => Int32.ofInt (M q j)) 0 0 n.toNat = fun j => Int32.ofInt (ax_cp M k q n.toNat q j) := by
    funext j
    simp only [va_cpy, ax_cp, ax_s, if_true]
    by_cases hj : j < n.toNat <;> simp [hj]
  rw [e2] at hP1
  have e1 : (ax_w sh ca ad M).set q (ad q, ax_e ca ad (ax_cp M k q n.toNat q) (.inl (0, n1))) = ax_w sh ca ad (ax_cp M k q n.toNat) := ax_w_set hq0 (fun a ha => by simp [ax_cp, ax_s, ha])
  have hP2 : va_P D ax_cl (ax_w sh ca ad (ax_cp M k q n.toNat)) H1 := e1 ▸ hP1
  refine kk p l e s m args below meth c D ca ad X ?_ (ax_ct (ax_ct (ax_ct (ax_ct (ax_ct hs))))) hq H1 locs1 lsA hP2 hS1 hls
  intro a b hab
  unfold ax_cp ax_s
  by_cases h : a = q
  · rw [if_pos h]
    show ax_r (if b < n.toNat then M k b else M q b)
    split
    · exact ax_na b hn hk
    · exact ax_na b hn hq0
  · rw [if_neg h]; exact hn a b hab
-- longs
theorem ax_lof (a : Int) : Int64.ofInt a = lN (a % 2 ^ 64).toNat := by
  apply wb_inj
  rw [wb_tb]
  apply BitVec.eq_of_toNat_eq
  rw [BitVec.toNat_ofNat]
  show (BitVec.ofInt 64 a).toNat = _
  rw [BitVec.toNat_ofInt]
  have h1 := Int.emod_nonneg a (show (2 ^ 64 : Int) ≠ 0 by decide)
  have h2 := Int.emod_lt_of_pos a (show (0 : Int) < 2 ^ 64 by decide)
  have e : ((2 ^ 64 : Nat) : Int) = (2 ^ 64 : Int) := by decide
  rw [e, Nat.mod_eq_of_lt (by omega)]
theorem ax_lm {a : Int} {k : Nat} (hk : k < 64) : Int64.ofInt a &&& Int64.ofInt (2 ^ k - 1) = Int64.ofInt (a % 2 ^ k) := by
  have h1 := Int.emod_nonneg a (show (2 ^ 64 : Int) ≠ 0 by decide)
  have h2 := Int.emod_lt_of_pos a (show (0 : Int) < 2 ^ 64 by decide)
  have hp : (0 : Int) < 2 ^ k := Int.pow_pos (by decide)
  have h3 := Int.emod_nonneg a (show (2 ^ k : Int) ≠ 0 by omega)
  have e1 : Int64.ofInt (2 ^ k - 1) = lN (2 ^ k - 1) := by
    rw [ax_lofNat (by omega)]
    congr 1
    have : ((2 ^ k : Nat) : Int) = (2 ^ k : Int) := by simp
    omega
  rw [e1, ax_lof a, wb_mask (by omega) hk, ax_lofNat h3]
  congr 1
  have e2 : ((2 ^ k : Nat) : Int) = (2 ^ k : Int) := by simp
  have e3 : (a % 2 ^ 64) % 2 ^ k = a % 2 ^ k := Int.emod_emod_of_dvd a ⟨2 ^ (64 - k), by rw [← Int.pow_add]; congr 1; omega⟩
  have e4 : (((a % 2 ^ 64).toNat % 2 ^ k : Nat) : Int) = a % 2 ^ k := by
    rw [Int.natCast_emod, Int.toNat_of_nonneg h1, e2, e3]
  omega
theorem ax_land {a b : Int} (k0 : Nat) (hd : decode cc pc = .ok (.land, 1)) (hb : b = 2 ^ k0 - 1) (hk : k0 < 64) (k : ax_J sh y cc mL ret dp P (pc + 1) ls (.inr (.inl (a % 2 ^ k0)) :: st) M) : ax_J sh y cc mL ret dp P pc ls (.inr (.inl b) :: .inr (.inl a) :: st) M := by
  subst hb
  exact ax_step (fun _ _ h => ax_cc (v := .inr (.inl (a % 2 ^ k0))) trivial (ax_ct (ax_ct h))) (fun X _ _ _ _ _ w => lv_land X.1 X.2.1 hd (by rw [ax_lm hk]; exact w)) k
theorem ax_lushr {a b : Int} (hd : decode cc pc = .ok (.lushr, 1)) (h0 : 0 ≤ b) (h1 : b < 64) (k : ax_J sh y cc mL ret dp P (pc + 1) ls (.inr (.inl ((a % 2 ^ 64) / 2 ^ b.toNat)) :: st) M) : ax_J sh y cc mL ret dp P pc ls (.inl b :: .inr (.inl a) :: st) M := by
  refine ax_step (fun _ _ h => ax_cc (v := .inr (.inl ((a % 2 ^ 64) / 2 ^ b.toNat))) trivial (ax_ct (ax_ct h))) (fun X _ _ _ _ _ w => lv_lushr X.1 X.2.1 hd ?_ w) k
  have g1 := Int.emod_nonneg a (show (2 ^ 64 : Int) ≠ 0 by decide)
  have g2 := Int.emod_lt_of_pos a (show (0 : Int) < 2 ^ 64 by decide)
  have hp : (0 : Int) < 2 ^ b.toNat := Int.pow_pos (by decide)
  rw [ax_lof a, ax_ofNat h0, wb_shr (by omega) (by omega), ax_lofNat (Int.ediv_nonneg g1 (by omega))]
  congr 1
  have e2 : ((2 ^ b.toNat : Nat) : Int) = (2 ^ b.toNat : Int) := by simp
  have e4 : (((a % 2 ^ 64).toNat / 2 ^ b.toNat : Nat) : Int) = (a % 2 ^ 64) / 2 ^ b.toNat := by
    rw [Int.natCast_ediv, Int.toNat_of_nonneg g1, e2]
  exact Int.ofNat_inj.mp (e4.trans (Int.toNat_of_nonneg (Int.ediv_nonneg g1 (by omega))).symm)
theorem ax_ldivE {a b : Int} (h0 : 0 ≤ a) (h1 : 0 < b) (ha : a < 2 ^ 63) (hb : b < 2 ^ 63) : Int64.ofInt a / Int64.ofInt b = Int64.ofInt (a / b) ∧ Int64.ofInt a - Int64.ofInt a / Int64.ofInt b * Int64.ofInt b = Int64.ofInt (a % b) ∧ ¬ Int64.ofInt b = 0 := by
  have hb0 : ¬ Int64.ofInt b = 0 := fun h => by
    have h2 : (Int64.ofInt b).toInt = b := Int64.toInt_ofInt_of_le (by omega) hb
    rw [h] at h2
    have h3 : (0 : Int64).toInt = 0 := rfl
    omega
  obtain ⟨n, rfl⟩ := Int.eq_ofNat_of_zero_le h0
  obtain ⟨d, rfl⟩ := Int.eq_ofNat_of_zero_le (Int.le_of_lt h1)
  have e1 : lN n / lN d = lN (n / d) := pk_lDiv (by omega) (by omega) (by omega)
  have e2 : lN n - lN n / lN d * lN d = lN (n % d) := pk_lRem (by omega) (by omega) (by omega)
  exact ⟨e1, e2, hb0⟩
theorem ax_ldiv {a b : Int} (hd : decode cc pc = .ok (.ldiv, 1)) (h0 : 0 ≤ a) (h1 : 0 < b) (ha : a < 2 ^ 63) (hb : b < 2 ^ 63) (k : ax_J sh y cc mL ret dp P (pc + 1) ls (.inr (.inl (a / b)) :: st) M) : ax_J sh y cc mL ret dp P pc ls (.inr (.inl b) :: .inr (.inl a) :: st) M := by
  obtain ⟨e1, e2, e3⟩ := ax_ldivE h0 h1 ha hb
  exact ax_step (fun _ _ h => ax_cc (v := .inr (.inl (a / b))) trivial (ax_ct (ax_ct h))) (fun X _ _ _ _ _ w => lv_ldiv X.1 X.2.1 hd e3 (by rw [e1]; exact w)) k
theorem ax_lrem {a b : Int} (hd : decode cc pc = .ok (.lrem, 1)) (h0 : 0 ≤ a) (h1 : 0 < b) (ha : a < 2 ^ 63) (hb : b < 2 ^ 63) (k : ax_J sh y cc mL ret dp P (pc + 1) ls (.inr (.inl (a % b)) :: st) M) : ax_J sh y cc mL ret dp P pc ls (.inr (.inl b) :: .inr (.inl a) :: st) M := by
  obtain ⟨e1, e2, e3⟩ := ax_ldivE h0 h1 ha hb
  exact ax_step (fun _ _ h => ax_cc (v := .inr (.inl (a % b))) trivial (ax_ct (ax_ct h))) (fun X _ _ _ _ _ w => lv_lrem X.1 X.2.1 hd e3 (by rw [e2]; exact w)) k
def ax_cmp (a b : Int) : Int := if b < a then 1 else if a = b then 0 else -1
theorem ax_lcmp {a b : Int} (hd : decode cc pc = .ok (.lcmp, 1)) (ha : -2 ^ 63 ≤ a ∧ a < 2 ^ 63) (hb : -2 ^ 63 ≤ b ∧ b < 2 ^ 63) (k : ax_J sh y cc mL ret dp P (pc + 1) ls (.inl (ax_cmp a b) :: st) M) : ax_J sh y cc mL ret dp P pc ls (.inr (.inl b) :: .inr (.inl a) :: st) M := by
  have hr : ax_r (ax_cmp a b) := by unfold ax_cmp; split <;> (try split) <;> exact ⟨by omega, by omega⟩
  have i1 : (Int64.ofInt a).toInt = a := Int64.toInt_ofInt_of_le ha.1 ha.2
  have i2 : (Int64.ofInt b).toInt = b := Int64.toInt_ofInt_of_le hb.1 hb.2
  have e : lg_cmp (Int64.ofInt a) (Int64.ofInt b) = Int32.ofInt (ax_cmp a b) := by
    unfold lg_cmp ax_cmp
    simp only [gt_iff_lt, Int64.lt_iff_toInt_lt, ← Int64.toInt_inj, i1, i2]
    split
    · rfl
    · split <;> rfl
  exact ax_step (fun _ _ h => ax_cc (v := .inl (ax_cmp a b)) hr (ax_ct (ax_ct h))) (fun X _ _ _ _ _ w => W.lcmp X.1 X.2.1 hd (by rw [e]; exact w)) k
theorem ax_i2c {a : Int} (hd : decode cc pc = .ok (.i2c, 1)) (h0 : 0 ≤ a) (h1 : a < 65536) (k : ax_J sh y cc mL ret dp P (pc + 1) ls (.inl a :: st) M) : ax_J sh y cc mL ret dp P pc ls (.inl a :: st) M := by
  refine ax_step (fun _ _ h => h) (fun X _ _ _ _ _ w => lv_i2c X.1 X.2.1 hd ?_ w) k
  obtain ⟨n, rfl⟩ := Int.eq_ofNat_of_zero_le h0
  show ((nI n).toUInt32 % 65536).toInt32 = nI n
  rw [pk_char, pk_tn (by omega), Nat.mod_eq_of_lt (by omega)]
theorem ax_ishl1 {b : Int} (hd : decode cc pc = .ok (.ishl, 1)) (h0 : 0 ≤ b) (h1 : b ≤ 30) (k : ax_J sh y cc mL ret dp P (pc + 1) ls (.inl (2 ^ b.toNat) :: st) M) : ax_J sh y cc mL ret dp P pc ls (.inl b :: .inl 1 :: st) M := by
  obtain ⟨n, rfl⟩ := Int.eq_ofNat_of_zero_le h0
  have hn : n < 31 := by omega
  have key : ∀ n, n < 31 → ((1 : Int32) <<< (nI n &&& 31)) = Int32.ofInt (2 ^ n) ∧ ((1 : Int32) <<< nI n) = Int32.ofInt (2 ^ n) ∧ (0 : Int) ≤ 2 ^ n ∧ (2 ^ n : Int) < 2147483648 := by decide +kernel
  obtain ⟨e, e', r1, r2⟩ := key n hn
  refine ax_step (fun _ _ h => ax_cc (v := .inl (2 ^ n)) (show ax_r _ from ⟨by omega, r2⟩) (ax_ct (ax_ct h))) (fun X _ _ _ _ _ w => lv_ishl X.1 X.2.1 hd ?_) k
  first
    | (show W _ _ _ _ _ _ _ _ _ _ _ _ _ _ _ (F0 _ _ _ (.int ((1 : Int32) <<< (nI n &&& 31)) :: _)); rw [e]; exact w)
    | (show W _ _ _ _ _ _ _ _ _ _ _ _ _ _ _ (F0 _ _ _ (.int ((1 : Int32) <<< nI n) :: _)); rw [e']; exact w)
theorem ax_ior {a b : Int} (hd : decode cc pc = .ok (.ior, 1)) (h0 : 0 ≤ a) (h1 : 0 ≤ b) (k : ax_J sh y cc mL ret dp P (pc + 1) ls (.inl ((a.toNat ||| b.toNat : Nat) : Int) :: st) M) : ax_J sh y cc mL ret dp P pc ls (.inl b :: .inl a :: st) M := by
  intro p l e s m args below meth c D ca ad X hn hs hq H locs lsA hP hS hl
  have hb := ax_cr hs
  have ha := ax_cr (ax_ct hs)
  have hlt : (a.toNat ||| b.toNat) < 2 ^ 31 := Nat.or_lt_two_pow (by have := ha.2; omega) (by have := hb.2; omega)
  have e1 : Int32.ofInt a ||| Int32.ofInt b = Int32.ofInt ((a.toNat ||| b.toNat : Nat) : Int) := by
    rw [ax_ofNat h0, ax_ofNat h1]
    apply Int32.toBitVec_inj.mp
    rw [Int32.toBitVec_or]
    show BitVec.ofNat 32 _ ||| BitVec.ofNat 32 _ = BitVec.ofNat 32 _
    apply BitVec.eq_of_toNat_eq
    rw [BitVec.toNat_or, BitVec.toNat_ofNat, BitVec.toNat_ofNat, BitVec.toNat_ofNat, Nat.mod_eq_of_lt (by have := ha.2; omega), Nat.mod_eq_of_lt (by have := hb.2; omega), Nat.mod_eq_of_lt (by omega)]
  refine lv_ior X.1 X.2.1 hd ?_
  rw [e1]
  exact k p l e s m args below meth c D ca ad X hn (ax_cc (v := .inl ((a.toNat ||| b.toNat : Nat) : Int)) (show ax_r _ from ⟨by omega, by omega⟩) (ax_ct (ax_ct hs))) hq H locs lsA hP hS hl
-- switches
theorem ax_tabOut {x dflt lo hi : Int} {offs : Array Int} {len tgt : Nat} (hd : decode cc pc = .ok (.tableswitch dflt lo hi offs, len)) (h : x < lo ∨ hi < x) (ht : (pc : Int) + dflt = (tgt : Int)) (k : ax_J sh y cc mL ret dp P tgt ls st M) : ax_J sh y cc mL ret dp P pc ls (.inl x :: st) M :=
  ax_step (fun _ _ h => ax_ct h) (fun X _ hs _ _ _ w => lv_tableOut X.1 X.2.1 hd (by rw [ax_i32 (ax_cr hs)]; exact h) ht w) k
theorem ax_tabIn {x dflt lo hi off : Int} {offs : Array Int} {len tgt : Nat} (hd : decode cc pc = .ok (.tableswitch dflt lo hi offs, len)) (h1 : lo ≤ x) (h2 : x ≤ hi) (ho : offs[(x - lo).toNat]? = some off) (ht : (pc : Int) + off = (tgt : Int)) (k : ax_J sh y cc mL ret dp P tgt ls st M) : ax_J sh y cc mL ret dp P pc ls (.inl x :: st) M :=
  ax_step (fun _ _ h => ax_ct h) (fun X _ hs _ _ _ w => lv_tableIn X.1 X.2.1 hd (by rw [ax_i32 (ax_cr hs)]; omega) (by rw [ax_i32 (ax_cr hs)]; omega) (by rw [ax_i32 (ax_cr hs)]; exact ho) ht w) k
theorem ax_look {x dflt off : Int} {ps : Array (Int × Int)} {len tgt : Nat} (hd : decode cc pc = .ok (.lookupswitch dflt ps, len)) (hp : (ps.toList.zip (ps.toList.drop 1)).all (fun (a, next) => a.1 < next.1) = true) (ho : Op.lookupswitch.offset ps.toList dflt x = off) (ht : (pc : Int) + off = (tgt : Int)) (k : ax_J sh y cc mL ret dp P tgt ls st M) : ax_J sh y cc mL ret dp P pc ls (.inl x :: st) M :=
  ax_step (fun _ _ h => ax_ct h) (fun X _ hs _ _ _ w => lv_lookup X.1 X.2.1 hd hp (by rw [ax_i32 (ax_cr hs)]; exact ho) ht w) k
end AXR
end
