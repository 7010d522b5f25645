section
-- ===== PART A: goes FIRST, ahead of the names: the tables' words, and 'selects' of the private methods out of them =====
/-- a private method of a class that the tables say can be made, by its rows of tables_1 -/
def lw_okq (q : MethodName × Nat) : Prop := (q.1.cls ≠ "java/lang/invoke/MethodHandle" ∧ q.1.cls ≠ "java/lang/invoke/VarHandle") ∧ Cond.instantiable q.1.cls q.2 ∈ tables_1 ∧ Cond.privateMethod q.1 ∈ tables_1 ∧ Cond.instanceMethod q.1 ∈ tables_1
theorem lw_p0 : lw_okq (⟨"RowsIntoPlane$Page", "dueBehind", "(CI)I"⟩, 3) := ⟨⟨by decide +kernel, by decide +kernel⟩, List.mem_of_getElem? (i := 127) (by decide +kernel), List.mem_of_getElem? (i := 397) (by decide +kernel), List.mem_of_getElem? (i := 398) (by decide +kernel)⟩
theorem lw_p1 : lw_okq (⟨"RowsIntoPlane", "refusalOf", "(I)I"⟩, 11) := ⟨⟨by decide +kernel, by decide +kernel⟩, List.mem_of_getElem? (i := 14) (by decide +kernel), List.mem_of_getElem? (i := 421) (by decide +kernel), List.mem_of_getElem? (i := 422) (by decide +kernel)⟩
theorem lw_p2 : lw_okq (⟨"RowsIntoPlane", "hasCall", "(I)Z"⟩, 11) := ⟨⟨by decide +kernel, by decide +kernel⟩, List.mem_of_getElem? (i := 14) (by decide +kernel), List.mem_of_getElem? (i := 425) (by decide +kernel), List.mem_of_getElem? (i := 426) (by decide +kernel)⟩
theorem lw_p3 : lw_okq (⟨"RowsIntoPlane", "lineUp", "(II)V"⟩, 11) := ⟨⟨by decide +kernel, by decide +kernel⟩, List.mem_of_getElem? (i := 14) (by decide +kernel), List.mem_of_getElem? (i := 429) (by decide +kernel), List.mem_of_getElem? (i := 430) (by decide +kernel)⟩
theorem lw_p4 : lw_okq (⟨"RowsIntoPlane$Call", "isAhead", "(IILRowsIntoPlane$People;LRowsIntoPlane$Cabin;I)Z"⟩, 3) := ⟨⟨by decide +kernel, by decide +kernel⟩, List.mem_of_getElem? (i := 168) (by decide +kernel), List.mem_of_getElem? (i := 437) (by decide +kernel), List.mem_of_getElem? (i := 438) (by decide +kernel)⟩
theorem lw_p5 : lw_okq (⟨"RowsIntoPlane$Call", "valueOf", "(IILRowsIntoPlane$People;LRowsIntoPlane$Cabin;I)I"⟩, 3) := ⟨⟨by decide +kernel, by decide +kernel⟩, List.mem_of_getElem? (i := 168) (by decide +kernel), List.mem_of_getElem? (i := 444) (by decide +kernel), List.mem_of_getElem? (i := 445) (by decide +kernel)⟩
theorem lw_p6 : lw_okq (⟨"RowsIntoPlane", "boardBy", "(III)V"⟩, 11) := ⟨⟨by decide +kernel, by decide +kernel⟩, List.mem_of_getElem? (i := 14) (by decide +kernel), List.mem_of_getElem? (i := 471) (by decide +kernel), List.mem_of_getElem? (i := 472) (by decide +kernel)⟩
theorem lw_p7 : lw_okq (⟨"RowsIntoPlane$Boarding", "open", "(III)V"⟩, 16) := ⟨⟨by decide +kernel, by decide +kernel⟩, List.mem_of_getElem? (i := 184) (by decide +kernel), List.mem_of_getElem? (i := 479) (by decide +kernel), List.mem_of_getElem? (i := 480) (by decide +kernel)⟩
theorem lw_p8 : lw_okq (⟨"RowsIntoPlane$Boarding", "begin", "(LRowsIntoPlane$Line;)V"⟩, 16) := ⟨⟨by decide +kernel, by decide +kernel⟩, List.mem_of_getElem? (i := 184) (by decide +kernel), List.mem_of_getElem? (i := 488) (by decide +kernel), List.mem_of_getElem? (i := 489) (by decide +kernel)⟩
theorem lw_p9 : lw_okq (⟨"RowsIntoPlane$Boarding", "goOn", "(I)V"⟩, 16) := ⟨⟨by decide +kernel, by decide +kernel⟩, List.mem_of_getElem? (i := 184) (by decide +kernel), List.mem_of_getElem? (i := 492) (by decide +kernel), List.mem_of_getElem? (i := 493) (by decide +kernel)⟩
theorem lw_p10 : lw_okq (⟨"RowsIntoPlane$Boarding", "sitIfReady", "(III)V"⟩, 16) := ⟨⟨by decide +kernel, by decide +kernel⟩, List.mem_of_getElem? (i := 184) (by decide +kernel), List.mem_of_getElem? (i := 496) (by decide +kernel), List.mem_of_getElem? (i := 497) (by decide +kernel)⟩
theorem lw_p11 : lw_okq (⟨"RowsIntoPlane$Boarding", "timeToSit", "(I)I"⟩, 16) := ⟨⟨by decide +kernel, by decide +kernel⟩, List.mem_of_getElem? (i := 184) (by decide +kernel), List.mem_of_getElem? (i := 500) (by decide +kernel), List.mem_of_getElem? (i := 501) (by decide +kernel)⟩
theorem lw_p12 : lw_okq (⟨"RowsIntoPlane$Boarding", "inTheWayOf", "(I)I"⟩, 16) := ⟨⟨by decide +kernel, by decide +kernel⟩, List.mem_of_getElem? (i := 184) (by decide +kernel), List.mem_of_getElem? (i := 504) (by decide +kernel), List.mem_of_getElem? (i := 505) (by decide +kernel)⟩
theorem lw_p13 : lw_okq (⟨"RowsIntoPlane$Boarding", "nearestBin", "(I)I"⟩, 16) := ⟨⟨by decide +kernel, by decide +kernel⟩, List.mem_of_getElem? (i := 184) (by decide +kernel), List.mem_of_getElem? (i := 508) (by decide +kernel), List.mem_of_getElem? (i := 509) (by decide +kernel)⟩
theorem lw_p14 : lw_okq (⟨"RowsIntoPlane", "findBest", "()I"⟩, 11) := ⟨⟨by decide +kernel, by decide +kernel⟩, List.mem_of_getElem? (i := 14) (by decide +kernel), List.mem_of_getElem? (i := 539) (by decide +kernel), List.mem_of_getElem? (i := 540) (by decide +kernel)⟩
theorem lw_p15 : lw_okq (⟨"RowsIntoPlane", "secondsByDoors", "(I)I"⟩, 11) := ⟨⟨by decide +kernel, by decide +kernel⟩, List.mem_of_getElem? (i := 14) (by decide +kernel), List.mem_of_getElem? (i := 587) (by decide +kernel), List.mem_of_getElem? (i := 588) (by decide +kernel)⟩
def lw_privs_1 : List (MethodName × Nat) := [(⟨"RowsIntoPlane$Page", "dueBehind", "(CI)I"⟩, 3), (⟨"RowsIntoPlane", "refusalOf", "(I)I"⟩, 11), (⟨"RowsIntoPlane", "hasCall", "(I)Z"⟩, 11), (⟨"RowsIntoPlane", "lineUp", "(II)V"⟩, 11), (⟨"RowsIntoPlane$Call", "isAhead", "(IILRowsIntoPlane$People;LRowsIntoPlane$Cabin;I)Z"⟩, 3), (⟨"RowsIntoPlane$Call", "valueOf", "(IILRowsIntoPlane$People;LRowsIntoPlane$Cabin;I)I"⟩, 3), (⟨"RowsIntoPlane", "boardBy", "(III)V"⟩, 11), (⟨"RowsIntoPlane$Boarding", "open", "(III)V"⟩, 16), (⟨"RowsIntoPlane$Boarding", "begin", "(LRowsIntoPlane$Line;)V"⟩, 16), (⟨"RowsIntoPlane$Boarding", "goOn", "(I)V"⟩, 16), (⟨"RowsIntoPlane$Boarding", "sitIfReady", "(III)V"⟩, 16), (⟨"RowsIntoPlane$Boarding", "timeToSit", "(I)I"⟩, 16), (⟨"RowsIntoPlane$Boarding", "inTheWayOf", "(I)I"⟩, 16), (⟨"RowsIntoPlane$Boarding", "nearestBin", "(I)I"⟩, 16), (⟨"RowsIntoPlane", "findBest", "()I"⟩, 11), (⟨"RowsIntoPlane", "secondsByDoors", "(I)I"⟩, 11)]
theorem lw_r1 : ∀ q ∈ lw_privs_1, lw_okq q := List.forall_mem_cons.mpr ⟨lw_p0, List.forall_mem_cons.mpr ⟨lw_p1, List.forall_mem_cons.mpr ⟨lw_p2, List.forall_mem_cons.mpr ⟨lw_p3, List.forall_mem_cons.mpr ⟨lw_p4, List.forall_mem_cons.mpr ⟨lw_p5, List.forall_mem_cons.mpr ⟨lw_p6, List.forall_mem_cons.mpr ⟨lw_p7, List.forall_mem_cons.mpr ⟨lw_p8, List.forall_mem_cons.mpr ⟨lw_p9, List.forall_mem_cons.mpr ⟨lw_p10, List.forall_mem_cons.mpr ⟨lw_p11, List.forall_mem_cons.mpr ⟨lw_p12, List.forall_mem_cons.mpr ⟨lw_p13, List.forall_mem_cons.mpr ⟨lw_p14, List.forall_mem_cons.mpr ⟨lw_p15, fun _ h => absurd h List.not_mem_nil⟩⟩⟩⟩⟩⟩⟩⟩⟩⟩⟩⟩⟩⟩⟩⟩
theorem lw_p16 : lw_okq (⟨"RowsIntoPlane$Leaving", "goOn", "(I)V"⟩, 9) := ⟨⟨by decide +kernel, by decide +kernel⟩, List.mem_of_getElem? (i := 243) (by decide +kernel), List.mem_of_getElem? (i := 627) (by decide +kernel), List.mem_of_getElem? (i := 628) (by decide +kernel)⟩
theorem lw_p17 : lw_okq (⟨"RowsIntoPlane$Leaving", "getUp", "()V"⟩, 9) := ⟨⟨by decide +kernel, by decide +kernel⟩, List.mem_of_getElem? (i := 243) (by decide +kernel), List.mem_of_getElem? (i := 631) (by decide +kernel), List.mem_of_getElem? (i := 632) (by decide +kernel)⟩
theorem lw_p18 : lw_okq (⟨"RowsIntoPlane$Leaving", "leastTurn", "()I"⟩, 9) := ⟨⟨by decide +kernel, by decide +kernel⟩, List.mem_of_getElem? (i := 243) (by decide +kernel), List.mem_of_getElem? (i := 635) (by decide +kernel), List.mem_of_getElem? (i := 636) (by decide +kernel)⟩
theorem lw_p19 : lw_okq (⟨"RowsIntoPlane$Leaving", "turnOf", "(I)I"⟩, 9) := ⟨⟨by decide +kernel, by decide +kernel⟩, List.mem_of_getElem? (i := 243) (by decide +kernel), List.mem_of_getElem? (i := 639) (by decide +kernel), List.mem_of_getElem? (i := 640) (by decide +kernel)⟩
theorem lw_p20 : lw_okq (⟨"RowsIntoPlane$Leaving", "nextOf", "(II)I"⟩, 9) := ⟨⟨by decide +kernel, by decide +kernel⟩, List.mem_of_getElem? (i := 243) (by decide +kernel), List.mem_of_getElem? (i := 643) (by decide +kernel), List.mem_of_getElem? (i := 644) (by decide +kernel)⟩
theorem lw_p21 : lw_okq (⟨"RowsIntoPlane$Leaving", "isNearer", "(II)Z"⟩, 9) := ⟨⟨by decide +kernel, by decide +kernel⟩, List.mem_of_getElem? (i := 243) (by decide +kernel), List.mem_of_getElem? (i := 647) (by decide +kernel), List.mem_of_getElem? (i := 648) (by decide +kernel)⟩
theorem lw_p22 : lw_okq (⟨"RowsIntoPlane", "withCall", "(JI)J"⟩, 11) := ⟨⟨by decide +kernel, by decide +kernel⟩, List.mem_of_getElem? (i := 14) (by decide +kernel), List.mem_of_getElem? (i := 698) (by decide +kernel), List.mem_of_getElem? (i := 699) (by decide +kernel)⟩
theorem lw_p23 : lw_okq (⟨"RowsIntoPlaneModel", "lacks", "()Z"⟩, 37) := ⟨⟨by decide +kernel, by decide +kernel⟩, List.mem_of_getElem? (i := 706) (by decide +kernel), List.mem_of_getElem? (i := 839) (by decide +kernel), List.mem_of_getElem? (i := 840) (by decide +kernel)⟩
theorem lw_p24 : lw_okq (⟨"RowsIntoPlaneModel", "isPerson", "(I)Z"⟩, 37) := ⟨⟨by decide +kernel, by decide +kernel⟩, List.mem_of_getElem? (i := 706) (by decide +kernel), List.mem_of_getElem? (i := 843) (by decide +kernel), List.mem_of_getElem? (i := 844) (by decide +kernel)⟩
theorem lw_p25 : lw_okq (⟨"RowsIntoPlaneModel", "isTaken", "(III)Z"⟩, 37) := ⟨⟨by decide +kernel, by decide +kernel⟩, List.mem_of_getElem? (i := 706) (by decide +kernel), List.mem_of_getElem? (i := 848) (by decide +kernel), List.mem_of_getElem? (i := 849) (by decide +kernel)⟩
theorem lw_p26 : lw_okq (⟨"RowsIntoPlaneModel", "faultOf", "()I"⟩, 37) := ⟨⟨by decide +kernel, by decide +kernel⟩, List.mem_of_getElem? (i := 706) (by decide +kernel), List.mem_of_getElem? (i := 878) (by decide +kernel), List.mem_of_getElem? (i := 879) (by decide +kernel)⟩
theorem lw_p27 : lw_okq (⟨"RowsIntoPlaneModel", "go", "(I)Z"⟩, 37) := ⟨⟨by decide +kernel, by decide +kernel⟩, List.mem_of_getElem? (i := 706) (by decide +kernel), List.mem_of_getElem? (i := 882) (by decide +kernel), List.mem_of_getElem? (i := 883) (by decide +kernel)⟩
theorem lw_p28 : lw_okq (⟨"RowsIntoPlaneModel", "isCall", "(I)Z"⟩, 37) := ⟨⟨by decide +kernel, by decide +kernel⟩, List.mem_of_getElem? (i := 706) (by decide +kernel), List.mem_of_getElem? (i := 899) (by decide +kernel), List.mem_of_getElem? (i := 900) (by decide +kernel)⟩
theorem lw_p29 : lw_okq (⟨"RowsIntoPlaneModel", "layPeople", "(I)V"⟩, 37) := ⟨⟨by decide +kernel, by decide +kernel⟩, List.mem_of_getElem? (i := 706) (by decide +kernel), List.mem_of_getElem? (i := 904) (by decide +kernel), List.mem_of_getElem? (i := 905) (by decide +kernel)⟩
theorem lw_p30 : lw_okq (⟨"RowsIntoPlaneModel", "layOrder", "(I)V"⟩, 37) := ⟨⟨by decide +kernel, by decide +kernel⟩, List.mem_of_getElem? (i := 706) (by decide +kernel), List.mem_of_getElem? (i := 908) (by decide +kernel), List.mem_of_getElem? (i := 909) (by decide +kernel)⟩
theorem lw_p31 : lw_okq (⟨"RowsIntoPlaneModel", "isAhead", "(III)Z"⟩, 37) := ⟨⟨by decide +kernel, by decide +kernel⟩, List.mem_of_getElem? (i := 706) (by decide +kernel), List.mem_of_getElem? (i := 912) (by decide +kernel), List.mem_of_getElem? (i := 913) (by decide +kernel)⟩
def lw_privs_2 : List (MethodName × Nat) := [(⟨"RowsIntoPlane$Leaving", "goOn", "(I)V"⟩, 9), (⟨"RowsIntoPlane$Leaving", "getUp", "()V"⟩, 9), (⟨"RowsIntoPlane$Leaving", "leastTurn", "()I"⟩, 9), (⟨"RowsIntoPlane$Leaving", "turnOf", "(I)I"⟩, 9), (⟨"RowsIntoPlane$Leaving", "nextOf", "(II)I"⟩, 9), (⟨"RowsIntoPlane$Leaving", "isNearer", "(II)Z"⟩, 9), (⟨"RowsIntoPlane", "withCall", "(JI)J"⟩, 11), (⟨"RowsIntoPlaneModel", "lacks", "()Z"⟩, 37), (⟨"RowsIntoPlaneModel", "isPerson", "(I)Z"⟩, 37), (⟨"RowsIntoPlaneModel", "isTaken", "(III)Z"⟩, 37), (⟨"RowsIntoPlaneModel", "faultOf", "()I"⟩, 37), (⟨"RowsIntoPlaneModel", "go", "(I)Z"⟩, 37), (⟨"RowsIntoPlaneModel", "isCall", "(I)Z"⟩, 37), (⟨"RowsIntoPlaneModel", "layPeople", "(I)V"⟩, 37), (⟨"RowsIntoPlaneModel", "layOrder", "(I)V"⟩, 37), (⟨"RowsIntoPlaneModel", "isAhead", "(III)Z"⟩, 37)]
theorem lw_r2 : ∀ q ∈ lw_privs_2, lw_okq q := List.forall_mem_cons.mpr ⟨lw_p16, List.forall_mem_cons.mpr ⟨lw_p17, List.forall_mem_cons.mpr ⟨lw_p18, List.forall_mem_cons.mpr ⟨lw_p19, List.forall_mem_cons.mpr ⟨lw_p20, List.forall_mem_cons.mpr ⟨lw_p21, List.forall_mem_cons.mpr ⟨lw_p22, List.forall_mem_cons.mpr ⟨lw_p23, List.forall_mem_cons.mpr ⟨lw_p24, List.forall_mem_cons.mpr ⟨lw_p25, List.forall_mem_cons.mpr ⟨lw_p26, List.forall_mem_cons.mpr ⟨lw_p27, List.forall_mem_cons.mpr ⟨lw_p28, List.forall_mem_cons.mpr ⟨lw_p29, List.forall_mem_cons.mpr ⟨lw_p30, List.forall_mem_cons.mpr ⟨lw_p31, fun _ h => absurd h List.not_mem_nil⟩⟩⟩⟩⟩⟩⟩⟩⟩⟩⟩⟩⟩⟩⟩⟩
theorem lw_p32 : lw_okq (⟨"RowsIntoPlaneModel", "valueOf", "(III)I"⟩, 37) := ⟨⟨by decide +kernel, by decide +kernel⟩, List.mem_of_getElem? (i := 706) (by decide +kernel), List.mem_of_getElem? (i := 919) (by decide +kernel), List.mem_of_getElem? (i := 920) (by decide +kernel)⟩
theorem lw_p33 : lw_okq (⟨"RowsIntoPlaneModel", "depthOf", "(I)I"⟩, 37) := ⟨⟨by decide +kernel, by decide +kernel⟩, List.mem_of_getElem? (i := 706) (by decide +kernel), List.mem_of_getElem? (i := 923) (by decide +kernel), List.mem_of_getElem? (i := 924) (by decide +kernel)⟩
theorem lw_p34 : lw_okq (⟨"RowsIntoPlaneModel", "sideOf", "(I)I"⟩, 37) := ⟨⟨by decide +kernel, by decide +kernel⟩, List.mem_of_getElem? (i := 706) (by decide +kernel), List.mem_of_getElem? (i := 927) (by decide +kernel), List.mem_of_getElem? (i := 928) (by decide +kernel)⟩
theorem lw_p35 : lw_okq (⟨"RowsIntoPlaneModel", "put", "(II)V"⟩, 37) := ⟨⟨by decide +kernel, by decide +kernel⟩, List.mem_of_getElem? (i := 706) (by decide +kernel), List.mem_of_getElem? (i := 931) (by decide +kernel), List.mem_of_getElem? (i := 932) (by decide +kernel)⟩
theorem lw_p36 : lw_okq (⟨"RowsIntoPlaneModel", "placeOf", "(I)I"⟩, 37) := ⟨⟨by decide +kernel, by decide +kernel⟩, List.mem_of_getElem? (i := 706) (by decide +kernel), List.mem_of_getElem? (i := 935) (by decide +kernel), List.mem_of_getElem? (i := 936) (by decide +kernel)⟩
theorem lw_p37 : lw_okq (⟨"RowsIntoPlaneModel", "boardOf", "(II)I"⟩, 37) := ⟨⟨by decide +kernel, by decide +kernel⟩, List.mem_of_getElem? (i := 706) (by decide +kernel), List.mem_of_getElem? (i := 943) (by decide +kernel), List.mem_of_getElem? (i := 944) (by decide +kernel)⟩
theorem lw_p38 : lw_okq (⟨"RowsIntoPlaneModel", "boardBy", "(I)I"⟩, 37) := ⟨⟨by decide +kernel, by decide +kernel⟩, List.mem_of_getElem? (i := 706) (by decide +kernel), List.mem_of_getElem? (i := 947) (by decide +kernel), List.mem_of_getElem? (i := 948) (by decide +kernel)⟩
theorem lw_p39 : lw_okq (⟨"RowsIntoPlaneModel", "boardAll", "()I"⟩, 37) := ⟨⟨by decide +kernel, by decide +kernel⟩, List.mem_of_getElem? (i := 706) (by decide +kernel), List.mem_of_getElem? (i := 951) (by decide +kernel), List.mem_of_getElem? (i := 952) (by decide +kernel)⟩
theorem lw_p40 : lw_okq (⟨"RowsIntoPlaneModel", "beginBoard", "()V"⟩, 37) := ⟨⟨by decide +kernel, by decide +kernel⟩, List.mem_of_getElem? (i := 706) (by decide +kernel), List.mem_of_getElem? (i := 955) (by decide +kernel), List.mem_of_getElem? (i := 956) (by decide +kernel)⟩
theorem lw_p41 : lw_okq (⟨"RowsIntoPlaneModel", "goSecond", "(I)V"⟩, 37) := ⟨⟨by decide +kernel, by decide +kernel⟩, List.mem_of_getElem? (i := 706) (by decide +kernel), List.mem_of_getElem? (i := 959) (by decide +kernel), List.mem_of_getElem? (i := 960) (by decide +kernel)⟩
theorem lw_p42 : lw_okq (⟨"RowsIntoPlaneModel", "goCell", "(II)V"⟩, 37) := ⟨⟨by decide +kernel, by decide +kernel⟩, List.mem_of_getElem? (i := 706) (by decide +kernel), List.mem_of_getElem? (i := 963) (by decide +kernel), List.mem_of_getElem? (i := 964) (by decide +kernel)⟩
theorem lw_p43 : lw_okq (⟨"RowsIntoPlaneModel", "sit", "(III)V"⟩, 37) := ⟨⟨by decide +kernel, by decide +kernel⟩, List.mem_of_getElem? (i := 706) (by decide +kernel), List.mem_of_getElem? (i := 967) (by decide +kernel), List.mem_of_getElem? (i := 968) (by decide +kernel)⟩
theorem lw_p44 : lw_okq (⟨"RowsIntoPlaneModel", "begin", "(I)I"⟩, 37) := ⟨⟨by decide +kernel, by decide +kernel⟩, List.mem_of_getElem? (i := 706) (by decide +kernel), List.mem_of_getElem? (i := 971) (by decide +kernel), List.mem_of_getElem? (i := 972) (by decide +kernel)⟩
theorem lw_p45 : lw_okq (⟨"RowsIntoPlaneModel", "nearestBin", "(I)I"⟩, 37) := ⟨⟨by decide +kernel, by decide +kernel⟩, List.mem_of_getElem? (i := 706) (by decide +kernel), List.mem_of_getElem? (i := 975) (by decide +kernel), List.mem_of_getElem? (i := 976) (by decide +kernel)⟩
theorem lw_p46 : lw_okq (⟨"RowsIntoPlaneModel", "leastOf", "()I"⟩, 37) := ⟨⟨by decide +kernel, by decide +kernel⟩, List.mem_of_getElem? (i := 706) (by decide +kernel), List.mem_of_getElem? (i := 992) (by decide +kernel), List.mem_of_getElem? (i := 993) (by decide +kernel)⟩
theorem lw_p47 : lw_okq (⟨"RowsIntoPlaneModel", "layNumber", "(I)Z"⟩, 37) := ⟨⟨by decide +kernel, by decide +kernel⟩, List.mem_of_getElem? (i := 706) (by decide +kernel), List.mem_of_getElem? (i := 1001) (by decide +kernel), List.mem_of_getElem? (i := 1002) (by decide +kernel)⟩
def lw_privs_3 : List (MethodName × Nat) := [(⟨"RowsIntoPlaneModel", "valueOf", "(III)I"⟩, 37), (⟨"RowsIntoPlaneModel", "depthOf", "(I)I"⟩, 37), (⟨"RowsIntoPlaneModel", "sideOf", "(I)I"⟩, 37), (⟨"RowsIntoPlaneModel", "put", "(II)V"⟩, 37), (⟨"RowsIntoPlaneModel", "placeOf", "(I)I"⟩, 37), (⟨"RowsIntoPlaneModel", "boardOf", "(II)I"⟩, 37), (⟨"RowsIntoPlaneModel", "boardBy", "(I)I"⟩, 37), (⟨"RowsIntoPlaneModel", "boardAll", "()I"⟩, 37), (⟨"RowsIntoPlaneModel", "beginBoard", "()V"⟩, 37), (⟨"RowsIntoPlaneModel", "goSecond", "(I)V"⟩, 37), (⟨"RowsIntoPlaneModel", "goCell", "(II)V"⟩, 37), (⟨"RowsIntoPlaneModel", "sit", "(III)V"⟩, 37), (⟨"RowsIntoPlaneModel", "begin", "(I)I"⟩, 37), (⟨"RowsIntoPlaneModel", "nearestBin", "(I)I"⟩, 37), (⟨"RowsIntoPlaneModel", "leastOf", "()I"⟩, 37), (⟨"RowsIntoPlaneModel", "layNumber", "(I)Z"⟩, 37)]
theorem lw_r3 : ∀ q ∈ lw_privs_3, lw_okq q := List.forall_mem_cons.mpr ⟨lw_p32, List.forall_mem_cons.mpr ⟨lw_p33, List.forall_mem_cons.mpr ⟨lw_p34, List.forall_mem_cons.mpr ⟨lw_p35, List.forall_mem_cons.mpr ⟨lw_p36, List.forall_mem_cons.mpr ⟨lw_p37, List.forall_mem_cons.mpr ⟨lw_p38, List.forall_mem_cons.mpr ⟨lw_p39, List.forall_mem_cons.mpr ⟨lw_p40, List.forall_mem_cons.mpr ⟨lw_p41, List.forall_mem_cons.mpr ⟨lw_p42, List.forall_mem_cons.mpr ⟨lw_p43, List.forall_mem_cons.mpr ⟨lw_p44, List.forall_mem_cons.mpr ⟨lw_p45, List.forall_mem_cons.mpr ⟨lw_p46, List.forall_mem_cons.mpr ⟨lw_p47, fun _ h => absurd h List.not_mem_nil⟩⟩⟩⟩⟩⟩⟩⟩⟩⟩⟩⟩⟩⟩⟩⟩
theorem lw_p48 : lw_okq (⟨"RowsIntoPlaneModel", "everybody", "()I"⟩, 37) := ⟨⟨by decide +kernel, by decide +kernel⟩, List.mem_of_getElem? (i := 706) (by decide +kernel), List.mem_of_getElem? (i := 1005) (by decide +kernel), List.mem_of_getElem? (i := 1006) (by decide +kernel)⟩
theorem lw_p49 : lw_okq (⟨"RowsIntoPlaneModel", "exchange", "(II)V"⟩, 37) := ⟨⟨by decide +kernel, by decide +kernel⟩, List.mem_of_getElem? (i := 706) (by decide +kernel), List.mem_of_getElem? (i := 1013) (by decide +kernel), List.mem_of_getElem? (i := 1014) (by decide +kernel)⟩
theorem lw_p50 : lw_okq (⟨"RowsIntoPlaneModel", "doorsOf", "(I)I"⟩, 37) := ⟨⟨by decide +kernel, by decide +kernel⟩, List.mem_of_getElem? (i := 706) (by decide +kernel), List.mem_of_getElem? (i := 1029) (by decide +kernel), List.mem_of_getElem? (i := 1030) (by decide +kernel)⟩
theorem lw_p51 : lw_okq (⟨"RowsIntoPlaneModel", "layPart", "(II)V"⟩, 37) := ⟨⟨by decide +kernel, by decide +kernel⟩, List.mem_of_getElem? (i := 706) (by decide +kernel), List.mem_of_getElem? (i := 1033) (by decide +kernel), List.mem_of_getElem? (i := 1034) (by decide +kernel)⟩
theorem lw_p52 : lw_okq (⟨"RowsIntoPlaneModel", "mixedOf", "(III)I"⟩, 37) := ⟨⟨by decide +kernel, by decide +kernel⟩, List.mem_of_getElem? (i := 706) (by decide +kernel), List.mem_of_getElem? (i := 1042) (by decide +kernel), List.mem_of_getElem? (i := 1043) (by decide +kernel)⟩
theorem lw_p53 : lw_okq (⟨"RowsIntoPlaneModel", "draw", "(I)I"⟩, 37) := ⟨⟨by decide +kernel, by decide +kernel⟩, List.mem_of_getElem? (i := 706) (by decide +kernel), List.mem_of_getElem? (i := 1046) (by decide +kernel), List.mem_of_getElem? (i := 1047) (by decide +kernel)⟩
theorem lw_p54 : lw_okq (⟨"RowsIntoPlaneModel", "goOut", "(I)I"⟩, 37) := ⟨⟨by decide +kernel, by decide +kernel⟩, List.mem_of_getElem? (i := 706) (by decide +kernel), List.mem_of_getElem? (i := 1058) (by decide +kernel), List.mem_of_getElem? (i := 1059) (by decide +kernel)⟩
theorem lw_p55 : lw_okq (⟨"RowsIntoPlaneModel", "getUp", "(I)V"⟩, 37) := ⟨⟨by decide +kernel, by decide +kernel⟩, List.mem_of_getElem? (i := 706) (by decide +kernel), List.mem_of_getElem? (i := 1062) (by decide +kernel), List.mem_of_getElem? (i := 1063) (by decide +kernel)⟩
theorem lw_p56 : lw_okq (⟨"RowsIntoPlaneModel", "lowestOf", "(I)I"⟩, 37) := ⟨⟨by decide +kernel, by decide +kernel⟩, List.mem_of_getElem? (i := 706) (by decide +kernel), List.mem_of_getElem? (i := 1066) (by decide +kernel), List.mem_of_getElem? (i := 1067) (by decide +kernel)⟩
theorem lw_p57 : lw_okq (⟨"RowsIntoPlaneModel", "mayGo", "(III)Z"⟩, 37) := ⟨⟨by decide +kernel, by decide +kernel⟩, List.mem_of_getElem? (i := 706) (by decide +kernel), List.mem_of_getElem? (i := 1070) (by decide +kernel), List.mem_of_getElem? (i := 1071) (by decide +kernel)⟩
theorem lw_p58 : lw_okq (⟨"RowsIntoPlaneModel", "countOf", "(I)I"⟩, 37) := ⟨⟨by decide +kernel, by decide +kernel⟩, List.mem_of_getElem? (i := 706) (by decide +kernel), List.mem_of_getElem? (i := 1099) (by decide +kernel), List.mem_of_getElem? (i := 1100) (by decide +kernel)⟩
theorem lw_p59 : lw_okq (⟨"RowsIntoPlaneModel", "bagsOfAll", "()I"⟩, 37) := ⟨⟨by decide +kernel, by decide +kernel⟩, List.mem_of_getElem? (i := 706) (by decide +kernel), List.mem_of_getElem? (i := 1103) (by decide +kernel), List.mem_of_getElem? (i := 1104) (by decide +kernel)⟩
theorem lw_p60 : lw_okq (⟨"RowsIntoPlaneModel", "say", "(J)V"⟩, 37) := ⟨⟨by decide +kernel, by decide +kernel⟩, List.mem_of_getElem? (i := 706) (by decide +kernel), List.mem_of_getElem? (i := 1112) (by decide +kernel), List.mem_of_getElem? (i := 1113) (by decide +kernel)⟩
theorem lw_p61 : lw_okq (⟨"RowsIntoPlaneModel", "sayCalls", "()V"⟩, 37) := ⟨⟨by decide +kernel, by decide +kernel⟩, List.mem_of_getElem? (i := 706) (by decide +kernel), List.mem_of_getElem? (i := 1117) (by decide +kernel), List.mem_of_getElem? (i := 1118) (by decide +kernel)⟩
def lw_privs_4 : List (MethodName × Nat) := [(⟨"RowsIntoPlaneModel", "everybody", "()I"⟩, 37), (⟨"RowsIntoPlaneModel", "exchange", "(II)V"⟩, 37), (⟨"RowsIntoPlaneModel", "doorsOf", "(I)I"⟩, 37), (⟨"RowsIntoPlaneModel", "layPart", "(II)V"⟩, 37), (⟨"RowsIntoPlaneModel", "mixedOf", "(III)I"⟩, 37), (⟨"RowsIntoPlaneModel", "draw", "(I)I"⟩, 37), (⟨"RowsIntoPlaneModel", "goOut", "(I)I"⟩, 37), (⟨"RowsIntoPlaneModel", "getUp", "(I)V"⟩, 37), (⟨"RowsIntoPlaneModel", "lowestOf", "(I)I"⟩, 37), (⟨"RowsIntoPlaneModel", "mayGo", "(III)Z"⟩, 37), (⟨"RowsIntoPlaneModel", "countOf", "(I)I"⟩, 37), (⟨"RowsIntoPlaneModel", "bagsOfAll", "()I"⟩, 37), (⟨"RowsIntoPlaneModel", "say", "(J)V"⟩, 37), (⟨"RowsIntoPlaneModel", "sayCalls", "()V"⟩, 37)]
theorem lw_r4 : ∀ q ∈ lw_privs_4, lw_okq q := List.forall_mem_cons.mpr ⟨lw_p48, List.forall_mem_cons.mpr ⟨lw_p49, List.forall_mem_cons.mpr ⟨lw_p50, List.forall_mem_cons.mpr ⟨lw_p51, List.forall_mem_cons.mpr ⟨lw_p52, List.forall_mem_cons.mpr ⟨lw_p53, List.forall_mem_cons.mpr ⟨lw_p54, List.forall_mem_cons.mpr ⟨lw_p55, List.forall_mem_cons.mpr ⟨lw_p56, List.forall_mem_cons.mpr ⟨lw_p57, List.forall_mem_cons.mpr ⟨lw_p58, List.forall_mem_cons.mpr ⟨lw_p59, List.forall_mem_cons.mpr ⟨lw_p60, List.forall_mem_cons.mpr ⟨lw_p61, fun _ h => absurd h List.not_mem_nil⟩⟩⟩⟩⟩⟩⟩⟩⟩⟩⟩⟩⟩⟩
def lw_privs : List (MethodName × Nat) := lw_privs_1 ++ (lw_privs_2 ++ (lw_privs_3 ++ (lw_privs_4)))
def lw_tbl : List Cond := k2_sels lw_privs ++ tables_1
theorem lw_privs_ok : ∀ q ∈ lw_privs, lw_okq q := by
  show ∀ q ∈ lw_privs_1 ++ (lw_privs_2 ++ (lw_privs_3 ++ (lw_privs_4))), lw_okq q
  exact List.forall_mem_append.mpr ⟨lw_r1, List.forall_mem_append.mpr ⟨lw_r2, List.forall_mem_append.mpr ⟨lw_r3, lw_r4⟩⟩⟩
end
section
/-! names: classes and their fields, methods, links (by program gen01.py) -/
def ax_Ts : List Cond := lw_tbl.filter goodWord
theorem ax_mem {w : Cond} (i : Nat) (h : lw_tbl[i]? = some w) (hg : goodWord w = true) : w ∈ ax_Ts := List.mem_filter.mpr ⟨List.mem_of_getElem? h, hg⟩
theorem ax_Ts_sub : ∀ w ∈ ax_Ts, w ∈ lw_tbl := fun w h => (List.mem_filter.mp h).1
theorem ax_Ts_good : ∀ w ∈ ax_Ts, goodWord w = true := fun w h => (List.mem_filter.mp h).2
abbrev rn_0 : String := "RowsIntoPlane$Boarding"
def tb_0 : u_T := fun k => match k with
  | 0 => ("RowsIntoPlane$Boarding", "people", "LRowsIntoPlane$People;", true)
  | 1 => ("RowsIntoPlane$Boarding", "row", "[I", true)
  | 2 => ("RowsIntoPlane$Boarding", "bags", "[I", true)
  | 3 => ("RowsIntoPlane$Boarding", "coming", "[I", true)
  | 4 => ("RowsIntoPlane$Boarding", "left", "[I", true)
  | 5 => ("RowsIntoPlane$Boarding", "busy", "[I", true)
  | 6 => ("RowsIntoPlane$Boarding", "sat", "[I", true)
  | 7 => ("RowsIntoPlane$Boarding", "waited", "[I", true)
  | 8 => ("RowsIntoPlane$Boarding", "bins", "[[I", true)
  | 9 => ("RowsIntoPlane$Boarding", "aisle", "[I", true)
  | 10 => ("RowsIntoPlane$Boarding", "rows", "I", false)
  | 11 => ("RowsIntoPlane$Boarding", "room", "I", false)
  | 12 => ("RowsIntoPlane$Boarding", "many", "I", false)
  | 13 => ("RowsIntoPlane$Boarding", "seated", "I", false)
  | 14 => ("RowsIntoPlane$Boarding", "below", "I", false)
  | _ => ("RowsIntoPlane$Boarding", "seconds", "I", false)
def ft_0 : Nat → FieldType := fun k => match k with
  | 0 => .object "RowsIntoPlane$People"
  | 1 => .array .int
  | 2 => .array .int
  | 3 => .array .int
  | 4 => .array .int
  | 5 => .array .int
  | 6 => .array .int
  | 7 => .array .int
  | 8 => .array (.array .int)
  | 9 => .array .int
  | 10 => .int
  | 11 => .int
  | 12 => .int
  | 13 => .int
  | 14 => .int
  | _ => .int
abbrev rn_1 : String := "RowsIntoPlane$Cabin"
def tb_1 : u_T := fun k => match k with
  | 0 => ("RowsIntoPlane$Cabin", "rows", "I", false)
  | 1 => ("RowsIntoPlane$Cabin", "wide", "I", false)
  | 2 => ("RowsIntoPlane$Cabin", "room", "I", false)
  | _ => ("RowsIntoPlane$Cabin", "built", "I", false)
def ft_1 : Nat → FieldType := fun k => match k with
  | 0 => .int
  | 1 => .int
  | 2 => .int
  | _ => .int
abbrev rn_2 : String := "RowsIntoPlane$Call"
def tb_2 : u_T := fun k => match k with
  | 0 => ("RowsIntoPlane$Call", "keys", "[C", true)
  | 1 => ("RowsIntoPlane$Call", "numbers", "[I", true)
  | _ => ("RowsIntoPlane$Call", "size", "I", false)
def ft_2 : Nat → FieldType := fun k => match k with
  | 0 => .array .char
  | 1 => .array .int
  | _ => .int
abbrev rn_3 : String := "RowsIntoPlane$Image"
def tb_3 : u_T := fun k => match k with
  | 0 => ("RowsIntoPlane$Image", "bags", "[I", true)
  | 1 => ("RowsIntoPlane$Image", "worth", "[I", true)
  | 2 => ("RowsIntoPlane$Image", "size", "I", false)
  | _ => ("RowsIntoPlane$Image", "isKept", "Z", false)
def ft_3 : Nat → FieldType := fun k => match k with
  | 0 => .array .int
  | 1 => .array .int
  | 2 => .int
  | _ => .boolean
abbrev rn_4 : String := "RowsIntoPlane$Leaving"
def tb_4 : u_T := fun k => match k with
  | 0 => ("RowsIntoPlane$Leaving", "people", "LRowsIntoPlane$People;", true)
  | 1 => ("RowsIntoPlane$Leaving", "aisle", "[I", true)
  | 2 => ("RowsIntoPlane$Leaving", "busy", "[I", true)
  | 3 => ("RowsIntoPlane$Leaving", "isUp", "[Z", true)
  | 4 => ("RowsIntoPlane$Leaving", "wentOut", "[I", true)
  | 5 => ("RowsIntoPlane$Leaving", "rows", "I", false)
  | 6 => ("RowsIntoPlane$Leaving", "manner", "I", false)
  | 7 => ("RowsIntoPlane$Leaving", "gone", "I", false)
  | _ => ("RowsIntoPlane$Leaving", "seconds", "I", false)
def ft_4 : Nat → FieldType := fun k => match k with
  | 0 => .object "RowsIntoPlane$People"
  | 1 => .array .int
  | 2 => .array .int
  | 3 => .array .boolean
  | 4 => .array .int
  | 5 => .int
  | 6 => .int
  | 7 => .int
  | _ => .int
abbrev rn_5 : String := "RowsIntoPlane$Line"
def tb_5 : u_T := fun k => match k with
  | 0 => ("RowsIntoPlane$Line", "who", "[I", true)
  | _ => ("RowsIntoPlane$Line", "size", "I", false)
def ft_5 : Nat → FieldType := fun k => match k with
  | 0 => .array .int
  | _ => .int
abbrev rn_6 : String := "RowsIntoPlane$Page"
def tb_6 : u_T := fun k => match k with
  | 0 => ("RowsIntoPlane$Page", "letters", "[C", true)
  | 1 => ("RowsIntoPlane$Page", "size", "I", false)
  | _ => ("RowsIntoPlane$Page", "due", "I", false)
def ft_6 : Nat → FieldType := fun k => match k with
  | 0 => .array .char
  | 1 => .int
  | _ => .int
abbrev rn_7 : String := "RowsIntoPlane$People"
def tb_7 : u_T := fun k => match k with
  | 0 => ("RowsIntoPlane$People", "kind", "[I", true)
  | 1 => ("RowsIntoPlane$People", "with", "[I", true)
  | 2 => ("RowsIntoPlane$People", "row", "[I", true)
  | 3 => ("RowsIntoPlane$People", "side", "[I", true)
  | 4 => ("RowsIntoPlane$People", "depth", "[I", true)
  | 5 => ("RowsIntoPlane$People", "bags", "[I", true)
  | 6 => ("RowsIntoPlane$People", "worth", "[I", true)
  | _ => ("RowsIntoPlane$People", "size", "I", false)
def ft_7 : Nat → FieldType := fun k => match k with
  | 0 => .array .int
  | 1 => .array .int
  | 2 => .array .int
  | 3 => .array .int
  | 4 => .array .int
  | 5 => .array .int
  | 6 => .array .int
  | _ => .int
abbrev rn_8 : String := "RowsIntoPlane"
def tb_8 : u_T := fun k => match k with
  | 0 => ("RowsIntoPlane", "cabin", "LRowsIntoPlane$Cabin;", true)
  | 1 => ("RowsIntoPlane", "people", "LRowsIntoPlane$People;", true)
  | 2 => ("RowsIntoPlane", "image", "LRowsIntoPlane$Image;", true)
  | 3 => ("RowsIntoPlane", "page", "LRowsIntoPlane$Page;", true)
  | 4 => ("RowsIntoPlane", "calls", "[LRowsIntoPlane$Call;", true)
  | 5 => ("RowsIntoPlane", "line", "LRowsIntoPlane$Line;", true)
  | 6 => ("RowsIntoPlane", "best", "LRowsIntoPlane$Line;", true)
  | 7 => ("RowsIntoPlane", "boarding", "LRowsIntoPlane$Boarding;", true)
  | 8 => ("RowsIntoPlane", "leaving", "LRowsIntoPlane$Leaving;", true)
  | 9 => ("RowsIntoPlane", "callCount", "I", false)
  | _ => ("RowsIntoPlane", "bestDone", "I", false)
def ft_8 : Nat → FieldType := fun k => match k with
  | 0 => .object "RowsIntoPlane$Cabin"
  | 1 => .object "RowsIntoPlane$People"
  | 2 => .object "RowsIntoPlane$Image"
  | 3 => .object "RowsIntoPlane$Page"
  | 4 => .array (.object "RowsIntoPlane$Call")
  | 5 => .object "RowsIntoPlane$Line"
  | 6 => .object "RowsIntoPlane$Line"
  | 7 => .object "RowsIntoPlane$Boarding"
  | 8 => .object "RowsIntoPlane$Leaving"
  | 9 => .int
  | _ => .int
abbrev rn_9 : String := "RowsIntoPlaneModel"
def tb_9 : u_T := fun k => match k with
  | 0 => ("RowsIntoPlaneModel", "rows", "I", false)
  | 1 => ("RowsIntoPlaneModel", "wide", "I", false)
  | 2 => ("RowsIntoPlaneModel", "room", "I", false)
  | 3 => ("RowsIntoPlaneModel", "cabins", "I", false)
  | 4 => ("RowsIntoPlaneModel", "people", "I", false)
  | 5 => ("RowsIntoPlaneModel", "persons", "[I", true)
  | 6 => ("RowsIntoPlaneModel", "page", "[I", true)
  | 7 => ("RowsIntoPlaneModel", "pageMany", "I", false)
  | 8 => ("RowsIntoPlaneModel", "calls", "I", false)
  | 9 => ("RowsIntoPlaneModel", "keys", "[I", true)
  | 10 => ("RowsIntoPlaneModel", "state", "I", false)
  | 11 => ("RowsIntoPlaneModel", "readMany", "I", false)
  | 12 => ("RowsIntoPlaneModel", "readRow", "[I", true)
  | 13 => ("RowsIntoPlaneModel", "rowsNow", "I", false)
  | 14 => ("RowsIntoPlaneModel", "rowNow", "[I", true)
  | 15 => ("RowsIntoPlaneModel", "bagsNow", "[I", true)
  | 16 => ("RowsIntoPlaneModel", "queue", "[I", true)
  | 17 => ("RowsIntoPlaneModel", "queued", "I", false)
  | 18 => ("RowsIntoPlaneModel", "aisle", "[I", true)
  | 19 => ("RowsIntoPlaneModel", "busy", "[I", true)
  | 20 => ("RowsIntoPlaneModel", "satAt", "[I", true)
  | 21 => ("RowsIntoPlaneModel", "waited", "[I", true)
  | 22 => ("RowsIntoPlaneModel", "bins", "[I", true)
  | 23 => ("RowsIntoPlaneModel", "binOf", "[I", true)
  | 24 => ("RowsIntoPlaneModel", "belowNow", "I", false)
  | 25 => ("RowsIntoPlaneModel", "came", "I", false)
  | 26 => ("RowsIntoPlaneModel", "satMany", "I", false)
  | 27 => ("RowsIntoPlaneModel", "done", "I", false)
  | 28 => ("RowsIntoPlaneModel", "bestQueue", "[I", true)
  | 29 => ("RowsIntoPlaneModel", "whole", "[I", true)
  | 30 => ("RowsIntoPlaneModel", "seedNow", "I", false)
  | 31 => ("RowsIntoPlaneModel", "outAt", "[I", true)
  | 32 => ("RowsIntoPlaneModel", "still", "[I", true)
  | 33 => ("RowsIntoPlaneModel", "keptPeople", "I", false)
  | 34 => ("RowsIntoPlaneModel", "keptCabin", "I", false)
  | 35 => ("RowsIntoPlaneModel", "keptRows", "[I", true)
  | _ => ("RowsIntoPlaneModel", "hash", "J", false)
def ft_9 : Nat → FieldType := fun k => match k with
  | 0 => .int
  | 1 => .int
  | 2 => .int
  | 3 => .int
  | 4 => .int
  | 5 => .array .int
  | 6 => .array .int
  | 7 => .int
  | 8 => .int
  | 9 => .array .int
  | 10 => .int
  | 11 => .int
  | 12 => .array .int
  | 13 => .int
  | 14 => .array .int
  | 15 => .array .int
  | 16 => .array .int
  | 17 => .int
  | 18 => .array .int
  | 19 => .array .int
  | 20 => .array .int
  | 21 => .array .int
  | 22 => .array .int
  | 23 => .array .int
  | 24 => .int
  | 25 => .int
  | 26 => .int
  | 27 => .int
  | 28 => .array .int
  | 29 => .array .int
  | 30 => .int
  | 31 => .array .int
  | 32 => .array .int
  | 33 => .int
  | 34 => .int
  | 35 => .array .int
  | _ => .long
abbrev ax_cl : List vw_C := [(rn_0, tb_0, 16), (rn_1, tb_1, 4), (rn_2, tb_2, 3), (rn_3, tb_3, 4), (rn_4, tb_4, 9), (rn_5, tb_5, 2), (rn_6, tb_6, 3), (rn_7, tb_7, 8), (rn_8, tb_8, 11), (rn_9, tb_9, 37)]
theorem nm_0 : ∀ a, a < 16 → ∀ b, b < 16 → a ≠ b → (tb_0 a).2.1 ≠ (tb_0 b).2.1 := by decide +kernel
theorem fo_0 : ∀ k, k < 16 → parseFieldDescriptor (tb_0 k).2.2.1 = some (ft_0 k) := by decide +kernel
theorem wi_0 : ∀ w ∈ u_ws rn_0 tb_0 16, w ∈ ax_Ts := by
  have h : (List.range 16).all (fun k => decide (lw_tbl[([271, 273, 275, 277, 279, 281, 283, 285, 287, 289, 291, 293, 295, 297, 299, 301] : List Nat).getD k 0]? = some (u_lay rn_0 tb_0 k)) && goodWord (u_lay rn_0 tb_0 k)) = true := by decide +kernel
  intro w hw
  obtain ⟨k, hk, rfl⟩ := List.mem_map.mp hw
  have h1 := List.all_eq_true.mp h k hk
  simp only [Bool.and_eq_true, decide_eq_true_eq] at h1
  exact ax_mem _ h1.1 h1.2
theorem nm_1 : ∀ a, a < 4 → ∀ b, b < 4 → a ≠ b → (tb_1 a).2.1 ≠ (tb_1 b).2.1 := by decide +kernel
theorem fo_1 : ∀ k, k < 4 → parseFieldDescriptor (tb_1 k).2.2.1 = some (ft_1 k) := by decide +kernel
theorem wi_1 : ∀ w ∈ u_ws rn_1 tb_1 4, w ∈ ax_Ts := by
  have h : (List.range 4).all (fun k => decide (lw_tbl[([99, 101, 103, 105] : List Nat).getD k 0]? = some (u_lay rn_1 tb_1 k)) && goodWord (u_lay rn_1 tb_1 k)) = true := by decide +kernel
  intro w hw
  obtain ⟨k, hk, rfl⟩ := List.mem_map.mp hw
  have h1 := List.all_eq_true.mp h k hk
  simp only [Bool.and_eq_true, decide_eq_true_eq] at h1
  exact ax_mem _ h1.1 h1.2
theorem nm_2 : ∀ a, a < 3 → ∀ b, b < 3 → a ≠ b → (tb_2 a).2.1 ≠ (tb_2 b).2.1 := by decide +kernel
theorem fo_2 : ∀ k, k < 3 → parseFieldDescriptor (tb_2 k).2.2.1 = some (ft_2 k) := by decide +kernel
theorem wi_2 : ∀ w ∈ u_ws rn_2 tb_2 3, w ∈ ax_Ts := by
  have h : (List.range 3).all (fun k => decide (lw_tbl[([238, 240, 242] : List Nat).getD k 0]? = some (u_lay rn_2 tb_2 k)) && goodWord (u_lay rn_2 tb_2 k)) = true := by decide +kernel
  intro w hw
  obtain ⟨k, hk, rfl⟩ := List.mem_map.mp hw
  have h1 := List.all_eq_true.mp h k hk
  simp only [Bool.and_eq_true, decide_eq_true_eq] at h1
  exact ax_mem _ h1.1 h1.2
theorem nm_3 : ∀ a, a < 4 → ∀ b, b < 4 → a ≠ b → (tb_3 a).2.1 ≠ (tb_3 b).2.1 := by decide +kernel
theorem fo_3 : ∀ k, k < 4 → parseFieldDescriptor (tb_3 k).2.2.1 = some (ft_3 k) := by decide +kernel
theorem wi_3 : ∀ w ∈ u_ws rn_3 tb_3 4, w ∈ ax_Ts := by
  have h : (List.range 4).all (fun k => decide (lw_tbl[([179, 181, 183, 185] : List Nat).getD k 0]? = some (u_lay rn_3 tb_3 k)) && goodWord (u_lay rn_3 tb_3 k)) = true := by decide +kernel
  intro w hw
  obtain ⟨k, hk, rfl⟩ := List.mem_map.mp hw
  have h1 := List.all_eq_true.mp h k hk
  simp only [Bool.and_eq_true, decide_eq_true_eq] at h1
  exact ax_mem _ h1.1 h1.2
theorem nm_4 : ∀ a, a < 9 → ∀ b, b < 9 → a ≠ b → (tb_4 a).2.1 ≠ (tb_4 b).2.1 := by decide +kernel
theorem fo_4 : ∀ k, k < 9 → parseFieldDescriptor (tb_4 k).2.2.1 = some (ft_4 k) := by decide +kernel
theorem wi_4 : ∀ w ∈ u_ws rn_4 tb_4 9, w ∈ ax_Ts := by
  have h : (List.range 9).all (fun k => decide (lw_tbl[([321, 323, 325, 327, 329, 331, 333, 335, 337] : List Nat).getD k 0]? = some (u_lay rn_4 tb_4 k)) && goodWord (u_lay rn_4 tb_4 k)) = true := by decide +kernel
  intro w hw
  obtain ⟨k, hk, rfl⟩ := List.mem_map.mp hw
  have h1 := List.all_eq_true.mp h k hk
  simp only [Bool.and_eq_true, decide_eq_true_eq] at h1
  exact ax_mem _ h1.1 h1.2
theorem nm_5 : ∀ a, a < 2 → ∀ b, b < 2 → a ≠ b → (tb_5 a).2.1 ≠ (tb_5 b).2.1 := by decide +kernel
theorem fo_5 : ∀ k, k < 2 → parseFieldDescriptor (tb_5 k).2.2.1 = some (ft_5 k) := by decide +kernel
theorem wi_5 : ∀ w ∈ u_ws rn_5 tb_5 2, w ∈ ax_Ts := by
  have h : (List.range 2).all (fun k => decide (lw_tbl[([225, 227] : List Nat).getD k 0]? = some (u_lay rn_5 tb_5 k)) && goodWord (u_lay rn_5 tb_5 k)) = true := by decide +kernel
  intro w hw
  obtain ⟨k, hk, rfl⟩ := List.mem_map.mp hw
  have h1 := List.all_eq_true.mp h k hk
  simp only [Bool.and_eq_true, decide_eq_true_eq] at h1
  exact ax_mem _ h1.1 h1.2
theorem nm_6 : ∀ a, a < 3 → ∀ b, b < 3 → a ≠ b → (tb_6 a).2.1 ≠ (tb_6 b).2.1 := by decide +kernel
theorem fo_6 : ∀ k, k < 3 → parseFieldDescriptor (tb_6 k).2.2.1 = some (ft_6 k) := by decide +kernel
theorem wi_6 : ∀ w ∈ u_ws rn_6 tb_6 3, w ∈ ax_Ts := by
  have h : (List.range 3).all (fun k => decide (lw_tbl[([201, 203, 205] : List Nat).getD k 0]? = some (u_lay rn_6 tb_6 k)) && goodWord (u_lay rn_6 tb_6 k)) = true := by decide +kernel
  intro w hw
  obtain ⟨k, hk, rfl⟩ := List.mem_map.mp hw
  have h1 := List.all_eq_true.mp h k hk
  simp only [Bool.and_eq_true, decide_eq_true_eq] at h1
  exact ax_mem _ h1.1 h1.2
theorem nm_7 : ∀ a, a < 8 → ∀ b, b < 8 → a ≠ b → (tb_7 a).2.1 ≠ (tb_7 b).2.1 := by decide +kernel
theorem fo_7 : ∀ k, k < 8 → parseFieldDescriptor (tb_7 k).2.2.1 = some (ft_7 k) := by decide +kernel
theorem wi_7 : ∀ w ∈ u_ws rn_7 tb_7 8, w ∈ ax_Ts := by
  have h : (List.range 8).all (fun k => decide (lw_tbl[([150, 152, 154, 156, 158, 160, 162, 164] : List Nat).getD k 0]? = some (u_lay rn_7 tb_7 k)) && goodWord (u_lay rn_7 tb_7 k)) = true := by decide +kernel
  intro w hw
  obtain ⟨k, hk, rfl⟩ := List.mem_map.mp hw
  have h1 := List.all_eq_true.mp h k hk
  simp only [Bool.and_eq_true, decide_eq_true_eq] at h1
  exact ax_mem _ h1.1 h1.2
theorem nm_8 : ∀ a, a < 11 → ∀ b, b < 11 → a ≠ b → (tb_8 a).2.1 ≠ (tb_8 b).2.1 := by decide +kernel
theorem fo_8 : ∀ k, k < 11 → parseFieldDescriptor (tb_8 k).2.2.1 = some (ft_8 k) := by decide +kernel
theorem wi_8 : ∀ w ∈ u_ws rn_8 tb_8 11, w ∈ ax_Ts := by
  have h : (List.range 11).all (fun k => decide (lw_tbl[([352, 354, 356, 358, 360, 362, 364, 366, 368, 370, 372] : List Nat).getD k 0]? = some (u_lay rn_8 tb_8 k)) && goodWord (u_lay rn_8 tb_8 k)) = true := by decide +kernel
  intro w hw
  obtain ⟨k, hk, rfl⟩ := List.mem_map.mp hw
  have h1 := List.all_eq_true.mp h k hk
  simp only [Bool.and_eq_true, decide_eq_true_eq] at h1
  exact ax_mem _ h1.1 h1.2
theorem nm_9 : ∀ a, a < 37 → ∀ b, b < 37 → a ≠ b → (tb_9 a).2.1 ≠ (tb_9 b).2.1 := by decide +kernel
theorem fo_9 : ∀ k, k < 37 → parseFieldDescriptor (tb_9 k).2.2.1 = some (ft_9 k) := by decide +kernel
theorem wi_9 : ∀ w ∈ u_ws rn_9 tb_9 37, w ∈ ax_Ts := by
  have h : (List.range 37).all (fun k => decide (lw_tbl[([810, 812, 814, 816, 818, 820, 822, 824, 826, 828, 830, 832, 834, 836, 838, 840, 842, 844, 846, 848, 850, 852, 854, 856, 858, 860, 862, 864, 866, 868, 870, 872, 874, 876, 878, 880, 882] : List Nat).getD k 0]? = some (u_lay rn_9 tb_9 k)) && goodWord (u_lay rn_9 tb_9 k)) = true := by decide +kernel
  intro w hw
  obtain ⟨k, hk, rfl⟩ := List.mem_map.mp hw
  have h1 := List.all_eq_true.mp h k hk
  simp only [Bool.and_eq_true, decide_eq_true_eq] at h1
  exact ax_mem _ h1.1 h1.2
end
section
/-! the layer: an abstract memory of whole numbers over the kit's worlds; judgements that quantify over the machine -/
abbrev ax_V : Type := Int ⊕ (Int ⊕ Nat)
abbrev ax_Mem : Type := Nat → Nat → Int
abbrev ax_Sh : Type := (Nat × Nat) ⊕ ((Nat × List Nat) ⊕ (Nat × List (Option (Option Nat))))
def ax_r (i : Int) : Prop := -2147483648 ≤ i ∧ i < 2147483648
def ax_vr (v : ax_V) : Prop := match v with
  | .inl i => ax_r i
  | .inr _ => True
def ax_lg (v : ax_V) : Bool := match v with
  | .inr (.inl _) => true
  | _ => false
def ax_c (ad : Nat → Nat) (v : ax_V) : Value := match v with
  | .inl i => .int (Int32.ofInt i)
  | .inr (.inl i) => .long (Int64.ofInt i)
  | .inr (.inr k) => .ref (ad k)
def ax_f (ad : Nat → Nat) (f : Nat → Int) (j : Nat) (o : Option (Option Nat)) : Value := match o with
  | none => .int (Int32.ofInt (f j))
  | some none => .long (Int64.ofInt (f j))
  | some (some r) => .ref (ad r)
def ax_e (ca : Nat → ClassId) (ad : Nat → Nat) (f : Nat → Int) (s : ax_Sh) : va_E := match s with
  | .inl q => .inl (ca q.1, q.2, .inl (fun j => Int32.ofInt (f j)))
  | .inr (.inl q) => .inl (ca q.1, q.2.length, .inr (.inr (.inr (.inr (fun j => (q.2[j]?).map ad)))))
  | .inr (.inr q) => .inr (q.1, q.2.mapIdx (ax_f ad f))
def ax_w (sh : List ax_Sh) (ca : Nat → ClassId) (ad : Nat → Nat) (M : ax_Mem) : va_W := sh.mapIdx (fun k s => (ad k, ax_e ca ad (M k) s))
theorem ax_w_get {sh : List ax_Sh} {ca : Nat → ClassId} {ad : Nat → Nat} {M : ax_Mem} {k : Nat} {s : ax_Sh} (h : sh[k]? = some s) : (ax_w sh ca ad M)[k]? = some (ad k, ax_e ca ad (M k) s) := by
  simp [ax_w, List.getElem?_mapIdx, h]
theorem ax_w_at {sh : List ax_Sh} {ca : Nat → ClassId} {ad : Nat → Nat} {M : ax_Mem} {k : Nat} {q : Nat × va_E} (h : (ax_w sh ca ad M)[k]? = some q) : ∃ s, sh[k]? = some s ∧ k < sh.length ∧ q = (ad k, ax_e ca ad (M k) s) := by
  simp only [ax_w, List.getElem?_mapIdx] at h
  cases hs : sh[k]? with
  | none => rw [hs] at h; cases h
  | some s =>
    rw [hs] at h
    exact ⟨s, rfl, (List.getElem?_eq_some_iff.mp hs).1, (Option.some.inj h).symm⟩
def ax_isl (sh : List ax_Sh) (k j : Nat) : Bool := match sh[k]? with
  | some (.inr (.inr q)) => q.2[j]? == some (some none)
  | _ => false
def ax_n (sh : List ax_Sh) (M : ax_Mem) : Prop := ∀ k j, ax_isl sh k j = false → ax_r (M k j)
def ax_I (sh : List ax_Sh) (ad : Nat → Nat) : Prop := ∀ i j, i < sh.length → j < sh.length → ad i = ad j → i = j
def ax_As (sh : List ax_Sh) (ad : Nat → Nat) (q : Nat) : Prop := ∃ k, k < sh.length ∧ q = ad k
theorem ax_D {sh : List ax_Sh} {ca : Nat → ClassId} {ad : Nat → Nat} (M : ax_Mem) (h : ax_I sh ad) : va_D (ax_As sh ad) (ax_w sh ca ad M) := by
  refine ⟨fun i j p q hi hj e => ?_, fun k q hk => ?_⟩
  · obtain ⟨s, -, h1, rfl⟩ := ax_w_at hi
    obtain ⟨t, -, h2, rfl⟩ := ax_w_at hj
    exact h i j h1 h2 e
  · obtain ⟨s, -, h1, rfl⟩ := ax_w_at hk
    exact ⟨k, h1, rfl⟩
/-- one place of one cell gets v -/
def ax_u (M : ax_Mem) (k j : Nat) (v : Int) : ax_Mem := fun a => if a = k then (fun b => if b = j then v else M a b) else M a
/-- one cell gets new contents -/
def ax_s (M : ax_Mem) (k : Nat) (f : Nat → Int) : ax_Mem := fun a => if a = k then f else M a
theorem ax_w_set {sh : List ax_Sh} {ca : Nat → ClassId} {ad : Nat → Nat} {M M' : ax_Mem} {k : Nat} {s : ax_Sh} (h : sh[k]? = some s) (hM : ∀ a, a ≠ k → M' a = M a) : (ax_w sh ca ad M).set k (ad k, ax_e ca ad (M' k) s) = ax_w sh ca ad M' := by
  have hk := (List.getElem?_eq_some_iff.mp h).1
  apply List.ext_getElem?
  intro i
  by_cases hi : i = k
  · subst hi
    rw [List.getElem?_set_self (by simpa [ax_w] using hk), ax_w_get h]
  · rw [List.getElem?_set_ne (Ne.symm hi)]
    simp only [ax_w, List.getElem?_mapIdx]
    rw [hM i hi]
def ax_nest : Cond := .methodLinkNest "RowsIntoPlane$Cabin" 22 ⟨"RowsIntoPlane", "outside", "(III)Z"⟩ "RowsIntoPlane"
def ax_tys (ca : Nat → ClassId) : List (ClassId × FieldType) := [(ca 0, .int), (ca 1, .char), (ca 2, .boolean), (ca 3, .object "RowsIntoPlane$Call"), (ca 4, .array .int)]
def ax_rm (d : Nat) : Room := { frames := d, cells := 0, slots := 0, locals := 36 * d }
def ax_B (sh : List ax_Sh) (D : va_G) (ca : Nat → ClassId) (ad : Nat → Nat) (u : ax_Mem) (t : State) : Prop := ax_n sh u ∧ va_P D ax_cl (ax_w sh ca ad u) t.heap
def ax_Q (sh : List ax_Sh) (ret : Option FieldType) (D : va_G) (ca : Nat → ClassId) (ad : Nat → Nat) (P : Int → ax_Mem → Prop) : Array Value → State → Outcome → State → Prop := match ret with
  | none => va_Qv (fun u => P 0 u) (ax_B sh D ca ad) (ax_As sh ad)
  | some .long => va_Ql (fun r u => ∃ i, r = Int64.ofInt i ∧ P i u) (ax_B sh D ca ad) (ax_As sh ad)
  | some _ => va_Qi (fun r u => ∃ i, ax_r i ∧ r = Int32.ofInt i ∧ P i u) (ax_B sh D ca ad) (ax_As sh ad)
def ax_ws (y : MethodName) (cc : ByteArray) (mL : Nat) (ret : Option FieldType) : List Cond := Cond.code y cc mL ret :: ax_Ts
/-- a call of y with these arguments over this memory returns, and P of the answer and the memory then -/
def ax_C (sh : List ax_Sh) (y : MethodName) (cc : ByteArray) (mL : Nat) (ret : Option FieldType) (dp : Nat) (as : List ax_V) (M : ax_Mem) (P : Int → ax_Mem → Prop) : Prop :=
  ∀ (l : Launch) (D : va_G) (ca : Nat → ClassId) (ad : Nat → Nat), ax_I sh ad → ax_n sh M → (∀ v ∈ as, ax_vr v) →
    Met l y (ax_ws y cc mL ret) (ax_rm dp) (va_Pc (as.map (ax_c ad)) (fun U => va_P D ax_cl (ax_w sh ca ad M) U.heap ∧ va_K D ax_cl (ax_tys ca) U ∧ va_Nw ax_nest U)) (ax_Q sh ret D ca ad P) 0 0 (ax_As sh ad)
def ax_l (ad : Nat → Nat) (ls : List (Nat × ax_V)) : List (Nat × Value) := ls.map (fun q => (q.1, ax_c ad q.2))
/-- what stands fixed while a method's body runs -/
def ax_X (sh : List ax_Sh) (y : MethodName) (cc : ByteArray) (mL : Nat) (ret : Option FieldType) (p : Program) (s : State) (m : MethodId) (args : Array Value) (meth : Method) (c : Code) (D : va_G) (ca : Nat → ClassId) (ad : Nat → Nat) : Prop :=
  p.tables.exec = Jvm.exec ∧ c.code = cc ∧ meth.sig.returnType = ret ∧ c.maxLocals = mL ∧ meth.locks = false ∧ s.vm.findClass y.cls = some m.cls ∧ (∀ w ∈ ax_Ts, w.before args s = true) ∧ va_K D ax_cl (ax_tys ca) s ∧ ax_I sh ad ∧ va_Nw ax_nest s
/-- the body of y at pc with these locals, this stack, this memory comes to y's end, and P there -/
def ax_J (sh : List ax_Sh) (y : MethodName) (cc : ByteArray) (mL : Nat) (ret : Option FieldType) (dp : Nat) (P : Int → ax_Mem → Prop) (pc : Nat) (ls : List (Nat × ax_V)) (st : List ax_V) (M : ax_Mem) : Prop :=
  ∀ (p : Program) (l : Launch) (e : Env) (s : State) (m : MethodId) (args : Array Value) (below : List Frame) (meth : Method) (c : Code) (D : va_G) (ca : Nat → ClassId) (ad : Nat → Nat), ax_X sh y cc mL ret p s m args meth c D ca ad →
    ax_n sh M → (∀ v ∈ st, ax_vr v) → (∀ q ∈ ls, ax_vr q.2) → ∀ (H : Heap) (locs : List Loc) (lsA : Array Slot), va_P D ax_cl (ax_w sh ca ad M) H → va_S (ax_As sh ad) s.heap H locs → lv_has lsA mL (ax_l ad ls) →
    W p l e (ax_rm dp) s m args below meth c H locs 0 0 (MQ below (ax_Q sh ret D ca ad P) args s 0 0 (ax_As sh ad)) (F0 m pc lsA (st.map (ax_c ad)))
theorem ax_i32 {i : Int} (h : ax_r i) : (Int32.ofInt i).toInt = i := Int32.toInt_ofInt_of_le h.1 h.2
theorem ax_lt {a b : Int} (ha : ax_r a) (hb : ax_r b) : Int32.ofInt a < Int32.ofInt b ↔ a < b := by rw [Int32.lt_iff_toInt_lt, ax_i32 ha, ax_i32 hb]
theorem ax_le {a b : Int} (ha : ax_r a) (hb : ax_r b) : Int32.ofInt a ≤ Int32.ofInt b ↔ a ≤ b := by rw [Int32.le_iff_toInt_le, ax_i32 ha, ax_i32 hb]
theorem ax_eq {a b : Int} (ha : ax_r a) (hb : ax_r b) : Int32.ofInt a = Int32.ofInt b ↔ a = b := by rw [← Int32.toInt_inj, ax_i32 ha, ax_i32 hb]
theorem ax_cl0 {i : Int} (h : ax_r i) : (Int32.ofInt i).toNatClampNeg = i.toNat := by
  show (Int32.ofInt i).toInt.toNat = i.toNat
  rw [ax_i32 h]
theorem ax_in {i : Int} {n : Nat} (h : ax_r i) (h0 : 0 ≤ i) (h1 : i < n) : vp_in (Int32.ofInt i) n := by
  rw [vp_in_iff, ax_i32 h]
  exact ⟨h0, h1⟩
theorem ax_ofNat {i : Int} (h : 0 ≤ i) : Int32.ofInt i = nI i.toNat := by
  obtain ⟨n, rfl⟩ := Int.eq_ofNat_of_zero_le h
  rfl
theorem ax_lofNat {i : Int} (h : 0 ≤ i) : Int64.ofInt i = lN i.toNat := by
  obtain ⟨n, rfl⟩ := Int.eq_ofNat_of_zero_le h
  rfl
section AXJ
variable {sh : List ax_Sh} {y : MethodName} {cc : ByteArray} {mL : Nat} {ret : Option FieldType} {dp : Nat} {P : Int → ax_Mem → Prop} {pc : Nat} {ls : List (Nat × ax_V)} {st : List ax_V} {M : ax_Mem}
theorem ax_cr {i : Int} (h : ∀ v ∈ (.inl i :: st : List ax_V), ax_vr v) : ax_r i := h _ List.mem_cons_self
theorem ax_ct {v : ax_V} (h : ∀ w ∈ (v :: st : List ax_V), ax_vr w) : ∀ w ∈ st, ax_vr w := fun w hw => h w (List.mem_cons_of_mem _ hw)
theorem ax_cc {v : ax_V} (hv : ax_vr v) (h : ∀ w ∈ st, ax_vr w) : ∀ w ∈ (v :: st : List ax_V), ax_vr w := fun w hw => (List.mem_cons.mp hw).elim (fun e => e ▸ hv) (h w)
/-- fewer locals, in another order -/
theorem ax_sub {ls' : List (Nat × ax_V)} (ks : List Nat) (hl : ks.filterMap (fun k => ls[k]?) = ls') (k : ax_J sh y cc mL ret dp P pc ls' st M) : ax_J sh y cc mL ret dp P pc ls st M := by
  intro p l e s m args below meth c D ca ad X hn hs hq H locs lsA hP hS hl'
  have hsub : ∀ q ∈ ls', q ∈ ls := by
    intro q h
    rw [← hl] at h
    obtain ⟨i, -, hi⟩ := List.mem_filterMap.mp h
    exact List.mem_of_getElem? hi
  refine k p l e s m args below meth c D ca ad X hn hs (fun q h => hq q (hsub q h)) H locs lsA hP hS ⟨hl'.1, hl'.2.1, fun q h => ?_⟩
  obtain ⟨q0, h0, rfl⟩ := List.mem_map.mp h
  exact hl'.2.2 _ (List.mem_map.mpr ⟨q0, hsub q0 h0, rfl⟩)
/-- a step that leaves locals and memory -/
theorem ax_step {pc' : Nat} {st' : List ax_V} (hr : ax_n sh M → (∀ q ∈ ls, ax_vr q.2) → (∀ v ∈ st, ax_vr v) → ∀ v ∈ st', ax_vr v)
    (h : ∀ {p : Program} {l : Launch} {e : Env} {s : State} {m : MethodId} {args : Array Value} {below : List Frame} {meth : Method} {c : Code} {D : va_G} {ca : Nat → ClassId} {ad : Nat → Nat} {H : Heap} {locs : List Loc} {lsA : Array Slot} {Q : State → Prop}, ax_X sh y cc mL ret p s m args meth c D ca ad → ax_n sh M → (∀ v ∈ st, ax_vr v) → (∀ q ∈ ls, ax_vr q.2) → va_P D ax_cl (ax_w sh ca ad M) H → lv_has lsA mL (ax_l ad ls) →
      W p l e (ax_rm dp) s m args below meth c H locs 0 0 Q (F0 m pc' lsA (st'.map (ax_c ad))) → W p l e (ax_rm dp) s m args below meth c H locs 0 0 Q (F0 m pc lsA (st.map (ax_c ad))))
    (k : ax_J sh y cc mL ret dp P pc' ls st' M) : ax_J sh y cc mL ret dp P pc ls st M := by
  intro p l e s m args below meth c D ca ad X hn hs hq H locs lsA hP hS hl
  exact h X hn hs hq hP hl (k p l e s m args below meth c D ca ad X hn (hr hn hq hs) hq H locs lsA hP hS hl)
theorem ax_iconst {n : Int} (hd : decode cc pc = .ok (.iconst n, 1)) (hv : -1 ≤ n ∧ n ≤ 5) (k : ax_J sh y cc mL ret dp P (pc + 1) ls (.inl n :: st) M) : ax_J sh y cc mL ret dp P pc ls st M :=
  ax_step (fun _ _ h => ax_cc (v := .inl n) (show ax_r n from ⟨by omega, by omega⟩) h) (fun X _ _ _ _ _ w => lv_iconst X.1 X.2.1 hd rfl w) k
theorem ax_bipush {n : Int} (hd : decode cc pc = .ok (.bipush n, 2)) (hv : -128 ≤ n ∧ n < 128) (k : ax_J sh y cc mL ret dp P (pc + 2) ls (.inl n :: st) M) : ax_J sh y cc mL ret dp P pc ls st M := by
  refine ax_step (fun _ _ h => ax_cc (v := .inl n) (show ax_r n from ⟨by omega, by omega⟩) h) (fun X _ _ _ _ _ w => lv_bipush X.1 X.2.1 hd ?_ w) k
  have h1 : (Int8.ofInt n).toInt = n := Int8.toInt_ofInt_of_le (by omega) (by omega)
  apply Int32.toInt_inj.mp
  rw [ax_i32 ⟨by omega, by omega⟩, Int8.toInt_toInt32, h1]
theorem ax_sipush {n : Int} (hd : decode cc pc = .ok (.sipush n, 3)) (hv : -32768 ≤ n ∧ n < 32768) (k : ax_J sh y cc mL ret dp P (pc + 3) ls (.inl n :: st) M) : ax_J sh y cc mL ret dp P pc ls st M := by
  refine ax_step (fun _ _ h => ax_cc (v := .inl n) (show ax_r n from ⟨by omega, by omega⟩) h) (fun X _ _ _ _ _ w => lv_sipush X.1 X.2.1 hd ?_ w) k
  have h1 : (Int16.ofInt n).toInt = n := Int16.toInt_ofInt_of_le (by omega) (by omega)
  apply Int32.toInt_inj.mp
  rw [ax_i32 ⟨by omega, by omega⟩, Int16.toInt_toInt32, h1]
theorem ax_ldc {idx : Nat} {n : Int} (hd : decode cc pc = .ok (.ldc idx, 2)) (hc : Cond.constant y.cls idx (Int32.ofInt n) ∈ ax_Ts) (hv : ax_r n) (k : ax_J sh y cc mL ret dp P (pc + 2) ls (.inl n :: st) M) : ax_J sh y cc mL ret dp P pc ls st M :=
  ax_step (fun _ _ h => ax_cc (v := .inl n) hv h) (fun X _ _ _ _ _ w => lv_ldc X.1 X.2.1 X.2.2.2.2.2.1 (X.2.2.2.2.2.2.1 _ hc) hd w) k
theorem ax_ldc2 {idx : Nat} {n : Int} (hd : decode cc pc = .ok (.ldc2_w idx, 3)) (hc : Cond.constantLong y.cls idx (Int64.ofInt n) ∈ ax_Ts) (k : ax_J sh y cc mL ret dp P (pc + 3) ls (.inr (.inl n) :: st) M) : ax_J sh y cc mL ret dp P pc ls st M :=
  ax_step (fun _ _ h => ax_cc (v := .inr (.inl n)) trivial h) (fun X _ _ _ _ _ w => lv_ldc2 X.1 X.2.1 X.2.2.2.2.2.1 (X.2.2.2.2.2.2.1 _ hc) hd w) k
theorem ax_lconst {n : Fin 2} {i : Int} (hd : decode cc pc = .ok (.lconst n, 1)) (hi : i = (n.val : Int)) (k : ax_J sh y cc mL ret dp P (pc + 1) ls (.inr (.inl i) :: st) M) : ax_J sh y cc mL ret dp P pc ls st M := by
  subst hi
  exact ax_step (fun _ _ h => ax_cc (v := .inr (.inl (n.val : Int))) trivial h) (fun X _ _ _ _ _ w => lv_lconst X.1 X.2.1 hd rfl w) k
theorem ax_lat {ad : Nat → Nat} {lsA : Array Slot} {j i : Nat} {v : ax_V} (h : lv_has lsA mL (ax_l ad ls)) (hj : ls[j]? = some (i, v)) : lsA[i]? = some (.val (ax_c ad v)) :=
  h.2.2 (i, ax_c ad v) (List.mem_map.mpr ⟨(i, v), List.mem_of_getElem? hj, rfl⟩)
theorem ax_lvr {j i : Nat} {v : ax_V} (h : ∀ q ∈ ls, ax_vr q.2) (hj : ls[j]? = some (i, v)) : ax_vr v := h _ (List.mem_of_getElem? hj)
theorem ax_iloadn {q : Fin 4} {i : Nat} {x : Int} (j : Nat) (hd : decode cc pc = .ok (.iload_n q, 1)) (hi : q.val = i) (hj : ls[j]? = some (i, .inl x)) (k : ax_J sh y cc mL ret dp P (pc + 1) ls (.inl x :: st) M) : ax_J sh y cc mL ret dp P pc ls st M :=
  ax_step (fun _ hl h => ax_cc (ax_lvr hl hj) h) (fun X _ _ _ _ hl w => lv_iload_n X.1 X.2.1 hd hi (ax_lat hl hj) w) k
theorem ax_iload {i : Nat} {x : Int} (j : Nat) (hd : decode cc pc = .ok (.iload i, 2)) (hj : ls[j]? = some (i, .inl x)) (k : ax_J sh y cc mL ret dp P (pc + 2) ls (.inl x :: st) M) : ax_J sh y cc mL ret dp P pc ls st M :=
  ax_step (fun _ hl h => ax_cc (ax_lvr hl hj) h) (fun X _ _ _ _ hl w => lv_iload X.1 X.2.1 hd (ax_lat hl hj) w) k
theorem ax_lloadn {q : Fin 4} {i : Nat} {x : Int} (j : Nat) (hd : decode cc pc = .ok (.lload_n q, 1)) (hi : q.val = i) (hj : ls[j]? = some (i, .inr (.inl x))) (k : ax_J sh y cc mL ret dp P (pc + 1) ls (.inr (.inl x) :: st) M) : ax_J sh y cc mL ret dp P pc ls st M :=
  ax_step (fun _ hl h => ax_cc (ax_lvr hl hj) h) (fun X _ _ _ _ hl w => lv_lload_n X.1 X.2.1 hd hi (ax_lat hl hj) w) k
theorem ax_lload {i : Nat} {x : Int} (j : Nat) (hd : decode cc pc = .ok (.lload i, 2)) (hj : ls[j]? = some (i, .inr (.inl x))) (k : ax_J sh y cc mL ret dp P (pc + 2) ls (.inr (.inl x) :: st) M) : ax_J sh y cc mL ret dp P pc ls st M :=
  ax_step (fun _ hl h => ax_cc (ax_lvr hl hj) h) (fun X _ _ _ _ hl w => lv_lload X.1 X.2.1 hd (ax_lat hl hj) w) k
theorem ax_aloadn {q : Fin 4} {i : Nat} {x : Nat} (j : Nat) (hd : decode cc pc = .ok (.aload_n q, 1)) (hi : q.val = i) (hj : ls[j]? = some (i, .inr (.inr x))) (k : ax_J sh y cc mL ret dp P (pc + 1) ls (.inr (.inr x) :: st) M) : ax_J sh y cc mL ret dp P pc ls st M :=
  ax_step (fun _ hl h => ax_cc (ax_lvr hl hj) h) (fun X _ _ _ _ hl w => lv_aload_n X.1 X.2.1 hd hi (ax_lat hl hj) w) k
theorem ax_aload {i : Nat} {x : Nat} (j : Nat) (hd : decode cc pc = .ok (.aload i, 2)) (hj : ls[j]? = some (i, .inr (.inr x))) (k : ax_J sh y cc mL ret dp P (pc + 2) ls (.inr (.inr x) :: st) M) : ax_J sh y cc mL ret dp P pc ls st M :=
  ax_step (fun _ hl h => ax_cc (ax_lvr hl hj) h) (fun X _ _ _ _ hl w => lv_aload X.1 X.2.1 hd (ax_lat hl hj) w) k
theorem ax_cat (ad : Nat → Nat) (v : ax_V) : ((ax_c ad v).category == 2) = ax_lg v := by
  rcases v with i | i | k <;> rfl
theorem ax_fil (ad : Nat → Nat) (i : Nat) (v : ax_V) : (i, ax_c ad v) :: (ax_l ad ls).filter (fun q => !(q.1 == i) && !(q.1 + 1 == i && q.2.category == 2)) = ax_l ad ((i, v) :: ls.filter (fun q => !(q.1 == i) && !(q.1 + 1 == i && ax_lg q.2))) := by
  simp only [ax_l, List.map_cons, List.filter_map]
  congr 3
  funext q
  simp only [Function.comp, ax_cat]
theorem ax_fil2 (ad : Nat → Nat) (i : Nat) (v : ax_V) : (i, ax_c ad v) :: (ax_l ad ls).filter (fun q => !(q.1 == i) && (!(q.1 == i + 1) && !(q.1 + 1 == i && q.2.category == 2))) = ax_l ad ((i, v) :: ls.filter (fun q => !(q.1 == i) && (!(q.1 == i + 1) && !(q.1 + 1 == i && ax_lg q.2)))) := by
  simp only [ax_l, List.map_cons, List.filter_map]
  congr 3
  funext q
  simp only [Function.comp, ax_cat]
theorem ax_lsr {i : Nat} {v : ax_V} {f : Nat × ax_V → Bool} (hv : ax_vr v) (h : ∀ q ∈ ls, ax_vr q.2) : ∀ q ∈ ((i, v) :: ls.filter f), ax_vr q.2 := fun q hq => (List.mem_cons.mp hq).elim (fun e => by rw [e]; exact hv) (fun h2 => h q (List.mem_filter.mp h2).1)
theorem ax_istoren {q : Fin 4} {i : Nat} {x : Int} {ls' : List (Nat × ax_V)} (hd : decode cc pc = .ok (.istore_n q, 1)) (hi : q.val = i) (hm : i < mL) (hl' : (i, .inl x) :: ls.filter (fun q => !(q.1 == i) && !(q.1 + 1 == i && ax_lg q.2)) = ls') (k : ax_J sh y cc mL ret dp P (pc + 1) ls' st M) : ax_J sh y cc mL ret dp P pc ls (.inl x :: st) M := by
  intro p l e s m args below meth c D ca ad X hn hs hq H locs lsA hP hS hl
  refine lv_istore_n X.1 X.2.1 hd hi hl hm (ax_fil ad i (.inl x)) (fun ls2 h2 => ?_)
  rw [hl'] at h2
  exact k p l e s m args below meth c D ca ad X hn (ax_ct hs) (hl' ▸ ax_lsr (hs _ List.mem_cons_self) hq) H locs ls2 hP hS h2
theorem ax_istore {i : Nat} {x : Int} {ls' : List (Nat × ax_V)} (hd : decode cc pc = .ok (.istore i, 2)) (hm : i < mL) (hl' : (i, .inl x) :: ls.filter (fun q => !(q.1 == i) && !(q.1 + 1 == i && ax_lg q.2)) = ls') (k : ax_J sh y cc mL ret dp P (pc + 2) ls' st M) : ax_J sh y cc mL ret dp P pc ls (.inl x :: st) M := by
  intro p l e s m args below meth c D ca ad X hn hs hq H locs lsA hP hS hl
  refine lv_istore X.1 X.2.1 hd hl hm (ax_fil ad i (.inl x)) (fun ls2 h2 => ?_)
  rw [hl'] at h2
  exact k p l e s m args below meth c D ca ad X hn (ax_ct hs) (hl' ▸ ax_lsr (hs _ List.mem_cons_self) hq) H locs ls2 hP hS h2
theorem ax_lstoren {q : Fin 4} {i : Nat} {x : Int} {ls' : List (Nat × ax_V)} (hd : decode cc pc = .ok (.lstore_n q, 1)) (hi : q.val = i) (hm : i + 1 < mL) (hl' : (i, .inr (.inl x)) :: ls.filter (fun q => !(q.1 == i) && (!(q.1 == i + 1) && !(q.1 + 1 == i && ax_lg q.2))) = ls') (k : ax_J sh y cc mL ret dp P (pc + 1) ls' st M) : ax_J sh y cc mL ret dp P pc ls (.inr (.inl x) :: st) M := by
  intro p l e s m args below meth c D ca ad X hn hs hq H locs lsA hP hS hl
  refine lv_lstore_n X.1 X.2.1 hd hi hl hm (ax_fil2 ad i (.inr (.inl x))) (fun ls2 h2 => ?_)
  rw [hl'] at h2
  exact k p l e s m args below meth c D ca ad X hn (ax_ct hs) (hl' ▸ ax_lsr (hs _ List.mem_cons_self) hq) H locs ls2 hP hS h2
theorem ax_lstore {i : Nat} {x : Int} {ls' : List (Nat × ax_V)} (hd : decode cc pc = .ok (.lstore i, 2)) (hm : i + 1 < mL) (hl' : (i, .inr (.inl x)) :: ls.filter (fun q => !(q.1 == i) && (!(q.1 == i + 1) && !(q.1 + 1 == i && ax_lg q.2))) = ls') (k : ax_J sh y cc mL ret dp P (pc + 2) ls' st M) : ax_J sh y cc mL ret dp P pc ls (.inr (.inl x) :: st) M := by
  intro p l e s m args below meth c D ca ad X hn hs hq H locs lsA hP hS hl
  refine lv_lstore X.1 X.2.1 hd hl hm (ax_fil2 ad i (.inr (.inl x))) (fun ls2 h2 => ?_)
  rw [hl'] at h2
  exact k p l e s m args below meth c D ca ad X hn (ax_ct hs) (hl' ▸ ax_lsr (hs _ List.mem_cons_self) hq) H locs ls2 hP hS h2
theorem ax_iinc {i j : Nat} {n : Int} {x : Int} {ls' : List (Nat × ax_V)} (hd : decode cc pc = .ok (.iinc i n, 3)) (hj : ls[j]? = some (i, .inl x)) (hm : i < mL) (hr : ax_r (x + n)) (hl' : (i, .inl (x + n)) :: ls.filter (fun q => !(q.1 == i) && !(q.1 + 1 == i && ax_lg q.2)) = ls') (k : ax_J sh y cc mL ret dp P (pc + 3) ls' st M) : ax_J sh y cc mL ret dp P pc ls st M := by
  intro p l e s m args below meth c D ca ad X hn hs hq H locs lsA hP hS hl
  have hk : (ax_l ad ls)[j]? = some (i, .int (Int32.ofInt x)) := by
    simp only [ax_l, List.getElem?_map, hj]
    rfl
  refine lv_iinc (v := Int32.ofInt (x + n)) X.1 X.2.1 hd hl hk (by rw [Int32.ofInt_add]) hm (ax_fil ad i (.inl (x + n))) (fun ls2 h2 => ?_)
  rw [hl'] at h2
  exact k p l e s m args below meth c D ca ad X hn hs (hl' ▸ ax_lsr hr hq) H locs ls2 hP hS h2
end AXJ
end
section
section AXK
variable {sh : List ax_Sh} {y : MethodName} {cc : ByteArray} {mL : Nat} {ret : Option FieldType} {dp : Nat} {P : Int → ax_Mem → Prop} {pc : Nat} {ls : List (Nat × ax_V)} {st : List ax_V} {M : ax_Mem}
theorem ax_iadd {a b : Int} (hd : decode cc pc = .ok (.iadd, 1)) (hr : ax_r (a + b)) (k : ax_J sh y cc mL ret dp P (pc + 1) ls (.inl (a + b) :: st) M) : ax_J sh y cc mL ret dp P pc ls (.inl b :: .inl a :: st) M :=
  ax_step (fun _ _ h => ax_cc (v := .inl (a + b)) hr (ax_ct (ax_ct h))) (fun X _ _ _ _ _ w => lv_iadd X.1 X.2.1 hd (by rw [← Int32.ofInt_add]; exact w)) k
theorem ax_isub {a b : Int} (hd : decode cc pc = .ok (.isub, 1)) (hr : ax_r (a - b)) (k : ax_J sh y cc mL ret dp P (pc + 1) ls (.inl (a - b) :: st) M) : ax_J sh y cc mL ret dp P pc ls (.inl b :: .inl a :: st) M :=
  ax_step (fun _ _ h => ax_cc (v := .inl (a - b)) hr (ax_ct (ax_ct h))) (fun X _ _ _ _ _ w => lv_isub X.1 X.2.1 hd (by rw [← Int32.ofInt_sub]; exact w)) k
theorem ax_imul {a b : Int} (hd : decode cc pc = .ok (.imul, 1)) (hr : ax_r (a * b)) (k : ax_J sh y cc mL ret dp P (pc + 1) ls (.inl (a * b) :: st) M) : ax_J sh y cc mL ret dp P pc ls (.inl b :: .inl a :: st) M :=
  ax_step (fun _ _ h => ax_cc (v := .inl (a * b)) hr (ax_ct (ax_ct h))) (fun X _ _ _ _ _ w => lv_imul X.1 X.2.1 hd (by rw [← Int32.ofInt_mul]; exact w)) k
theorem ax_ineg {a : Int} (hd : decode cc pc = .ok (.ineg, 1)) (hr : ax_r (-a)) (k : ax_J sh y cc mL ret dp P (pc + 1) ls (.inl (-a) :: st) M) : ax_J sh y cc mL ret dp P pc ls (.inl a :: st) M :=
  ax_step (fun _ _ h => ax_cc (v := .inl (-a)) hr (ax_ct h)) (fun X _ _ _ _ _ w => lv_ineg X.1 X.2.1 hd (by first | (rw [← Int32.ofInt_neg]; exact w) | (have e : (0 : Int32) - Int32.ofInt a = Int32.ofInt (-a) := by (rw [Int32.ofInt_neg]; simp); rw [e]; exact w))) k
theorem ax_divE {a b : Int} (ha : ax_r a) (hb : ax_r b) (h0 : 0 ≤ a) (h1 : 0 < b) : Int32.ofInt a / Int32.ofInt b = Int32.ofInt (a / b) ∧ Int32.ofInt a - Int32.ofInt a / Int32.ofInt b * Int32.ofInt b = Int32.ofInt (a % b) ∧ ¬ Int32.ofInt b = 0 := by
  have hb0 : ¬ Int32.ofInt b = 0 := fun h => by
    have h2 := ax_i32 hb
    rw [h] at h2
    have h3 : (0 : Int32).toInt = 0 := rfl
    omega
  obtain ⟨n, rfl⟩ := Int.eq_ofNat_of_zero_le h0
  obtain ⟨d, rfl⟩ := Int.eq_ofNat_of_zero_le (Int.le_of_lt h1)
  obtain ⟨ha1, ha2⟩ := ha
  obtain ⟨hb1, hb2⟩ := hb
  have e1 : nI n / nI d = nI (n / d) := pk_div (by omega) (by omega) (by omega)
  have e2 : nI n - nI n / nI d * nI d = nI (n % d) := pk_rem (by omega) (by omega) (by omega)
  exact ⟨e1, e2, hb0⟩
theorem ax_idiv {a b : Int} (hd : decode cc pc = .ok (.idiv, 1)) (h0 : 0 ≤ a) (h1 : 0 < b) (k : ax_J sh y cc mL ret dp P (pc + 1) ls (.inl (a / b) :: st) M) : ax_J sh y cc mL ret dp P pc ls (.inl b :: .inl a :: st) M := by
  intro p l e s m args below meth c D ca ad X hn hs hq H locs lsA hP hS hl
  have hb := ax_cr hs
  have ha := ax_cr (ax_ct hs)
  obtain ⟨e1, e2, e3⟩ := ax_divE ha hb h0 h1
  refine lv_idiv X.1 X.2.1 hd e3 ?_
  rw [e1]
  have hr : ax_r (a / b) := ⟨by have := Int.ediv_nonneg h0 (Int.le_of_lt h1); omega, by have := Int.ediv_le_self b h0; have := ha.2; omega⟩
  exact k p l e s m args below meth c D ca ad X hn (ax_cc (v := .inl (a / b)) hr (ax_ct (ax_ct hs))) hq H locs lsA hP hS hl
theorem ax_irem {a b : Int} (hd : decode cc pc = .ok (.irem, 1)) (h0 : 0 ≤ a) (h1 : 0 < b) (k : ax_J sh y cc mL ret dp P (pc + 1) ls (.inl (a % b) :: st) M) : ax_J sh y cc mL ret dp P pc ls (.inl b :: .inl a :: st) M := by
  intro p l e s m args below meth c D ca ad X hn hs hq H locs lsA hP hS hl
  have hb := ax_cr hs
  have ha := ax_cr (ax_ct hs)
  obtain ⟨e1, e2, e3⟩ := ax_divE ha hb h0 h1
  refine lv_irem X.1 X.2.1 hd e3 ?_
  rw [e2]
  have hr : ax_r (a % b) := ⟨by have := Int.emod_nonneg a (show b ≠ 0 by omega); omega, by have := Int.emod_lt_of_pos a h1; have := hb.2; omega⟩
  exact k p l e s m args below meth c D ca ad X hn (ax_cc (v := .inl (a % b)) hr (ax_ct (ax_ct hs))) hq H locs lsA hP hS hl
theorem ax_ladd {a b : Int} (hd : decode cc pc = .ok (.ladd, 1)) (k : ax_J sh y cc mL ret dp P (pc + 1) ls (.inr (.inl (a + b)) :: st) M) : ax_J sh y cc mL ret dp P pc ls (.inr (.inl b) :: .inr (.inl a) :: st) M :=
  ax_step (fun _ _ h => ax_cc (v := .inr (.inl (a + b))) trivial (ax_ct (ax_ct h))) (fun X _ _ _ _ _ w => lv_ladd X.1 X.2.1 hd (by rw [← Int64.ofInt_add]; exact w)) k
theorem ax_lmul {a b : Int} (hd : decode cc pc = .ok (.lmul, 1)) (k : ax_J sh y cc mL ret dp P (pc + 1) ls (.inr (.inl (a * b)) :: st) M) : ax_J sh y cc mL ret dp P pc ls (.inr (.inl b) :: .inr (.inl a) :: st) M :=
  ax_step (fun _ _ h => ax_cc (v := .inr (.inl (a * b))) trivial (ax_ct (ax_ct h))) (fun X _ _ _ _ _ w => lv_lmul X.1 X.2.1 hd (by rw [← Int64.ofInt_mul]; exact w)) k
theorem ax_i2l {a : Int} (hd : decode cc pc = .ok (.i2l, 1)) (k : ax_J sh y cc mL ret dp P (pc + 1) ls (.inr (.inl a) :: st) M) : ax_J sh y cc mL ret dp P pc ls (.inl a :: st) M := by
  intro p l e s m args below meth c D ca ad X hn hs hq H locs lsA hP hS hl
  have ha := ax_cr hs
  have e1 : (Int32.ofInt a).toInt64 = Int64.ofInt a := Int32.toInt64_ofInt ha.1 (by have := ha.2; show a ≤ 2147483647; omega)
  exact lv_i2l X.1 X.2.1 hd e1 (k p l e s m args below meth c D ca ad X hn (ax_cc (v := .inr (.inl a)) trivial (ax_ct hs)) hq H locs lsA hP hS hl)
theorem ax_l2i {a : Int} (hd : decode cc pc = .ok (.l2i, 1)) (hr : ax_r a) (k : ax_J sh y cc mL ret dp P (pc + 1) ls (.inl a :: st) M) : ax_J sh y cc mL ret dp P pc ls (.inr (.inl a) :: st) M :=
  ax_step (fun _ _ h => ax_cc (v := .inl a) hr (ax_ct h)) (fun X _ _ _ _ _ w => lv_l2i X.1 X.2.1 hd Int64.toInt32_ofInt w) k
theorem ax_icmp_eq {a b : Int} {off : Int} {tgt : Nat} (hd : decode cc pc = .ok (.if_icmp .eq off, 3)) (ht : (pc : Int) + off = (tgt : Int)) (kt : a = b → ax_J sh y cc mL ret dp P tgt ls st M) (kf : ¬ a = b → ax_J sh y cc mL ret dp P (pc + 3) ls st M) : ax_J sh y cc mL ret dp P pc ls (.inl b :: .inl a :: st) M := by
  intro p l e s m args below meth c D ca ad X hn hs hq H locs lsA hP hS hl
  have hb := ax_cr hs
  have ha := ax_cr (ax_ct hs)
  exact lv_icmp_eq X.1 X.2.1 hd ht (fun h => kt ((ax_eq ha hb).mp h) p l e s m args below meth c D ca ad X hn (ax_ct (ax_ct hs)) hq H locs lsA hP hS hl) (fun h => kf ((not_congr (ax_eq ha hb)).mp h) p l e s m args below meth c D ca ad X hn (ax_ct (ax_ct hs)) hq H locs lsA hP hS hl)
theorem ax_icmp_ne {a b : Int} {off : Int} {tgt : Nat} (hd : decode cc pc = .ok (.if_icmp .ne off, 3)) (ht : (pc : Int) + off = (tgt : Int)) (kt : ¬ a = b → ax_J sh y cc mL ret dp P tgt ls st M) (kf : a = b → ax_J sh y cc mL ret dp P (pc + 3) ls st M) : ax_J sh y cc mL ret dp P pc ls (.inl b :: .inl a :: st) M := by
  intro p l e s m args below meth c D ca ad X hn hs hq H locs lsA hP hS hl
  have hb := ax_cr hs
  have ha := ax_cr (ax_ct hs)
  exact lv_icmp_ne X.1 X.2.1 hd ht (fun h => kt ((not_congr (ax_eq ha hb)).mp h) p l e s m args below meth c D ca ad X hn (ax_ct (ax_ct hs)) hq H locs lsA hP hS hl) (fun h => kf ((ax_eq ha hb).mp h) p l e s m args below meth c D ca ad X hn (ax_ct (ax_ct hs)) hq H locs lsA hP hS hl)
theorem ax_icmp_lt {a b : Int} {off : Int} {tgt : Nat} (hd : decode cc pc = .ok (.if_icmp .lt off, 3)) (ht : (pc : Int) + off = (tgt : Int)) (kt : a < b → ax_J sh y cc mL ret dp P tgt ls st M) (kf : ¬ a < b → ax_J sh y cc mL ret dp P (pc + 3) ls st M) : ax_J sh y cc mL ret dp P pc ls (.inl b :: .inl a :: st) M := by
  intro p l e s m args below meth c D ca ad X hn hs hq H locs lsA hP hS hl
  have hb := ax_cr hs
  have ha := ax_cr (ax_ct hs)
  exact lv_icmp_lt X.1 X.2.1 hd ht (fun h => kt ((ax_lt ha hb).mp h) p l e s m args below meth c D ca ad X hn (ax_ct (ax_ct hs)) hq H locs lsA hP hS hl) (fun h => kf ((not_congr (ax_lt ha hb)).mp h) p l e s m args below meth c D ca ad X hn (ax_ct (ax_ct hs)) hq H locs lsA hP hS hl)
theorem ax_icmp_ge {a b : Int} {off : Int} {tgt : Nat} (hd : decode cc pc = .ok (.if_icmp .ge off, 3)) (ht : (pc : Int) + off = (tgt : Int)) (kt : b ≤ a → ax_J sh y cc mL ret dp P tgt ls st M) (kf : ¬ b ≤ a → ax_J sh y cc mL ret dp P (pc + 3) ls st M) : ax_J sh y cc mL ret dp P pc ls (.inl b :: .inl a :: st) M := by
  intro p l e s m args below meth c D ca ad X hn hs hq H locs lsA hP hS hl
  have hb := ax_cr hs
  have ha := ax_cr (ax_ct hs)
  exact lv_icmp_ge X.1 X.2.1 hd ht (fun h => kt ((ax_le hb ha).mp h) p l e s m args below meth c D ca ad X hn (ax_ct (ax_ct hs)) hq H locs lsA hP hS hl) (fun h => kf ((not_congr (ax_le hb ha)).mp h) p l e s m args below meth c D ca ad X hn (ax_ct (ax_ct hs)) hq H locs lsA hP hS hl)
theorem ax_icmp_gt {a b : Int} {off : Int} {tgt : Nat} (hd : decode cc pc = .ok (.if_icmp .gt off, 3)) (ht : (pc : Int) + off = (tgt : Int)) (kt : b < a → ax_J sh y cc mL ret dp P tgt ls st M) (kf : ¬ b < a → ax_J sh y cc mL ret dp P (pc + 3) ls st M) : ax_J sh y cc mL ret dp P pc ls (.inl b :: .inl a :: st) M := by
  intro p l e s m args below meth c D ca ad X hn hs hq H locs lsA hP hS hl
  have hb := ax_cr hs
  have ha := ax_cr (ax_ct hs)
  exact lv_icmp_gt X.1 X.2.1 hd ht (fun h => kt ((ax_lt hb ha).mp h) p l e s m args below meth c D ca ad X hn (ax_ct (ax_ct hs)) hq H locs lsA hP hS hl) (fun h => kf ((not_congr (ax_lt hb ha)).mp h) p l e s m args below meth c D ca ad X hn (ax_ct (ax_ct hs)) hq H locs lsA hP hS hl)
theorem ax_icmp_le {a b : Int} {off : Int} {tgt : Nat} (hd : decode cc pc = .ok (.if_icmp .le off, 3)) (ht : (pc : Int) + off = (tgt : Int)) (kt : a ≤ b → ax_J sh y cc mL ret dp P tgt ls st M) (kf : ¬ a ≤ b → ax_J sh y cc mL ret dp P (pc + 3) ls st M) : ax_J sh y cc mL ret dp P pc ls (.inl b :: .inl a :: st) M := by
  intro p l e s m args below meth c D ca ad X hn hs hq H locs lsA hP hS hl
  have hb := ax_cr hs
  have ha := ax_cr (ax_ct hs)
  exact lv_icmp_le X.1 X.2.1 hd ht (fun h => kt ((ax_le ha hb).mp h) p l e s m args below meth c D ca ad X hn (ax_ct (ax_ct hs)) hq H locs lsA hP hS hl) (fun h => kf ((not_congr (ax_le ha hb)).mp h) p l e s m args below meth c D ca ad X hn (ax_ct (ax_ct hs)) hq H locs lsA hP hS hl)
theorem ax_if_eq {a : Int} {off : Int} {tgt : Nat} (hd : decode cc pc = .ok (.ifCond .eq off, 3)) (ht : (pc : Int) + off = (tgt : Int)) (kt : a = 0 → ax_J sh y cc mL ret dp P tgt ls st M) (kf : ¬ a = 0 → ax_J sh y cc mL ret dp P (pc + 3) ls st M) : ax_J sh y cc mL ret dp P pc ls (.inl a :: st) M := by
  intro p l e s m args below meth c D ca ad X hn hs hq H locs lsA hP hS hl
  have ha := ax_cr hs
  have hb : ax_r 0 := ⟨by omega, by omega⟩
  exact lv_if_eq X.1 X.2.1 hd ht (fun h => kt ((ax_eq ha hb).mp h) p l e s m args below meth c D ca ad X hn (ax_ct hs) hq H locs lsA hP hS hl) (fun h => kf ((not_congr (ax_eq ha hb)).mp h) p l e s m args below meth c D ca ad X hn (ax_ct hs) hq H locs lsA hP hS hl)
theorem ax_if_ne {a : Int} {off : Int} {tgt : Nat} (hd : decode cc pc = .ok (.ifCond .ne off, 3)) (ht : (pc : Int) + off = (tgt : Int)) (kt : ¬ a = 0 → ax_J sh y cc mL ret dp P tgt ls st M) (kf : a = 0 → ax_J sh y cc mL ret dp P (pc + 3) ls st M) : ax_J sh y cc mL ret dp P pc ls (.inl a :: st) M := by
  intro p l e s m args below meth c D ca ad X hn hs hq H locs lsA hP hS hl
  have ha := ax_cr hs
  have hb : ax_r 0 := ⟨by omega, by omega⟩
  exact lv_if_ne X.1 X.2.1 hd ht (fun h => kt ((not_congr (ax_eq ha hb)).mp h) p l e s m args below meth c D ca ad X hn (ax_ct hs) hq H locs lsA hP hS hl) (fun h => kf ((ax_eq ha hb).mp h) p l e s m args below meth c D ca ad X hn (ax_ct hs) hq H locs lsA hP hS hl)
theorem ax_if_lt {a : Int} {off : Int} {tgt : Nat} (hd : decode cc pc = .ok (.ifCond .lt off, 3)) (ht : (pc : Int) + off = (tgt : Int)) (kt : a < 0 → ax_J sh y cc mL ret dp P tgt ls st M) (kf : ¬ a < 0 → ax_J sh y cc mL ret dp P (pc + 3) ls st M) : ax_J sh y cc mL ret dp P pc ls (.inl a :: st) M := by
  intro p l e s m args below meth c D ca ad X hn hs hq H locs lsA hP hS hl
  have ha := ax_cr hs
  have hb : ax_r 0 := ⟨by omega, by omega⟩
  exact lv_if_lt X.1 X.2.1 hd ht (fun h => kt ((ax_lt ha hb).mp h) p l e s m args below meth c D ca ad X hn (ax_ct hs) hq H locs lsA hP hS hl) (fun h => kf ((not_congr (ax_lt ha hb)).mp h) p l e s m args below meth c D ca ad X hn (ax_ct hs) hq H locs lsA hP hS hl)
theorem ax_if_ge {a : Int} {off : Int} {tgt : Nat} (hd : decode cc pc = .ok (.ifCond .ge off, 3)) (ht : (pc : Int) + off = (tgt : Int)) (kt : 0 ≤ a → ax_J sh y cc mL ret dp P tgt ls st M) (kf : ¬ 0 ≤ a → ax_J sh y cc mL ret dp P (pc + 3) ls st M) : ax_J sh y cc mL ret dp P pc ls (.inl a :: st) M := by
  intro p l e s m args below meth c D ca ad X hn hs hq H locs lsA hP hS hl
  have ha := ax_cr hs
  have hb : ax_r 0 := ⟨by omega, by omega⟩
  exact lv_if_ge X.1 X.2.1 hd ht (fun h => kt ((ax_le hb ha).mp h) p l e s m args below meth c D ca ad X hn (ax_ct hs) hq H locs lsA hP hS hl) (fun h => kf ((not_congr (ax_le hb ha)).mp h) p l e s m args below meth c D ca ad X hn (ax_ct hs) hq H locs lsA hP hS hl)
theorem ax_if_gt {a : Int} {off : Int} {tgt : Nat} (hd : decode cc pc = .ok (.ifCond .gt off, 3)) (ht : (pc : Int) + off = (tgt : Int)) (kt : 0 < a → ax_J sh y cc mL ret dp P tgt ls st M) (kf : ¬ 0 < a → ax_J sh y cc mL ret dp P (pc + 3) ls st M) : ax_J sh y cc mL ret dp P pc ls (.inl a :: st) M := by
  intro p l e s m args below meth c D ca ad X hn hs hq H locs lsA hP hS hl
  have ha := ax_cr hs
  have hb : ax_r 0 := ⟨by omega, by omega⟩
  exact lv_if_gt X.1 X.2.1 hd ht (fun h => kt ((ax_lt hb ha).mp h) p l e s m args below meth c D ca ad X hn (ax_ct hs) hq H locs lsA hP hS hl) (fun h => kf ((not_congr (ax_lt hb ha)).mp h) p l e s m args below meth c D ca ad X hn (ax_ct hs) hq H locs lsA hP hS hl)
theorem ax_if_le {a : Int} {off : Int} {tgt : Nat} (hd : decode cc pc = .ok (.ifCond .le off, 3)) (ht : (pc : Int) + off = (tgt : Int)) (kt : a ≤ 0 → ax_J sh y cc mL ret dp P tgt ls st M) (kf : ¬ a ≤ 0 → ax_J sh y cc mL ret dp P (pc + 3) ls st M) : ax_J sh y cc mL ret dp P pc ls (.inl a :: st) M := by
  intro p l e s m args below meth c D ca ad X hn hs hq H locs lsA hP hS hl
  have ha := ax_cr hs
  have hb : ax_r 0 := ⟨by omega, by omega⟩
  exact lv_if_le X.1 X.2.1 hd ht (fun h => kt ((ax_le ha hb).mp h) p l e s m args below meth c D ca ad X hn (ax_ct hs) hq H locs lsA hP hS hl) (fun h => kf ((not_congr (ax_le ha hb)).mp h) p l e s m args below meth c D ca ad X hn (ax_ct hs) hq H locs lsA hP hS hl)
theorem ax_goto {off : Int} {tgt : Nat} (hd : decode cc pc = .ok (.goto off, 3)) (ht : (pc : Int) + off = (tgt : Int)) (k : ax_J sh y cc mL ret dp P tgt ls st M) : ax_J sh y cc mL ret dp P pc ls st M :=
  ax_step (fun _ _ h => h) (fun X _ _ _ _ _ w => lv_goto X.1 X.2.1 hd ht w) k
theorem ax_dup {v : ax_V} (hd : decode cc pc = .ok (.dup, 1)) (hv : ax_lg v = false) (k : ax_J sh y cc mL ret dp P (pc + 1) ls (v :: v :: st) M) : ax_J sh y cc mL ret dp P pc ls (v :: st) M :=
  ax_step (fun _ _ h => ax_cc (h _ List.mem_cons_self) h) (fun X _ _ _ _ _ w => lv_dup X.1 X.2.1 hd (by rcases v with i | i | q <;> first | rfl | cases hv) w) k
theorem ax_dup2 {v u : ax_V} (hd : decode cc pc = .ok (.dup2, 1)) (hv : ax_lg v = false) (hu : ax_lg u = false) (k : ax_J sh y cc mL ret dp P (pc + 1) ls (v :: u :: v :: u :: st) M) : ax_J sh y cc mL ret dp P pc ls (v :: u :: st) M :=
  ax_step (fun _ _ h => ax_cc (h _ List.mem_cons_self) (ax_cc (h _ (List.mem_cons_of_mem _ List.mem_cons_self)) h)) (fun X _ _ _ _ _ w => lv_dup2_11 X.1 X.2.1 hd (by rcases v with i | i | q <;> first | rfl | cases hv) (by rcases u with i | i | q <;> first | rfl | cases hu) w) k
end AXK
end
section
/-! fields and arrays -/
section AXM
variable {sh : List ax_Sh} {y : MethodName} {cc : ByteArray} {mL : Nat} {ret : Option FieldType} {dp : Nat} {P : Int → ax_Mem → Prop} {pc : Nat} {ls : List (Nat × ax_V)} {st : List ax_V} {M : ax_Mem}
/-- the entry idx of own's file is the field j of the class ci -/
def ax_FL (own : String) (idx ci j : Nat) : Prop := ∃ r : vw_C, ax_cl[ci]? = some r ∧ j < r.2.2 ∧ Cond.fieldLink own idx (r.2.1 j).1 (r.2.1 j).2.1 (r.2.1 j).2.2.1 ∈ ax_Ts ∧ (∀ w ∈ u_ws r.1 r.2.1 r.2.2, w ∈ ax_Ts)
/-- and it may be written: its type -/
def ax_FP (own : String) (idx ci j : Nat) (ty : FieldType) : Prop := ∃ r : vw_C, ax_cl[ci]? = some r ∧ j < r.2.2 ∧ Cond.fieldLink own idx (r.2.1 j).1 (r.2.1 j).2.1 (r.2.1 j).2.2.1 ∈ ax_Ts ∧ (∀ w ∈ u_ws r.1 r.2.1 r.2.2, w ∈ ax_Ts) ∧ (r.2.1 j).2.2.2 = false ∧ parseFieldDescriptor (r.2.1 j).2.2.1 = some ty ∧ (∃ ty0 : Nat → FieldType, ∀ k, k < r.2.2 → parseFieldDescriptor (r.2.1 k).2.2.1 = some (ty0 k)) ∧ (∀ a, a < r.2.2 → ∀ b, b < r.2.2 → a ≠ b → (r.2.1 a).2.1 ≠ (r.2.1 b).2.1)
theorem ax_nr {k j ci : Nat} {fs : List (Option (Option Nat))} (hn : ax_n sh M) (hs : sh[k]? = some (.inr (.inr (ci, fs)))) (hf : fs[j]? = some none) : ax_r (M k j) := hn k j (by simp [ax_isl, hs, hf])
theorem ax_na {k t n : Nat} (j : Nat) (hn : ax_n sh M) (hs : sh[k]? = some (.inl (t, n))) : ax_r (M k j) := hn k j (by simp [ax_isl, hs])
theorem ax_fg {ad : Nat → Nat} {f : Nat → Int} {fs : List (Option (Option Nat))} {j : Nat} {o : Option (Option Nat)} (h : fs[j]? = some o) : (fs.mapIdx (ax_f ad f))[j]? = some (ax_f ad f j o) := by
  simp [List.getElem?_mapIdx, h]
theorem ax_getv {idx ci j k : Nat} {fs : List (Option (Option Nat))} {o : Option (Option Nat)} {v : ax_V} (hd : decode cc pc = .ok (.getfield idx, 3)) (hl : ax_FL y.cls idx ci j) (hs : sh[k]? = some (.inr (.inr (ci, fs)))) (hf : fs[j]? = some o) (hv : ∀ ad, ax_f ad (M k) j o = ax_c ad v) (hr : ax_n sh M → ax_vr v) (kk : ax_J sh y cc mL ret dp P (pc + 3) ls (v :: st) M) : ax_J sh y cc mL ret dp P pc ls (.inr (.inr k) :: st) M := by
  obtain ⟨r, h1, h2, h3, h4⟩ := hl
  refine ax_step (st' := v :: st) (fun hn _ h => ax_cc (hr hn) (ax_ct h)) (fun {p} {l} {e} {s} {m} {args} {below} {meth} {c} {D} {ca} {ad} {H} {locs} {lsA} {Q} X _ _ _ hP _ w => ?_) kk
  exact va_get (D := D) (ci := ci) (C := r.1) (T := r.2.1) (N := r.2.2) (v := ax_c ad v) X.1 X.2.1 X.2.2.2.2.2.2.1 h4 X.2.2.2.2.2.1 X.2.2.2.2.2.2.2.1 hP k (ax_w_get hs) h1 j h2 (X.2.2.2.2.2.2.1 _ h3) (fun _ h9 => h9) (by rw [ax_fg hf, hv ad]) hd w
theorem ax_geti {idx ci j k : Nat} {fs : List (Option (Option Nat))} (hd : decode cc pc = .ok (.getfield idx, 3)) (hl : ax_FL y.cls idx ci j) (hs : sh[k]? = some (.inr (.inr (ci, fs)))) (hf : fs[j]? = some none) (kk : ax_J sh y cc mL ret dp P (pc + 3) ls (.inl (M k j) :: st) M) : ax_J sh y cc mL ret dp P pc ls (.inr (.inr k) :: st) M :=
  ax_getv (v := .inl (M k j)) hd hl hs hf (fun _ => rfl) (fun hn => ax_nr hn hs hf) kk
theorem ax_getl {idx ci j k : Nat} {fs : List (Option (Option Nat))} (hd : decode cc pc = .ok (.getfield idx, 3)) (hl : ax_FL y.cls idx ci j) (hs : sh[k]? = some (.inr (.inr (ci, fs)))) (hf : fs[j]? = some (some none)) (kk : ax_J sh y cc mL ret dp P (pc + 3) ls (.inr (.inl (M k j)) :: st) M) : ax_J sh y cc mL ret dp P pc ls (.inr (.inr k) :: st) M :=
  ax_getv (v := .inr (.inl (M k j))) hd hl hs hf (fun _ => rfl) (fun _ => trivial) kk
theorem ax_getr {idx ci j k r : Nat} {fs : List (Option (Option Nat))} (hd : decode cc pc = .ok (.getfield idx, 3)) (hl : ax_FL y.cls idx ci j) (hs : sh[k]? = some (.inr (.inr (ci, fs)))) (hf : fs[j]? = some (some (some r))) (kk : ax_J sh y cc mL ret dp P (pc + 3) ls (.inr (.inr r) :: st) M) : ax_J sh y cc mL ret dp P pc ls (.inr (.inr k) :: st) M :=
  ax_getv (v := .inr (.inr r)) hd hl hs hf (fun _ => rfl) (fun _ => trivial) kk
theorem ax_u_at (M : ax_Mem) (k j : Nat) (v : Int) : ax_u M k j v k j = v := by simp [ax_u]
theorem ax_u_ne {M : ax_Mem} {k j a b : Nat} {v : Int} (h : a = k → b ≠ j) : ax_u M k j v a b = M a b := by
  unfold ax_u
  by_cases h1 : a = k
  · simp [h1, h h1]
  · simp [h1]
theorem ax_u_cell {M : ax_Mem} {k j a : Nat} {v : Int} (h : a ≠ k) : ax_u M k j v a = M a := by simp [ax_u, h]
theorem ax_u_n {k j : Nat} {v : Int} (hn : ax_n sh M) (hv : ax_isl sh k j = false → ax_r v) : ax_n sh (ax_u M k j v) := by
  intro a b h
  by_cases h1 : a = k
  · by_cases h2 : b = j
    · subst h1; subst h2
      rw [ax_u_at]; exact hv h
    · rw [ax_u_ne (fun _ => h2)]; exact hn a b h
  · rw [ax_u_ne (fun q => absurd q h1)]; exact hn a b h
theorem ax_fs_set {ad : Nat → Nat} {M : ax_Mem} {fs : List (Option (Option Nat))} {k j : Nat} {o : Option (Option Nat)} {v : Int} {w : Value} (h : fs[j]? = some o) (hw : ∀ f : Nat → Int, f j = v → ax_f ad f j o = w) : (fs.mapIdx (ax_f ad (M k))).set j w = fs.mapIdx (ax_f ad (ax_u M k j v k)) := by
  have hj := (List.getElem?_eq_some_iff.mp h).1
  apply List.ext_getElem?
  intro i
  by_cases hi : i = j
  · subst hi
    rw [List.getElem?_set_self (by simpa using hj), ax_fg h, hw _ (ax_u_at M k i v)]
  · rw [List.getElem?_set_ne (Ne.symm hi)]
    simp only [List.getElem?_mapIdx]
    cases hq : fs[i]? with
    | none => rfl
    | some o2 =>
      have e : ax_u M k j v k i = M k i := ax_u_ne (fun _ => hi)
      rcases o2 with _ | _ | r <;> simp [ax_f, e]
theorem ax_putv {idx ci j k : Nat} {fs : List (Option (Option Nat))} {o : Option (Option Nat)} {v : Int} {x : ax_V} {ty : FieldType} (hd : decode cc pc = .ok (.putfield idx, 3)) (hl : ax_FP y.cls idx ci j ty) (hs : sh[k]? = some (.inr (.inr (ci, fs)))) (hf : fs[j]? = some o) (hw : ∀ (ad : Nat → Nat) (f : Nat → Int), f j = v → ax_f ad f j o = ax_c ad x) (hnr : ∀ ad : Nat → Nat, narrow ty (ax_c ad x) = ax_c ad x) (hfit : ∀ ad : Nat → Nat, fits ty (ax_c ad x) = true) (hrn : ax_vr x → ax_isl sh k j = false → ax_r v) (kk : ax_J sh y cc mL ret dp P (pc + 3) ls st (ax_u M k j v)) : ax_J sh y cc mL ret dp P pc ls (x :: .inr (.inr k) :: st) M := by
  obtain ⟨r, h1, h2, h3, h4, h5, h6, ⟨ty0, h7⟩, h8⟩ := hl
  intro p l e s m args below meth c D ca ad X hn hs' hq H locs lsA hP hS hl'
  have hjl : j < (fs.mapIdx (ax_f ad (M k))).length := by simpa using (List.getElem?_eq_some_iff.mp hf).1
  refine va_put (D := D) (ci := ci) (C := r.1) (T := r.2.1) (N := r.2.2) (v := ax_c ad x) (ty := ty) X.1 X.2.1 X.2.2.2.2.2.2.1 h4 ty0 h7 h8 X.2.2.2.2.2.1 X.2.2.2.2.2.2.2.1 hP (ax_D M X.2.2.2.2.2.2.2.2.1) hS k (ax_w_get hs) h1 j h2 (X.2.2.2.2.2.2.1 _ h3) (fun _ h9 => h9) h5 h6 (hnr ad) (hfit ad) hjl hd (fun H1 locs1 hP1 _ hS1 => ?_)
  rw [ax_fs_set hf (hw ad)] at hP1
  have e1 : (ax_w sh ca ad M).set k (ad k, ax_e ca ad (ax_u M k j v k) (.inr (.inr (ci, fs)))) = ax_w sh ca ad (ax_u M k j v) := ax_w_set hs (fun a ha => ax_u_cell ha)
  have hP2 : va_P D ax_cl (ax_w sh ca ad (ax_u M k j v)) H1 := e1 ▸ hP1
  exact kk p l e s m args below meth c D ca ad X (ax_u_n hn (hrn (hs' _ List.mem_cons_self))) (ax_ct (ax_ct hs')) hq H1 locs1 lsA hP2 hS1 hl'
theorem ax_puti {idx ci j k : Nat} {fs : List (Option (Option Nat))} {v : Int} (hd : decode cc pc = .ok (.putfield idx, 3)) (hl : ax_FP y.cls idx ci j .int) (hs : sh[k]? = some (.inr (.inr (ci, fs)))) (hf : fs[j]? = some none) (kk : ax_J sh y cc mL ret dp P (pc + 3) ls st (ax_u M k j v)) : ax_J sh y cc mL ret dp P pc ls (.inl v :: .inr (.inr k) :: st) M :=
  ax_putv hd hl hs hf (fun ad f h => by simp [ax_f, ax_c, h]) (fun _ => rfl) (fun _ => rfl) (fun h _ => h) kk
theorem ax_putl {idx ci j k : Nat} {fs : List (Option (Option Nat))} {v : Int} (hd : decode cc pc = .ok (.putfield idx, 3)) (hl : ax_FP y.cls idx ci j .long) (hs : sh[k]? = some (.inr (.inr (ci, fs)))) (hf : fs[j]? = some (some none)) (kk : ax_J sh y cc mL ret dp P (pc + 3) ls st (ax_u M k j v)) : ax_J sh y cc mL ret dp P pc ls (.inr (.inl v) :: .inr (.inr k) :: st) M :=
  ax_putv hd hl hs hf (fun ad f h => by simp [ax_f, ax_c, h]) (fun _ => rfl) (fun _ => rfl) (fun _ h => by simp [ax_isl, hs, hf] at h) kk
theorem ax_nz {v : Int} (h : v = 0 ∨ v = 1) : narrow .boolean (.int (Int32.ofInt v)) = .int (Int32.ofInt v) ∧ fits .boolean (.int (Int32.ofInt v)) = true ∧ vp_nar .boolean (Int32.ofInt v) = Int32.ofInt v := by
  rcases h with rfl | rfl <;> decide
theorem ax_putz {idx ci j k : Nat} {fs : List (Option (Option Nat))} {v : Int} (hd : decode cc pc = .ok (.putfield idx, 3)) (hl : ax_FP y.cls idx ci j .boolean) (hs : sh[k]? = some (.inr (.inr (ci, fs)))) (hf : fs[j]? = some none) (hv : v = 0 ∨ v = 1) (kk : ax_J sh y cc mL ret dp P (pc + 3) ls st (ax_u M k j v)) : ax_J sh y cc mL ret dp P pc ls (.inl v :: .inr (.inr k) :: st) M :=
  ax_putv hd hl hs hf (fun ad f h => by simp [ax_f, ax_c, h]) (fun _ => (ax_nz hv).1) (fun _ => (ax_nz hv).2.1) (fun h _ => h) kk
-- arrays
theorem ax_iald {k n : Nat} {i : Int} (hd : decode cc pc = .ok (.iaload, 1)) (hs : sh[k]? = some (.inl (0, n))) (h0 : 0 ≤ i) (h1 : i < n) (kk : ax_J sh y cc mL ret dp P (pc + 1) ls (.inl (M k i.toNat) :: st) M) : ax_J sh y cc mL ret dp P pc ls (.inl i :: .inr (.inr k) :: st) M :=
  ax_step (st' := .inl (M k i.toNat) :: st) (fun hn _ h => ax_cc (v := .inl (M k i.toNat)) (ax_na _ hn hs) (ax_ct (ax_ct h))) (fun X _ hv _ hP _ w => va_iald X.1 X.2.1 X.2.2.2.2.2.2.2.1 hP k 0 (ax_w_get hs) rfl (ax_in (ax_cr hv) h0 h1) hd (by rw [ax_cl0 (ax_cr hv)]; exact w)) kk
theorem ax_cald {k n : Nat} {i : Int} (hd : decode cc pc = .ok (.caload, 1)) (hs : sh[k]? = some (.inl (1, n))) (h0 : 0 ≤ i) (h1 : i < n) (kk : ax_J sh y cc mL ret dp P (pc + 1) ls (.inl (M k i.toNat) :: st) M) : ax_J sh y cc mL ret dp P pc ls (.inl i :: .inr (.inr k) :: st) M :=
  ax_step (st' := .inl (M k i.toNat) :: st) (fun hn _ h => ax_cc (v := .inl (M k i.toNat)) (ax_na _ hn hs) (ax_ct (ax_ct h))) (fun X _ hv _ hP _ w => va_cald X.1 X.2.1 X.2.2.2.2.2.2.2.1 hP k 1 (ax_w_get hs) rfl (ax_in (ax_cr hv) h0 h1) hd (by rw [ax_cl0 (ax_cr hv)]; exact w)) kk
theorem ax_zald {k n : Nat} {i : Int} (hd : decode cc pc = .ok (.baload, 1)) (hs : sh[k]? = some (.inl (2, n))) (h0 : 0 ≤ i) (h1 : i < n) (kk : ax_J sh y cc mL ret dp P (pc + 1) ls (.inl (M k i.toNat) :: st) M) : ax_J sh y cc mL ret dp P pc ls (.inl i :: .inr (.inr k) :: st) M :=
  ax_step (st' := .inl (M k i.toNat) :: st) (fun hn _ h => ax_cc (v := .inl (M k i.toNat)) (ax_na _ hn hs) (ax_ct (ax_ct h))) (fun X _ hv _ hP _ w => va_zald X.1 X.2.1 X.2.2.2.2.2.2.2.1 hP k 2 (ax_w_get hs) rfl (ax_in (ax_cr hv) h0 h1) hd (by rw [ax_cl0 (ax_cr hv)]; exact w)) kk
theorem ax_upd {M : ax_Mem} {k j : Nat} {v : Int} : upd (fun j => Int32.ofInt (M k j)) j (Int32.ofInt v) = fun b => Int32.ofInt (ax_u M k j v k b) := by
  funext b
  by_cases h : b = j
  · subst h
    rw [ax_u_at]; simp [upd]
  · rw [ax_u_ne (fun _ => h)]; simp [upd, h]
theorem ax_iast {k n : Nat} {i v : Int} (hd : decode cc pc = .ok (.iastore, 1)) (hs : sh[k]? = some (.inl (0, n))) (h0 : 0 ≤ i) (h1 : i < n) (kk : ax_J sh y cc mL ret dp P (pc + 1) ls st (ax_u M k i.toNat v)) : ax_J sh y cc mL ret dp P pc ls (.inl v :: .inl i :: .inr (.inr k) :: st) M := by
  intro p l e s m args below meth c D ca ad X hn hv hq H locs lsA hP hS hl
  have hi := ax_cr (ax_ct hv)
  refine va_iast X.1 X.2.1 X.2.2.2.2.2.2.2.1 hP (ax_D M X.2.2.2.2.2.2.2.2.1) hS k 0 (ax_w_get hs) rfl (ax_in hi h0 h1) hd (fun H1 locs1 hP1 _ hS1 => ?_)
  rw [ax_cl0 hi, ax_upd] at hP1
  have e1 : (ax_w sh ca ad M).set k (ad k, ax_e ca ad (ax_u M k i.toNat v k) (.inl (0, n))) = ax_w sh ca ad (ax_u M k i.toNat v) := ax_w_set hs (fun a ha => ax_u_cell ha)
  have hP2 : va_P D ax_cl (ax_w sh ca ad (ax_u M k i.toNat v)) H1 := e1 ▸ hP1
  exact kk p l e s m args below meth c D ca ad X (ax_u_n hn (fun _ => ax_cr hv)) (ax_ct (ax_ct (ax_ct hv))) hq H1 locs1 lsA hP2 hS1 hl
theorem ax_nc {v : Int} (h0 : 0 ≤ v) (h1 : v < 65536) : vp_nar .char (Int32.ofInt v) = Int32.ofInt v := by
  obtain ⟨n, rfl⟩ := Int.eq_ofNat_of_zero_le h0
  have h2 := (pk_charN (q := n) (by omega)).1
  show vp_nar .char (nI n) = nI n
  unfold vp_nar
  rw [h2]
theorem ax_cast {k n : Nat} {i v : Int} (hd : decode cc pc = .ok (.castore, 1)) (hs : sh[k]? = some (.inl (1, n))) (h0 : 0 ≤ i) (h1 : i < n) (hv0 : 0 ≤ v) (hv1 : v < 65536) (kk : ax_J sh y cc mL ret dp P (pc + 1) ls st (ax_u M k i.toNat v)) : ax_J sh y cc mL ret dp P pc ls (.inl v :: .inl i :: .inr (.inr k) :: st) M := by
  intro p l e s m args below meth c D ca ad X hn hv hq H locs lsA hP hS hl
  have hi := ax_cr (ax_ct hv)
  refine va_cast X.1 X.2.1 X.2.2.2.2.2.2.2.1 hP (ax_D M X.2.2.2.2.2.2.2.2.1) hS k 1 (ax_w_get hs) rfl (ax_in hi h0 h1) hd (fun H1 locs1 hP1 _ hS1 => ?_)
  rw [ax_cl0 hi, ax_nc hv0 hv1, ax_upd] at hP1
  have e1 : (ax_w sh ca ad M).set k (ad k, ax_e ca ad (ax_u M k i.toNat v k) (.inl (1, n))) = ax_w sh ca ad (ax_u M k i.toNat v) := ax_w_set hs (fun a ha => ax_u_cell ha)
  have hP2 : va_P D ax_cl (ax_w sh ca ad (ax_u M k i.toNat v)) H1 := e1 ▸ hP1
  exact kk p l e s m args below meth c D ca ad X (ax_u_n hn (fun _ => ax_cr hv)) (ax_ct (ax_ct (ax_ct hv))) hq H1 locs1 lsA hP2 hS1 hl
theorem ax_zast {k n : Nat} {i v : Int} (hd : decode cc pc = .ok (.bastore, 1)) (hs : sh[k]? = some (.inl (2, n))) (h0 : 0 ≤ i) (h1 : i < n) (hv1 : v = 0 ∨ v = 1) (kk : ax_J sh y cc mL ret dp P (pc + 1) ls st (ax_u M k i.toNat v)) : ax_J sh y cc mL ret dp P pc ls (.inl v :: .inl i :: .inr (.inr k) :: st) M := by
  intro p l e s m args below meth c D ca ad X hn hv hq H locs lsA hP hS hl
  have hi := ax_cr (ax_ct hv)
  refine va_zast X.1 X.2.1 X.2.2.2.2.2.2.2.1 hP (ax_D M X.2.2.2.2.2.2.2.2.1) hS k 2 (ax_w_get hs) rfl (ax_in hi h0 h1) hd (fun H1 locs1 hP1 _ hS1 => ?_)
  rw [ax_cl0 hi, (ax_nz hv1).2.2, ax_upd] at hP1
  have e1 : (ax_w sh ca ad M).set k (ad k, ax_e ca ad (ax_u M k i.toNat v k) (.inl (2, n))) = ax_w sh ca ad (ax_u M k i.toNat v) := ax_w_set hs (fun a ha => ax_u_cell ha)
  have hP2 : va_P D ax_cl (ax_w sh ca ad (ax_u M k i.toNat v)) H1 := e1 ▸ hP1
  exact kk p l e s m args below meth c D ca ad X (ax_u_n hn (fun _ => ax_cr hv)) (ax_ct (ax_ct (ax_ct hv))) hq H1 locs1 lsA hP2 hS1 hl
theorem ax_aald {k t r : Nat} {rs : List Nat} {i : Int} (hd : decode cc pc = .ok (.aaload, 1)) (ht : t = 3 ∨ t = 4) (hs : sh[k]? = some (.inr (.inl (t, rs)))) (h0 : 0 ≤ i) (hi : rs[i.toNat]? = some r) (kk : ax_J sh y cc mL ret dp P (pc + 1) ls (.inr (.inr r) :: st) M) : ax_J sh y cc mL ret dp P pc ls (.inl i :: .inr (.inr k) :: st) M := by
  have hlt : i.toNat < rs.length := (List.getElem?_eq_some_iff.mp hi).1
  refine ax_step (st' := .inr (.inr r) :: st) (fun hn _ h => ax_cc (v := .inr (.inr r)) trivial (ax_ct (ax_ct h))) (fun {p} {l} {e} {s} {m} {args} {below} {meth} {c} {D} {ca} {ad} {H} {locs} {lsA} {Q} X _ hv _ hP _ w => ?_) kk
  have hK := X.2.2.2.2.2.2.2.1
  have hin := ax_in (ax_cr hv) h0 (n := rs.length) (by omega)
  have hc0 := ax_cl0 (ax_cr hv)
  have hlt' : (Int32.ofInt i).toNatClampNeg < rs.length := by rw [hc0]; exact hlt
  have hval : (fun j => va_rf ((rs[j]?).map ad)) (Int32.ofInt i).toNatClampNeg = .ref (ad r) := by
    show va_rf ((rs[(Int32.ofInt i).toNatClampNeg]?).map ad) = _
    rw [hc0, hi]; rfl
  have hcell := hP k _ (ax_w_get hs)
  rcases ht with rfl | rfl
  · exact W.aald (v := .ref (ad r)) (ty := .object "RowsIntoPlane$Call") X.1 X.2.1 hcell ((hK.2 3 _ rfl).1 rs.length (fun j => va_rf ((rs[j]?).map ad))) rfl (fun q => by cases q) (by show ¬ (_ < 0 ∨ (arrV _ _ _).slots.size ≤ _); rw [arrV_size]; exact hin) (by show (arrV _ _ _).slots[_]? = _; rw [arrV_read _ _ hlt', ← hval]) rfl rfl hd w
  · exact W.aald (v := .ref (ad r)) (ty := .array .int) X.1 X.2.1 hcell ((hK.2 4 _ rfl).1 rs.length (fun j => va_rf ((rs[j]?).map ad))) rfl (fun q => by cases q) (by show ¬ (_ < 0 ∨ (arrV _ _ _).slots.size ≤ _); rw [arrV_size]; exact hin) (by show (arrV _ _ _).slots[_]? = _; rw [arrV_read _ _ hlt', ← hval]) rfl rfl hd w
-- ends
theorem ax_iret {i : Int} {y : MethodName} {cc : ByteArray} (hd : decode cc pc = .ok (.ireturn, 1)) (h : P i M) : ax_J sh y cc mL (some .int) dp P pc ls [.inl i] M := by
  intro p l e s m args below meth c D ca ad X hn hv hq H locs lsA hP hS hl
  exact W.iret X.1 X.2.1 X.2.2.1 (fun t ht hW => ⟨⟨_, M, rfl, ⟨i, ax_cr hv, rfl, h⟩, hn, by rw [ht]; exact hP⟩, hS.F ht⟩) hS.2.2 hd X.2.2.2.2.1
theorem ax_zret {i : Int} {y : MethodName} {cc : ByteArray} (hd : decode cc pc = .ok (.ireturn, 1)) (hz : i = 0 ∨ i = 1) (h : P i M) : ax_J sh y cc mL (some .boolean) dp P pc ls [.inl i] M := by
  intro p l e s m args below meth c D ca ad X hn hv hq H locs lsA hP hS hl
  exact W.zret X.1 X.2.1 X.2.2.1 (ax_nz hz).1 (fun t ht hW => ⟨⟨_, M, rfl, ⟨i, ax_cr hv, rfl, h⟩, hn, by rw [ht]; exact hP⟩, hS.F ht⟩) hS.2.2 hd X.2.2.2.2.1
theorem ax_lret {i : Int} {y : MethodName} {cc : ByteArray} (hd : decode cc pc = .ok (.lreturn, 1)) (h : P i M) : ax_J sh y cc mL (some .long) dp P pc ls [.inr (.inl i)] M := by
  intro p l e s m args below meth c D ca ad X hn hv hq H locs lsA hP hS hl
  exact W.lret X.1 X.2.1 X.2.2.1 (fun t ht hW => ⟨⟨_, M, rfl, ⟨i, rfl, h⟩, hn, by rw [ht]; exact hP⟩, hS.F ht⟩) hS.2.2 hd X.2.2.2.2.1
theorem ax_vret {y : MethodName} {cc : ByteArray} (hd : decode cc pc = .ok (.return_, 1)) (h : P 0 M) : ax_J sh y cc mL none dp P pc ls [] M := by
  intro p l e s m args below meth c D ca ad X hn hv hq H locs lsA hP hS hl
  exact W.vret X.1 X.2.1 X.2.2.1 (fun t ht hW => ⟨⟨M, rfl, h, hn, by rw [ht]; exact hP⟩, hS.F ht⟩) hS.2.2 hd X.2.2.2.2.1
end AXM
end
section
/-! calls -/
section AXC
variable {sh : List ax_Sh} {y : MethodName} {cc : ByteArray} {mL : Nat} {ret : Option FieldType} {dp : Nat} {P : Int → ax_Mem → Prop} {pc : Nat} {ls : List (Nat × ax_V)} {st : List ax_V} {M : ax_Mem}
def ax_sz (st : List ax_V) : Nat := (st.map (fun v => if ax_lg v then 2 else 1)).sum
theorem ax_sz_eq (ad : Nat → Nat) (st : List ax_V) : ((st.map (ax_c ad)).map fun v => v.category).sum = ax_sz st := by
  unfold ax_sz
  rw [List.map_map]
  congr 1
  apply List.map_congr_left
  intro v _
  rcases v with i | i | k <;> rfl
def ax_push (ret : Option FieldType) (r : Int) (st : List ax_V) : List ax_V := match ret with
  | none => st
  | some .long => .inr (.inl r) :: st
  | some _ => .inl r :: st
/-- where the locals of a call begin -/
def ax_args : Nat → List ax_V → List (Nat × ax_V)
  | _, [] => []
  | i, v :: vs => (i, v) :: ax_args (if ax_lg v then i + 2 else i + 1) vs
theorem ax_args_eq (ad : Nat → Nat) : ∀ (as : List ax_V) (i : Nat), lv_args i (as.map (ax_c ad)) = ax_l ad (ax_args i as)
  | [], i => rfl
  | v :: as, i => by
    show (i, ax_c ad v) :: lv_args (if (ax_c ad v).category = 2 then i + 2 else i + 1) (as.map (ax_c ad)) = (i, ax_c ad v) :: ax_l ad (ax_args (if ax_lg v then i + 2 else i + 1) as)
    have e : (if (ax_c ad v).category = 2 then i + 2 else i + 1) = (if ax_lg v then i + 2 else i + 1) := by
      rcases v with j | j | k <;> rfl
    rw [e, ax_args_eq ad as]
theorem ax_args_vr : ∀ (as : List ax_V) (i : Nat), (∀ v ∈ as, ax_vr v) → ∀ q ∈ ax_args i as, ax_vr q.2
  | [], _, _, q, hq => by cases hq
  | v :: as, i, h, q, hq => by
    rcases List.mem_cons.mp hq with e | e
    · rw [e]; exact h v List.mem_cons_self
    · exact ax_args_vr as _ (fun w hw => h w (List.mem_cons_of_mem _ hw)) q e
theorem ax_sl_len (ad : Nat → Nat) : ∀ (as : List ax_V), (lg_sl (as.map (ax_c ad))).length = ax_sz as
  | [] => rfl
  | v :: as => by
    have ih := ax_sl_len ad as
    simp only [lg_sl, List.map_cons, List.flatMap_cons, List.length_append] at ih ⊢
    rw [ih]
    rcases v with j | j | k <;> simp [ax_sz, ax_c, ax_lg, Value.category]
/-- a method's contract out of its body -/
theorem ax_ofJ {as : List ax_V} (hy : plainName y.cls = true) (hz : ax_sz as ≤ mL) (k : ax_J sh y cc mL ret dp P 0 (ax_args 0 as) [] M) : ax_C sh y cc mL ret dp as M P := by
  intro l D ca ad hI hn ha
  refine Met.ofW (cc := cc) (maxL := mL) (ret := ret) (ws' := ax_Ts) hy rfl ?_
  intro p e s m args below meth c s₁ B hml hv
  obtain ⟨rfl, hP, hK, hN⟩ := hv
  have hts := atoms_spec (ws := ax_ws y cc mL ret) B.pre
  have hown : s.vm.findClass y.cls = some m.cls := findClass_of_methodNamed B.named
  have hl := lv_entry (as.map (ax_c ad)) (n := mL) (by rw [ax_sl_len]; exact hz)
  rw [lg_entry_eq]
  rw [ax_args_eq] at hl
  exact k p l e s m _ below meth c D ca ad ⟨B.exec, B.bytes, B.returns, hml, B.notSynchronized, hown, fun w hw => hts w (List.mem_cons_of_mem _ hw), hK, hI, hN⟩ hn (fun v h => by cases h) (ax_args_vr as 0 ha) s.heap [] _ hP va_S.rf hl
/-- what the tables say of an entry that names an instance method -/
def ax_LV (own : String) (idx : Nat) (y : MethodName) (cc : ByteArray) (mL : Nat) (ret : Option FieldType) (n : Nat) : Prop :=
  Cond.methodLink own idx y ∈ ax_Ts ∧ Cond.instanceMethod y ∈ ax_Ts ∧ Cond.selects y.cls y y ∈ ax_Ts ∧ Cond.initialized y.cls ∈ ax_Ts ∧ Cond.code y cc mL ret ∈ ax_Ts ∧ y.cls ≠ "java/lang/invoke/MethodHandle" ∧ y.cls ≠ "java/lang/invoke/VarHandle" ∧ (parseMethodDescriptor y.desc).map (fun d => d.parameters.length) = some n ∧ mL ≤ 17
def ax_LS (own : String) (idx : Nat) (y : MethodName) (cc : ByteArray) (mL : Nat) (ret : Option FieldType) (n : Nat) : Prop :=
  Cond.methodLink own idx y ∈ ax_Ts ∧ Cond.static y ∈ ax_Ts ∧ Cond.initialized y.cls ∈ ax_Ts ∧ Cond.code y cc mL ret ∈ ax_Ts ∧ y.cls ≠ "java/lang/invoke/MethodHandle" ∧ y.cls ≠ "java/lang/invoke/VarHandle" ∧ (parseMethodDescriptor y.desc).map (fun d => d.parameters.length) = some n ∧ mL ≤ 17
theorem ax_good {y : MethodName} {cc : ByteArray} {mL : Nat} {ret : Option FieldType} (h : Cond.code y cc mL ret ∈ ax_Ts) : GoodIn ax_Ts (ax_ws y cc mL ret) := by
  intro w hw
  rcases List.mem_cons.mp hw with e | e
  · rw [e]; exact ⟨h, good_of_word (ax_Ts_good _ h)⟩
  · exact ⟨e, good_of_word (ax_Ts_good _ e)⟩
theorem ax_back {y2 : MethodName} {ret2 : Option FieldType} {p : Program} {l : Launch} {e : Env} {s : State} {m : MethodId} {args : Array Value} {below : List Frame} {meth : Method} {c : Code} {D : va_G} {ca : Nat → ClassId} {ad : Nat → Nat} {H : Heap} {locs : List Loc} {lsA : Array Slot} {st0 : List Value} {a : Array Value}
    (X : ax_X sh y cc mL ret p s m args meth c D ca ad) (hs : ∀ v ∈ st, ax_vr v) (hq : ∀ q ∈ ls, ax_vr q.2) (hS : va_S (ax_As sh ad) s.heap H locs) (hl : lv_has lsA mL (ax_l ad ls))
    (hr : va_Run p l e (ax_rm dp) s m args below meth c H locs 0 0 0 0 (F0 m pc lsA st0) (st.map (ax_c ad)) (ax_Q sh ret2 D ca ad (fun r M' => ax_J sh y cc mL ret dp P (pc + 3) ls (ax_push ret2 r st) M') a) (ax_As sh ad)) :
    W p l e (ax_rm dp) s m args below meth c H locs 0 0 (MQ below (ax_Q sh ret D ca ad P) args s 0 0 (ax_As sh ad)) (F0 m pc lsA st0) := by
  have gi : va_Run p l e (ax_rm dp) s m args below meth c H locs 0 0 0 0 (F0 m pc lsA st0) (st.map (ax_c ad)) (va_Qi (fun r u => ∃ i, ax_r i ∧ r = Int32.ofInt i ∧ ax_J sh y cc mL ret dp P (pc + 3) ls (.inl i :: st) u) (ax_B sh D ca ad) (ax_As sh ad) a) (ax_As sh ad) → W p l e (ax_rm dp) s m args below meth c H locs 0 0 (MQ below (ax_Q sh ret D ca ad P) args s 0 0 (ax_As sh ad)) (F0 m pc lsA st0) := by
    intro hr
    refine va_calli hr hS (fun _ _ h => h) (fun _ h => h) (fun r u t H1 locs1 ht hvm hpost hB hz hk hS1 => ?_)
    obtain ⟨i, hi, rfl, hj⟩ := hpost
    obtain ⟨hn1, hP1⟩ := hB
    rw [ht] at hP1
    exact hj p l e s m args below meth c D ca ad X hn1 (ax_cc (v := .inl i) hi hs) hq H1 locs1 lsA hP1 hS1 hl
  rcases ret2 with _ | ty
  · refine va_callv (a := a) hr hS (fun _ _ h => h) (fun _ h => h) (fun u t H1 locs1 ht hvm hpost hB hz hk hS1 => ?_)
    obtain ⟨hn1, hP1⟩ := hB
    rw [ht] at hP1
    exact hpost p l e s m args below meth c D ca ad X hn1 hs hq H1 locs1 lsA hP1 hS1 hl
  · cases ty with
    | long =>
      refine va_calll (a := a) hr hS (fun _ _ h => h) (fun _ h => h) (fun r u t H1 locs1 ht hvm hpost hB hz hk hS1 => ?_)
      obtain ⟨i, rfl, hj⟩ := hpost
      obtain ⟨hn1, hP1⟩ := hB
      rw [ht] at hP1
      exact hj p l e s m args below meth c D ca ad X hn1 (ax_cc (v := .inr (.inl i)) trivial hs) hq H1 locs1 lsA hP1 hS1 hl
    | _ => exact gi hr
theorem ax_pre {D : va_G} {ca : Nat → ClassId} {ad : Nat → Nat} {as : List Value} (av : List Value) : FrameBlind (va_Pc av (fun U => va_P D ax_cl (ax_w sh ca ad M) U.heap ∧ va_K D ax_cl (ax_tys ca) U ∧ va_Nw ax_nest U)) := by
  intro a U g mk h
  obtain ⟨h1, h2, h3, h4⟩ := h
  exact ⟨h1, h2, va_K.moved (u := U) (U := U.calling g mk a) (Vm.Alike.refl U.vm) h3, va_Nw.same rfl rfl h4⟩
theorem ax_callV {y2 : MethodName} {cc2 : ByteArray} {mL2 : Nat} {ret2 : Option FieldType} {dp2 idx n k ci : Nat} {as st0 : List ax_V} {fs : List (Option (Option Nat))} (hd : decode cc pc = .ok (.invokevirtual idx, 3)) (hl : ax_LV y.cls idx y2 cc2 mL2 ret2 n) (hs : sh[k]? = some (.inr (.inr (ci, fs)))) (hc : ∃ (T : u_T) (N : Nat), ax_cl[ci]? = some (y2.cls, T, N)) (hn : as.length = n) (h0 : st0 = as.reverse ++ .inr (.inr k) :: st) (hz : ax_sz st ≤ 8) (hdp : dp2 + 1 ≤ dp)
    (kk : ax_C sh y2 cc2 mL2 ret2 dp2 (.inr (.inr k) :: as) M (fun r M' => ax_J sh y cc mL ret dp P (pc + 3) ls (ax_push ret2 r st) M')) : ax_J sh y cc mL ret dp P pc ls st0 M := by
  intro p l e s m args below meth c D ca ad X hn0 hv hq H locs lsA hP hS hls
  obtain ⟨T, N, hc⟩ := hc
  obtain ⟨l1, l2, l3, l4, l5, l6, l7, l8, l9⟩ := hl
  have hts := X.2.2.2.2.2.2.1
  subst h0
  have hst : ∀ v ∈ st, ax_vr v := fun v h => hv v (List.mem_append_right _ (List.mem_cons_of_mem _ h))
  have has : ∀ v ∈ (.inr (.inr k) :: as : List ax_V), ax_vr v := fun v h => by
    rcases List.mem_cons.mp h with e | e
    · rw [e]; trivial
    · exact hv v (List.mem_append_left _ (List.mem_reverse.mpr e))
  refine ax_back (y2 := y2) (ret2 := ret2) X hst hq hS hls (va_runV (As := as.map (ax_c ad)) (b := ad k) (C := y2.cls) (n := n) (Ts := ax_Ts) (bytes := cc2) (maxL := mL2) (ret := ret2) ⟨X.1, X.2.1, X.2.2.2.1, X.2.2.2.2.2.1, hts⟩ (kk l D ca ad X.2.2.2.2.2.2.2.2.1 hn0 has) ⟨?_, hts _ l2, hts _ l3⟩ ⟨ax_pre (as := []) _, ?_, ?_⟩ rfl (by rw [List.length_map]; exact hn) hls.1 ?_ ?_ hd ⟨Nat.le_refl _, Nat.le_refl _⟩)
  · exact callB_of n hts (ax_good l5) rfl rfl rfl (hts _ l4) (hts _ l1) ⟨l6, l7, l8⟩ ⟨hdp, by show 8 + (mL2 + 11) + 36 * dp2 ≤ 36 * dp; omega⟩
  · exact va_recv X.2.2.2.2.2.2.2.1 hP hc (ax_w_get hs)
  · intro U hU hW
    exact ⟨rfl, by rw [hU]; exact hP, va_K.moved hW.alike X.2.2.2.2.2.2.2.1, va_Nw.warmM hW X.2.2.2.2.2.2.2.2.2⟩
  · show (as.reverse ++ .inr (.inr k) :: st).map (ax_c ad) = _
    rw [List.map_append, List.map_reverse]
    rfl
  · exact lv_room (by rw [ax_sz_eq]; exact hz)
theorem ax_callS {y2 : MethodName} {cc2 : ByteArray} {mL2 : Nat} {ret2 : Option FieldType} {dp2 idx n : Nat} {as st0 : List ax_V} (hd : decode cc pc = .ok (.invokestatic idx, 3)) (hl : ax_LS y.cls idx y2 cc2 mL2 ret2 n) (hn : as.length = n) (h0 : st0 = as.reverse ++ st) (hz : ax_sz st ≤ 8) (hdp : dp2 + 1 ≤ dp)
    (kk : ax_C sh y2 cc2 mL2 ret2 dp2 as M (fun r M' => ax_J sh y cc mL ret dp P (pc + 3) ls (ax_push ret2 r st) M')) : ax_J sh y cc mL ret dp P pc ls st0 M := by
  intro p l e s m args below meth c D ca ad X hn0 hv hq H locs lsA hP hS hls
  obtain ⟨l1, l2, l4, l5, l6, l7, l8, l9⟩ := hl
  have hts := X.2.2.2.2.2.2.1
  subst h0
  have hst : ∀ v ∈ st, ax_vr v := fun v h => hv v (List.mem_append_right _ h)
  have has : ∀ v ∈ as, ax_vr v := fun v h => hv v (List.mem_append_left _ (List.mem_reverse.mpr h))
  refine ax_back (y2 := y2) (ret2 := ret2) X hst hq hS hls (va_runS (As := as.map (ax_c ad)) (n := n) (Ts := ax_Ts) (bytes := cc2) (maxL := mL2) (ret := ret2) ⟨X.1, X.2.1, X.2.2.2.1, X.2.2.2.2.2.1, hts⟩ (kk l D ca ad X.2.2.2.2.2.2.2.2.1 hn0 has) ⟨?_, hts _ l2⟩ ⟨ax_pre (as := []) _, ?_⟩ rfl (by rw [List.length_map]; exact hn) hls.1 ?_ ?_ hd ⟨Nat.le_refl _, Nat.le_refl _⟩)
  · exact callB_of n hts (ax_good l5) rfl rfl rfl (hts _ l4) (hts _ l1) ⟨l6, l7, l8⟩ ⟨hdp, by show 8 + (mL2 + 11) + 36 * dp2 ≤ 36 * dp; omega⟩
  · intro U hU hW
    exact ⟨rfl, by rw [hU]; exact hP, va_K.moved hW.alike X.2.2.2.2.2.2.2.1, va_Nw.warmM hW X.2.2.2.2.2.2.2.2.2⟩
  · show (as.reverse ++ st).map (ax_c ad) = _
    rw [List.map_append, List.map_reverse]
  · exact lv_room (by rw [ax_sz_eq]; exact hz)
/-- the one call of a nest mate's private method: Cabin.hasSeat calls RowsIntoPlane.outside -/
def ax_LN (y : MethodName) (cc : ByteArray) (mL : Nat) (ret : Option FieldType) (n : Nat) : Prop :=
  y = ⟨"RowsIntoPlane", "outside", "(III)Z"⟩ ∧ Cond.static y ∈ ax_Ts ∧ Cond.initialized y.cls ∈ ax_Ts ∧ Cond.code y cc mL ret ∈ ax_Ts ∧ y.cls ≠ "java/lang/invoke/MethodHandle" ∧ y.cls ≠ "java/lang/invoke/VarHandle" ∧ (parseMethodDescriptor y.desc).map (fun d => d.parameters.length) = some n ∧ mL ≤ 17
theorem ax_callSN {y2 : MethodName} {cc2 : ByteArray} {mL2 : Nat} {ret2 : Option FieldType} {dp2 n : Nat} {as st0 : List ax_V} (hd : decode cc pc = .ok (.invokestatic 22, 3)) (hown : y.cls = "RowsIntoPlane$Cabin") (hl : ax_LN y2 cc2 mL2 ret2 n) (hn : as.length = n) (h0 : st0 = as.reverse ++ st) (hz : ax_sz st ≤ 8) (hdp : dp2 + 1 ≤ dp)
    (kk : ax_C sh y2 cc2 mL2 ret2 dp2 as M (fun r M' => ax_J sh y cc mL ret dp P (pc + 3) ls (ax_push ret2 r st) M')) : ax_J sh y cc mL ret dp P pc ls st0 M := by
  intro p l e s m args below meth c D ca ad X hn0 hv hq H locs lsA hP hS hls
  obtain ⟨l1, l2, l4, l5, l6, l7, l8, l9⟩ := hl
  have hts := X.2.2.2.2.2.2.1
  subst h0
  subst l1
  have hst : ∀ v ∈ st, ax_vr v := fun v h => hv v (List.mem_append_right _ h)
  have has : ∀ v ∈ as, ax_vr v := fun v h => hv v (List.mem_append_left _ (List.mem_reverse.mpr h))
  refine ax_back (y2 := ⟨"RowsIntoPlane", "outside", "(III)Z"⟩) (ret2 := ret2) X hst hq hS hls (va_runSN (As := as.map (ax_c ad)) (n := n) (Ts := ax_Ts) (bytes := cc2) (maxL := mL2) (ret := ret2) (own := "RowsIntoPlane$Cabin") (host := "RowsIntoPlane") ⟨X.1, X.2.1, X.2.2.2.1, hown ▸ X.2.2.2.2.2.1, hts⟩ (kk l D ca ad X.2.2.2.2.2.2.2.2.1 hn0 has) ⟨?_, hts _ l2, trivial⟩ ⟨ax_pre (as := []) _, ?_⟩ rfl (by rw [List.length_map]; exact hn) hls.1 ?_ ?_ hd ⟨Nat.le_refl _, Nat.le_refl _⟩)
  · exact va_cnB n hts (ax_good l5) rfl rfl rfl X.2.2.2.2.2.2.2.2.2 (hts _ l4) ⟨l6, l7, l8⟩ ⟨hdp, by show 8 + (mL2 + 11) + 36 * dp2 ≤ 36 * dp; omega⟩
  · intro U hU hW
    exact ⟨rfl, by rw [hU]; exact hP, va_K.moved hW.alike X.2.2.2.2.2.2.2.1, va_Nw.warmM hW X.2.2.2.2.2.2.2.2.2⟩
  · show (as.reverse ++ st).map (ax_c ad) = _
    rw [List.map_append, List.map_reverse]
  · exact lv_room (by rw [ax_sz_eq]; exact hz)
end AXC
end
section
theorem wb_tb (n : Nat) : (lN n).toBitVec = BitVec.ofNat 64 n := rfl
theorem wb_inj {a b : Int64} (h : a.toBitVec = b.toBitVec) : a = b := Int64.toBitVec_inj.mp h
theorem wb_tn {n : Nat} (h : n < 2 ^ 64) : (lN n).toBitVec.toNat = n := by rw [wb_tb, BitVec.toNat_ofNat, Nat.mod_eq_of_lt h]
theorem wb_of (x : Int64) : ∃ n, n < 2 ^ 64 ∧ x = lN n := ⟨x.toBitVec.toNat, x.toBitVec.isLt, wb_inj (by rw [wb_tb]; simp)⟩
theorem wb_of32 (x : Int32) : ∃ n, n < 2 ^ 32 ∧ x = nI n := ⟨x.toBitVec.toNat, x.toBitVec.isLt, Int32.toBitVec_inj.mp (by show _ = BitVec.ofNat 32 _; simp)⟩
theorem wb_c : ∀ k, k < 64 → ((nI k).toInt64 &&& 63) = lN k := by decide +kernel
theorem wb_cu : ∀ k, k < 64 → ((nI k).toInt64.toUInt64 &&& Int64.toUInt64 63) = UInt64.ofNat k := by decide +kernel
theorem wb_sm : ∀ k, k < 64 → (BitVec.ofNat 64 k).smod 64 = BitVec.ofNat 64 k := by decide +kernel
theorem wb_pw {a b : Nat} (h : a ≤ b) : 2 ^ b = 2 ^ a * 2 ^ (b - a) := by rw [← Nat.pow_add]; congr 1; omega
theorem wb_lt2 {a b : Nat} (h : a < b) : 2 ^ a < 2 ^ b := Nat.pow_lt_pow_right (by decide) h
theorem wb_mod (n : Nat) : lN n = lN (n % 2 ^ 64) := wb_inj (by rw [wb_tb, wb_tb]; apply BitVec.eq_of_toNat_eq; rw [BitVec.toNat_ofNat, BitVec.toNat_ofNat, Nat.mod_mod])
theorem wb_shr {n k : Nat} (hn : n < 2 ^ 64) (hk : k < 64) : ((lN n).toUInt64 >>> ((nI k).toInt64.toUInt64 &&& Int64.toUInt64 63)).toInt64 = lN (n / 2 ^ k) := by
  rw [wb_cu k hk]
  apply wb_inj
  apply BitVec.eq_of_toNat_eq
  show ((lN n).toUInt64 >>> UInt64.ofNat k).toNat = (BitVec.ofNat 64 _).toNat
  have h1 : (UInt64.ofNat k).toNat = k := by
    show (BitVec.ofNat 64 k).toNat = k
    rw [BitVec.toNat_ofNat, Nat.mod_eq_of_lt (by omega)]
  have h2 : (lN n).toUInt64.toNat = n := wb_tn hn
  rw [UInt64.toNat_shiftRight, h1, h2, Nat.mod_eq_of_lt hk, Nat.shiftRight_eq_div_pow, BitVec.toNat_ofNat, Nat.mod_eq_of_lt (Nat.lt_of_le_of_lt (Nat.div_le_self _ _) hn)]
theorem wb_and {a b : Nat} (ha : a < 2 ^ 64) (hb : b < 2 ^ 64) : lN a &&& lN b = lN (a &&& b) := by
  apply wb_inj
  rw [Int64.toBitVec_and, wb_tb, wb_tb, wb_tb]
  apply BitVec.eq_of_toNat_eq
  rw [BitVec.toNat_and, BitVec.toNat_ofNat, BitVec.toNat_ofNat, BitVec.toNat_ofNat, Nat.mod_eq_of_lt ha, Nat.mod_eq_of_lt hb, Nat.mod_eq_of_lt (Nat.and_lt_two_pow _ hb)]
theorem wb_mask {n k : Nat} (hn : n < 2 ^ 64) (hk : k < 64) : lN n &&& lN (2 ^ k - 1) = lN (n % 2 ^ k) := by
  rw [wb_and hn (by have := wb_lt2 hk; omega), Nat.and_two_pow_sub_one_eq_mod]
/-! Math, copies, longs, bits, switches (the wb_ rows above are the kit's, given for pasting) -/
section AXR
variable {sh : List ax_Sh} {y : MethodName} {cc : ByteArray} {mL : Nat} {ret : Option FieldType} {dp : Nat} {P : Int → ax_Mem → Prop} {pc : Nat} {ls : List (Nat × ax_V)} {st : List ax_V} {M : ax_Mem}
theorem ax_min_if {a b : Int} (ha : ax_r a) (hb : ax_r b) : (if Int32.ofInt b < Int32.ofInt a then Int32.ofInt b else Int32.ofInt a) = Int32.ofInt (min a b) := by
  by_cases h : b < a
  · rw [if_pos ((ax_lt hb ha).mpr h), Int.min_eq_right (by omega)]
  · rw [if_neg (fun q => h ((ax_lt hb ha).mp q)), Int.min_eq_left (by omega)]
theorem ax_max_if {a b : Int} (ha : ax_r a) (hb : ax_r b) : (if Int32.ofInt a < Int32.ofInt b then Int32.ofInt b else Int32.ofInt a) = Int32.ofInt (max a b) := by
  by_cases h : a < b
  · rw [if_pos ((ax_lt ha hb).mpr h), Int.max_eq_right (by omega)]
  · rw [if_neg (fun q => h ((ax_lt ha hb).mp q)), Int.max_eq_left (by omega)]
def ax_MW (own : String) (idx : Nat) (y : MethodName) (cc : ByteArray) (n : Nat) : Prop := Cond.methodLink own idx y ∈ ax_Ts ∧ Cond.static y ∈ ax_Ts ∧ Cond.initialized "java/lang/Math" ∈ ax_Ts ∧ Cond.code y cc n (some .int) ∈ ax_Ts
theorem ax_mmin {a b : Int} {idx : Nat} (hd : decode cc pc = .ok (.invokestatic idx, 3)) (hl : ax_MW y.cls idx Lib.Math.min.name Lib.Math.min.code 2) (hz : ax_sz st ≤ 8) (hdp : 1 ≤ dp) (k : ax_J sh y cc mL ret dp P (pc + 3) ls (.inl (min a b) :: st) M) : ax_J sh y cc mL ret dp P pc ls (.inl b :: .inl a :: st) M := by
  intro p l e s m args below meth c D ca ad X hn hs hq H locs lsA hP hS hls
  have hb := ax_cr hs
  have ha := ax_cr (ax_ct hs)
  have hts := X.2.2.2.2.2.2.1
  refine va_mmin X.1 X.2.1 (by rw [hls.1]; exact X.2.2.2.1) X.2.2.2.2.2.1 (hts _ hl.1) (hts _ hl.2.1) (hts _ hl.2.2.1) (hts _ hl.2.2.2) hdp (by rw [ax_sz_eq]; show _ ≤ 36 * dp; omega) (Nat.le_refl _) (Nat.le_refl _) hd ?_
  rw [ax_min_if ha hb]
  exact k p l e s m args below meth c D ca ad X hn (ax_cc (v := .inl (min a b)) (show ax_r _ from ⟨by have := ha.1; have := hb.1; omega, by have := ha.2; omega⟩) (ax_ct (ax_ct hs))) hq H locs lsA hP hS hls
theorem ax_mmax {a b : Int} {idx : Nat} (hd : decode cc pc = .ok (.invokestatic idx, 3)) (hl : ax_MW y.cls idx Lib.Math.max.name Lib.Math.max.code 2) (hz : ax_sz st ≤ 8) (hdp : 1 ≤ dp) (k : ax_J sh y cc mL ret dp P (pc + 3) ls (.inl (max a b) :: st) M) : ax_J sh y cc mL ret dp P pc ls (.inl b :: .inl a :: st) M := by
  intro p l e s m args below meth c D ca ad X hn hs hq H locs lsA hP hS hls
  have hb := ax_cr hs
  have ha := ax_cr (ax_ct hs)
  have hts := X.2.2.2.2.2.2.1
  refine va_mmax X.1 X.2.1 (by rw [hls.1]; exact X.2.2.2.1) X.2.2.2.2.2.1 (hts _ hl.1) (hts _ hl.2.1) (hts _ hl.2.2.1) (hts _ hl.2.2.2) hdp (by rw [ax_sz_eq]; show _ ≤ 36 * dp; omega) (Nat.le_refl _) (Nat.le_refl _) hd ?_
  rw [ax_max_if ha hb]
  exact k p l e s m args below meth c D ca ad X hn (ax_cc (v := .inl (max a b)) (show ax_r _ from ⟨by have := ha.1; omega, by have := ha.2; have := hb.2; omega⟩) (ax_ct (ax_ct hs))) hq H locs lsA hP hS hls
def ax_abs (a : Int) : Int := if 0 ≤ a then a else -a
theorem ax_mabs {a : Int} {idx : Nat} (hd : decode cc pc = .ok (.invokestatic idx, 3)) (hl : ax_MW y.cls idx Lib.Math.abs.name Lib.Math.abs.code 1) (hz : ax_sz st ≤ 8) (hdp : 1 ≤ dp) (h0 : -2147483648 < a) (k : ax_J sh y cc mL ret dp P (pc + 3) ls (.inl (ax_abs a) :: st) M) : ax_J sh y cc mL ret dp P pc ls (.inl a :: st) M := by
  intro p l e s m args below meth c D ca ad X hn hs hq H locs lsA hP hS hls
  have ha := ax_cr hs
  have hts := X.2.2.2.2.2.2.1
  refine va_mabs X.1 X.2.1 (by rw [hls.1]; exact X.2.2.2.1) X.2.2.2.2.2.1 (hts _ hl.1) (hts _ hl.2.1) (hts _ hl.2.2.1) (hts _ hl.2.2.2) hdp (by rw [ax_sz_eq]; show _ ≤ 36 * dp; omega) (Nat.le_refl _) (Nat.le_refl _) hd ?_
  have e1 : (if 0 ≤ Int32.ofInt a then Int32.ofInt a else 0 - Int32.ofInt a) = Int32.ofInt (ax_abs a) := by
    unfold ax_abs
    have h00 : ax_r 0 := ⟨by omega, by omega⟩
    have hz : (0 : Int32) = Int32.ofInt 0 := rfl
    by_cases h : 0 ≤ a
    · rw [if_pos h, if_pos (by rw [hz]; exact (ax_le h00 ha).mpr h)]
    · rw [if_neg h, if_neg (by rw [hz]; exact fun q => h ((ax_le h00 ha).mp q)), hz, ← Int32.ofInt_sub]
      congr 1
      omega
  rw [e1]
  exact k p l e s m args below meth c D ca ad X hn (ax_cc (v := .inl (ax_abs a)) (show ax_r _ from by unfold ax_abs; have := ha.2; split <;> exact ⟨by omega, by omega⟩) (ax_ct hs)) hq H locs lsA hP hS hls
/-- System.arraycopy of whole int arrays from place 0 to place 0 -/
def ax_cp (M : ax_Mem) (k q n : Nat) : ax_Mem := ax_s M q (fun j => if j < n then M k j else M q j)
def ax_AW (own : String) (idx : Nat) : Prop := Cond.methodLink own idx arraycopyName ∈ ax_Ts ∧ Cond.native arraycopyName ∈ ax_Ts ∧ Cond.static arraycopyName ∈ ax_Ts ∧ Cond.initialized "java/lang/System" ∈ ax_Ts
theorem ax_copy {k q n0 n1 idx : Nat} {n : Int} (hd : decode cc pc = .ok (.invokestatic idx, 3)) (hl : ax_AW y.cls idx) (hk : sh[k]? = some (.inl (0, n0))) (hq0 : sh[q]? = some (.inl (0, n1))) (h0 : 0 ≤ n) (h1 : n ≤ n0) (h2 : n ≤ n1) (hz : ax_sz st ≤ 8) (hdp : 1 ≤ dp) (kk : ax_J sh y cc mL ret dp P (pc + 3) ls st (ax_cp M k q n.toNat)) : ax_J sh y cc mL ret dp P pc ls (.inl n :: .inl 0 :: .inr (.inr q) :: .inl 0 :: .inr (.inr k) :: st) M := by
  intro p l e s m args below meth c D ca ad X hn hs hq H locs lsA hP hS hls
  have hn1 := ax_cr hs
  have hts := X.2.2.2.2.2.2.1
  have h00 : ax_r 0 := ⟨by omega, by omega⟩
  have c0 : (Int32.ofInt 0).toNatClampNeg = 0 := rfl
  have cn := ax_cl0 hn1
  have hz0 : (0 : Int32) = Int32.ofInt 0 := rfl
  have hwords : nativeFrameWords "java/lang/System" "arraycopy" 5 + 11 ≤ 28 := by decide +kernel
  refine va_copyi X.1 X.2.1 (by rw [hls.1]; exact X.2.2.2.1) X.2.2.2.2.2.1 (hts _ hl.1) (hts _ hl.2.1) (hts _ hl.2.2.1) (hts _ hl.2.2.2) X.2.2.2.2.2.2.2.1 hP (ax_D M X.2.2.2.2.2.2.2.2.1) hS k q 0 0 (ax_w_get hk) (ax_w_get hq0) (ty := .int) rfl rfl rfl (by rw [hz0]; exact fun h => absurd ((ax_lt h00 h00).mp h) (by omega)) (by rw [hz0]; exact fun h => absurd ((ax_lt h00 h00).mp h) (by omega)) (by rw [hz0]; exact fun h => absurd ((ax_lt hn1 h00).mp h) (by omega)) (by rw [c0, cn]; omega) (by rw [c0, cn]; omega) (fun i _ => rfl) hdp (by rw [ax_sz_eq]; show _ ≤ 36 * dp; omega) hd (fun H1 locs1 hP1 _ hS1 => ?_)
  rw [c0, cn] at hP1
  have e2 : va_cpy (fun j => Int32.ofInt (M k j)) (fun j => Int32.ofInt (M q j)) 0 0 n.toNat = fun j => Int32.ofInt (ax_cp M k q n.toNat q j) := by
    funext j
    simp only [va_cpy, ax_cp, ax_s, if_true]
    by_cases hj : j < n.toNat <;> simp [hj]
  rw [e2] at hP1
  have e1 : (ax_w sh ca ad M).set q (ad q, ax_e ca ad (ax_cp M k q n.toNat q) (.inl (0, n1))) = ax_w sh ca ad (ax_cp M k q n.toNat) := ax_w_set hq0 (fun a ha => by simp [ax_cp, ax_s, ha])
  have hP2 : va_P D ax_cl (ax_w sh ca ad (ax_cp M k q n.toNat)) H1 := e1 ▸ hP1
  refine kk p l e s m args below meth c D ca ad X ?_ (ax_ct (ax_ct (ax_ct (ax_ct (ax_ct hs))))) hq H1 locs1 lsA hP2 hS1 hls
  intro a b hab
  unfold ax_cp ax_s
  by_cases h : a = q
  · rw [if_pos h]
    show ax_r (if b < n.toNat then M k b else M q b)
    split
    · exact ax_na b hn hk
    · exact ax_na b hn hq0
  · rw [if_neg h]; exact hn a b hab
-- longs
theorem ax_lof (a : Int) : Int64.ofInt a = lN (a % 2 ^ 64).toNat := by
  apply wb_inj
  rw [wb_tb]
  apply BitVec.eq_of_toNat_eq
  rw [BitVec.toNat_ofNat]
  show (BitVec.ofInt 64 a).toNat = _
  rw [BitVec.toNat_ofInt]
  have h1 := Int.emod_nonneg a (show (2 ^ 64 : Int) ≠ 0 by decide)
  have h2 := Int.emod_lt_of_pos a (show (0 : Int) < 2 ^ 64 by decide)
  have e : ((2 ^ 64 : Nat) : Int) = (2 ^ 64 : Int) := by decide
  rw [e, Nat.mod_eq_of_lt (by omega)]
theorem ax_lm {a : Int} {k : Nat} (hk : k < 64) : Int64.ofInt a &&& Int64.ofInt (2 ^ k - 1) = Int64.ofInt (a % 2 ^ k) := by
  have h1 := Int.emod_nonneg a (show (2 ^ 64 : Int) ≠ 0 by decide)
  have h2 := Int.emod_lt_of_pos a (show (0 : Int) < 2 ^ 64 by decide)
  have hp : (0 : Int) < 2 ^ k := Int.pow_pos (by decide)
  have h3 := Int.emod_nonneg a (show (2 ^ k : Int) ≠ 0 by omega)
  have e1 : Int64.ofInt (2 ^ k - 1) = lN (2 ^ k - 1) := by
    rw [ax_lofNat (by omega)]
    congr 1
    have : ((2 ^ k : Nat) : Int) = (2 ^ k : Int) := by simp
    omega
  rw [e1, ax_lof a, wb_mask (by omega) hk, ax_lofNat h3]
  congr 1
  have e2 : ((2 ^ k : Nat) : Int) = (2 ^ k : Int) := by simp
  have e3 : (a % 2 ^ 64) % 2 ^ k = a % 2 ^ k := Int.emod_emod_of_dvd a ⟨2 ^ (64 - k), by rw [← Int.pow_add]; congr 1; omega⟩
  have e4 : (((a % 2 ^ 64).toNat % 2 ^ k : Nat) : Int) = a % 2 ^ k := by
    rw [Int.natCast_emod, Int.toNat_of_nonneg h1, e2, e3]
  omega
theorem ax_land {a b : Int} (k0 : Nat) (hd : decode cc pc = .ok (.land, 1)) (hb : b = 2 ^ k0 - 1) (hk : k0 < 64) (k : ax_J sh y cc mL ret dp P (pc + 1) ls (.inr (.inl (a % 2 ^ k0)) :: st) M) : ax_J sh y cc mL ret dp P pc ls (.inr (.inl b) :: .inr (.inl a) :: st) M := by
  subst hb
  exact ax_step (fun _ _ h => ax_cc (v := .inr (.inl (a % 2 ^ k0))) trivial (ax_ct (ax_ct h))) (fun X _ _ _ _ _ w => lv_land X.1 X.2.1 hd (by rw [ax_lm hk]; exact w)) k
theorem ax_lushr {a b : Int} (hd : decode cc pc = .ok (.lushr, 1)) (h0 : 0 ≤ b) (h1 : b < 64) (k : ax_J sh y cc mL ret dp P (pc + 1) ls (.inr (.inl ((a % 2 ^ 64) / 2 ^ b.toNat)) :: st) M) : ax_J sh y cc mL ret dp P pc ls (.inl b :: .inr (.inl a) :: st) M := by
  refine ax_step (fun _ _ h => ax_cc (v := .inr (.inl ((a % 2 ^ 64) / 2 ^ b.toNat))) trivial (ax_ct (ax_ct h))) (fun X _ _ _ _ _ w => lv_lushr X.1 X.2.1 hd ?_ w) k
  have g1 := Int.emod_nonneg a (show (2 ^ 64 : Int) ≠ 0 by decide)
  have g2 := Int.emod_lt_of_pos a (show (0 : Int) < 2 ^ 64 by decide)
  have hp : (0 : Int) < 2 ^ b.toNat := Int.pow_pos (by decide)
  rw [ax_lof a, ax_ofNat h0, wb_shr (by omega) (by omega), ax_lofNat (Int.ediv_nonneg g1 (by omega))]
  congr 1
  have e2 : ((2 ^ b.toNat : Nat) : Int) = (2 ^ b.toNat : Int) := by simp
  have e4 : (((a % 2 ^ 64).toNat / 2 ^ b.toNat : Nat) : Int) = (a % 2 ^ 64) / 2 ^ b.toNat := by
    rw [Int.natCast_ediv, Int.toNat_of_nonneg g1, e2]
  exact Int.ofNat_inj.mp (e4.trans (Int.toNat_of_nonneg (Int.ediv_nonneg g1 (by omega))).symm)
theorem ax_ldivE {a b : Int} (h0 : 0 ≤ a) (h1 : 0 < b) (ha : a < 2 ^ 63) (hb : b < 2 ^ 63) : Int64.ofInt a / Int64.ofInt b = Int64.ofInt (a / b) ∧ Int64.ofInt a - Int64.ofInt a / Int64.ofInt b * Int64.ofInt b = Int64.ofInt (a % b) ∧ ¬ Int64.ofInt b = 0 := by
  have hb0 : ¬ Int64.ofInt b = 0 := fun h => by
    have h2 : (Int64.ofInt b).toInt = b := Int64.toInt_ofInt_of_le (by omega) hb
    rw [h] at h2
    have h3 : (0 : Int64).toInt = 0 := rfl
    omega
  obtain ⟨n, rfl⟩ := Int.eq_ofNat_of_zero_le h0
  obtain ⟨d, rfl⟩ := Int.eq_ofNat_of_zero_le (Int.le_of_lt h1)
  have e1 : lN n / lN d = lN (n / d) := pk_lDiv (by omega) (by omega) (by omega)
  have e2 : lN n - lN n / lN d * lN d = lN (n % d) := pk_lRem (by omega) (by omega) (by omega)
  exact ⟨e1, e2, hb0⟩
theorem ax_ldiv {a b : Int} (hd : decode cc pc = .ok (.ldiv, 1)) (h0 : 0 ≤ a) (h1 : 0 < b) (ha : a < 2 ^ 63) (hb : b < 2 ^ 63) (k : ax_J sh y cc mL ret dp P (pc + 1) ls (.inr (.inl (a / b)) :: st) M) : ax_J sh y cc mL ret dp P pc ls (.inr (.inl b) :: .inr (.inl a) :: st) M := by
  obtain ⟨e1, e2, e3⟩ := ax_ldivE h0 h1 ha hb
  exact ax_step (fun _ _ h => ax_cc (v := .inr (.inl (a / b))) trivial (ax_ct (ax_ct h))) (fun X _ _ _ _ _ w => lv_ldiv X.1 X.2.1 hd e3 (by rw [e1]; exact w)) k
theorem ax_lrem {a b : Int} (hd : decode cc pc = .ok (.lrem, 1)) (h0 : 0 ≤ a) (h1 : 0 < b) (ha : a < 2 ^ 63) (hb : b < 2 ^ 63) (k : ax_J sh y cc mL ret dp P (pc + 1) ls (.inr (.inl (a % b)) :: st) M) : ax_J sh y cc mL ret dp P pc ls (.inr (.inl b) :: .inr (.inl a) :: st) M := by
  obtain ⟨e1, e2, e3⟩ := ax_ldivE h0 h1 ha hb
  exact ax_step (fun _ _ h => ax_cc (v := .inr (.inl (a % b))) trivial (ax_ct (ax_ct h))) (fun X _ _ _ _ _ w => lv_lrem X.1 X.2.1 hd e3 (by rw [e2]; exact w)) k
def ax_cmp (a b : Int) : Int := if b < a then 1 else if a = b then 0 else -1
theorem ax_lcmp {a b : Int} (hd : decode cc pc = .ok (.lcmp, 1)) (ha : -2 ^ 63 ≤ a ∧ a < 2 ^ 63) (hb : -2 ^ 63 ≤ b ∧ b < 2 ^ 63) (k : ax_J sh y cc mL ret dp P (pc + 1) ls (.inl (ax_cmp a b) :: st) M) : ax_J sh y cc mL ret dp P pc ls (.inr (.inl b) :: .inr (.inl a) :: st) M := by
  have hr : ax_r (ax_cmp a b) := by unfold ax_cmp; split <;> (try split) <;> exact ⟨by omega, by omega⟩
  have i1 : (Int64.ofInt a).toInt = a := Int64.toInt_ofInt_of_le ha.1 ha.2
  have i2 : (Int64.ofInt b).toInt = b := Int64.toInt_ofInt_of_le hb.1 hb.2
  have e : lg_cmp (Int64.ofInt a) (Int64.ofInt b) = Int32.ofInt (ax_cmp a b) := by
    unfold lg_cmp ax_cmp
    simp only [gt_iff_lt, Int64.lt_iff_toInt_lt, ← Int64.toInt_inj, i1, i2]
    split
    · rfl
    · split <;> rfl
  exact ax_step (fun _ _ h => ax_cc (v := .inl (ax_cmp a b)) hr (ax_ct (ax_ct h))) (fun X _ _ _ _ _ w => W.lcmp X.1 X.2.1 hd (by rw [e]; exact w)) k
theorem ax_i2c {a : Int} (hd : decode cc pc = .ok (.i2c, 1)) (h0 : 0 ≤ a) (h1 : a < 65536) (k : ax_J sh y cc mL ret dp P (pc + 1) ls (.inl a :: st) M) : ax_J sh y cc mL ret dp P pc ls (.inl a :: st) M := by
  refine ax_step (fun _ _ h => h) (fun X _ _ _ _ _ w => lv_i2c X.1 X.2.1 hd ?_ w) k
  obtain ⟨n, rfl⟩ := Int.eq_ofNat_of_zero_le h0
  show ((nI n).toUInt32 % 65536).toInt32 = nI n
  rw [pk_char, pk_tn (by omega), Nat.mod_eq_of_lt (by omega)]
theorem ax_ishl1 {b : Int} (hd : decode cc pc = .ok (.ishl, 1)) (h0 : 0 ≤ b) (h1 : b ≤ 30) (k : ax_J sh y cc mL ret dp P (pc + 1) ls (.inl (2 ^ b.toNat) :: st) M) : ax_J sh y cc mL ret dp P pc ls (.inl b :: .inl 1 :: st) M := by
  obtain ⟨n, rfl⟩ := Int.eq_ofNat_of_zero_le h0
  have hn : n < 31 := by omega
  have key : ∀ n, n < 31 → ((1 : Int32) <<< (nI n &&& 31)) = Int32.ofInt (2 ^ n) ∧ ((1 : Int32) <<< nI n) = Int32.ofInt (2 ^ n) ∧ (0 : Int) ≤ 2 ^ n ∧ (2 ^ n : Int) < 2147483648 := by decide +kernel
  obtain ⟨e, e', r1, r2⟩ := key n hn
  refine ax_step (fun _ _ h => ax_cc (v := .inl (2 ^ n)) (show ax_r _ from ⟨by omega, r2⟩) (ax_ct (ax_ct h))) (fun X _ _ _ _ _ w => lv_ishl X.1 X.2.1 hd ?_) k
  first
    | (show W _ _ _ _ _ _ _ _ _ _ _ _ _ _ _ (F0 _ _ _ (.int ((1 : Int32) <<< (nI n &&& 31)) :: _)); rw [e]; exact w)
    | (show W _ _ _ _ _ _ _ _ _ _ _ _ _ _ _ (F0 _ _ _ (.int ((1 : Int32) <<< nI n) :: _)); rw [e']; exact w)
theorem ax_ior {a b : Int} (hd : decode cc pc = .ok (.ior, 1)) (h0 : 0 ≤ a) (h1 : 0 ≤ b) (k : ax_J sh y cc mL ret dp P (pc + 1) ls (.inl ((a.toNat ||| b.toNat : Nat) : Int) :: st) M) : ax_J sh y cc mL ret dp P pc ls (.inl b :: .inl a :: st) M := by
  intro p l e s m args below meth c D ca ad X hn hs hq H locs lsA hP hS hl
  have hb := ax_cr hs
  have ha := ax_cr (ax_ct hs)
  have hlt : (a.toNat ||| b.toNat) < 2 ^ 31 := Nat.or_lt_two_pow (by have := ha.2; omega) (by have := hb.2; omega)
  have e1 : Int32.ofInt a ||| Int32.ofInt b = Int32.ofInt ((a.toNat ||| b.toNat : Nat) : Int) := by
    rw [ax_ofNat h0, ax_ofNat h1]
    apply Int32.toBitVec_inj.mp
    rw [Int32.toBitVec_or]
    show BitVec.ofNat 32 _ ||| BitVec.ofNat 32 _ = BitVec.ofNat 32 _
    apply BitVec.eq_of_toNat_eq
    rw [BitVec.toNat_or, BitVec.toNat_ofNat, BitVec.toNat_ofNat, BitVec.toNat_ofNat, Nat.mod_eq_of_lt (by have := ha.2; omega), Nat.mod_eq_of_lt (by have := hb.2; omega), Nat.mod_eq_of_lt (by omega)]
  refine lv_ior X.1 X.2.1 hd ?_
  rw [e1]
  exact k p l e s m args below meth c D ca ad X hn (ax_cc (v := .inl ((a.toNat ||| b.toNat : Nat) : Int)) (show ax_r _ from ⟨by omega, by omega⟩) (ax_ct (ax_ct hs))) hq H locs lsA hP hS hl
-- switches
theorem ax_tabOut {x dflt lo hi : Int} {offs : Array Int} {len tgt : Nat} (hd : decode cc pc = .ok (.tableswitch dflt lo hi offs, len)) (h : x < lo ∨ hi < x) (ht : (pc : Int) + dflt = (tgt : Int)) (k : ax_J sh y cc mL ret dp P tgt ls st M) : ax_J sh y cc mL ret dp P pc ls (.inl x :: st) M :=
  ax_step (fun _ _ h => ax_ct h) (fun X _ hs _ _ _ w => lv_tableOut X.1 X.2.1 hd (by rw [ax_i32 (ax_cr hs)]; exact h) ht w) k
theorem ax_tabIn {x dflt lo hi off : Int} {offs : Array Int} {len tgt : Nat} (hd : decode cc pc = .ok (.tableswitch dflt lo hi offs, len)) (h1 : lo ≤ x) (h2 : x ≤ hi) (ho : offs[(x - lo).toNat]? = some off) (ht : (pc : Int) + off = (tgt : Int)) (k : ax_J sh y cc mL ret dp P tgt ls st M) : ax_J sh y cc mL ret dp P pc ls (.inl x :: st) M :=
  ax_step (fun _ _ h => ax_ct h) (fun X _ hs _ _ _ w => lv_tableIn X.1 X.2.1 hd (by rw [ax_i32 (ax_cr hs)]; omega) (by rw [ax_i32 (ax_cr hs)]; omega) (by rw [ax_i32 (ax_cr hs)]; exact ho) ht w) k
theorem ax_look {x dflt off : Int} {ps : Array (Int × Int)} {len tgt : Nat} (hd : decode cc pc = .ok (.lookupswitch dflt ps, len)) (hp : (ps.toList.zip (ps.toList.drop 1)).all (fun (a, next) => a.1 < next.1) = true) (ho : Op.lookupswitch.offset ps.toList dflt x = off) (ht : (pc : Int) + off = (tgt : Int)) (k : ax_J sh y cc mL ret dp P tgt ls st M) : ax_J sh y cc mL ret dp P pc ls (.inl x :: st) M :=
  ax_step (fun _ _ h => ax_ct h) (fun X _ hs _ _ _ w => lv_lookup X.1 X.2.1 hd hp (by rw [ax_i32 (ax_cr hs)]; exact ho) ht w) k
end AXR
end
section
/-! the cells of the two worlds; methods, their instructions, their links (by program gen2.py) -/
def shX : List ax_Sh := [.inr (.inr (8, [some (some 1), some (some 2), some (some 10), some (some 13), some (some 15), some (some 40), some (some 42), some (some 44), some (some 66), none, none])), .inr (.inr (1, [none, none, none, none])), .inr (.inr (7, [some (some 3), some (some 4), some (some 5), some (some 6), some (some 7), some (some 8), some (some 9), none])), .inl (0, 12), .inl (0, 12), .inl (0, 12), .inl (0, 12), .inl (0, 12), .inl (0, 12), .inl (0, 12), .inr (.inr (3, [some (some 11), some (some 12), none, none])), .inl (0, 12), .inl (0, 12), .inr (.inr (6, [some (some 14), none, none])), .inl (1, 16), .inr (.inl (3, [16, 19, 22, 25, 28, 31, 34, 37])), .inr (.inr (2, [some (some 17), some (some 18), none])), .inl (1, 4), .inl (0, 4), .inr (.inr (2, [some (some 20), some (some 21), none])), .inl (1, 4), .inl (0, 4), .inr (.inr (2, [some (some 23), some (some 24), none])), .inl (1, 4), .inl (0, 4), .inr (.inr (2, [some (some 26), some (some 27), none])), .inl (1, 4), .inl (0, 4), .inr (.inr (2, [some (some 29), some (some 30), none])), .inl (1, 4), .inl (0, 4), .inr (.inr (2, [some (some 32), some (some 33), none])), .inl (1, 4), .inl (0, 4), .inr (.inr (2, [some (some 35), some (some 36), none])), .inl (1, 4), .inl (0, 4), .inr (.inr (2, [some (some 38), some (some 39), none])), .inl (1, 4), .inl (0, 4), .inr (.inr (5, [some (some 41), none])), .inl (0, 12), .inr (.inr (5, [some (some 43), none])), .inl (0, 12), .inr (.inr (0, [some (some 2), some (some 45), some (some 46), some (some 47), some (some 48), some (some 49), some (some 50), some (some 51), some (some 52), some (some 53), none, none, none, none, none, none])), .inl (0, 12), .inl (0, 12), .inl (0, 12), .inl (0, 12), .inl (0, 12), .inl (0, 12), .inl (0, 12), .inr (.inl (4, [54, 55, 56, 57, 58, 59, 60, 61, 62, 63, 64, 65])), .inl (0, 12), .inl (0, 3), .inl (0, 3), .inl (0, 3), .inl (0, 3), .inl (0, 3), .inl (0, 3), .inl (0, 3), .inl (0, 3), .inl (0, 3), .inl (0, 3), .inl (0, 3), .inl (0, 3), .inr (.inr (4, [some (some 2), some (some 67), some (some 68), some (some 69), some (some 70), none, none, none, none])), .inl (0, 12), .inl (0, 12), .inl (2, 12), .inl (0, 12)]
theorem sX_0 : shX[0]? = some (.inr (.inr (8, [some (some 1), some (some 2), some (some 10), some (some 13), some (some 15), some (some 40), some (some 42), some (some 44), some (some 66), none, none]))) := rfl
theorem sX_1 : shX[1]? = some (.inr (.inr (1, [none, none, none, none]))) := rfl
theorem sX_2 : shX[2]? = some (.inr (.inr (7, [some (some 3), some (some 4), some (some 5), some (some 6), some (some 7), some (some 8), some (some 9), none]))) := rfl
theorem sX_3 : shX[3]? = some (.inl (0, 12)) := rfl
theorem sX_4 : shX[4]? = some (.inl (0, 12)) := rfl
theorem sX_5 : shX[5]? = some (.inl (0, 12)) := rfl
theorem sX_6 : shX[6]? = some (.inl (0, 12)) := rfl
theorem sX_7 : shX[7]? = some (.inl (0, 12)) := rfl
theorem sX_8 : shX[8]? = some (.inl (0, 12)) := rfl
theorem sX_9 : shX[9]? = some (.inl (0, 12)) := rfl
theorem sX_10 : shX[10]? = some (.inr (.inr (3, [some (some 11), some (some 12), none, none]))) := rfl
theorem sX_11 : shX[11]? = some (.inl (0, 12)) := rfl
theorem sX_12 : shX[12]? = some (.inl (0, 12)) := rfl
theorem sX_13 : shX[13]? = some (.inr (.inr (6, [some (some 14), none, none]))) := rfl
theorem sX_14 : shX[14]? = some (.inl (1, 16)) := rfl
theorem sX_15 : shX[15]? = some (.inr (.inl (3, [16, 19, 22, 25, 28, 31, 34, 37]))) := rfl
theorem sX_16 : shX[16]? = some (.inr (.inr (2, [some (some 17), some (some 18), none]))) := rfl
theorem sX_17 : shX[17]? = some (.inl (1, 4)) := rfl
theorem sX_18 : shX[18]? = some (.inl (0, 4)) := rfl
theorem sX_19 : shX[19]? = some (.inr (.inr (2, [some (some 20), some (some 21), none]))) := rfl
theorem sX_20 : shX[20]? = some (.inl (1, 4)) := rfl
theorem sX_21 : shX[21]? = some (.inl (0, 4)) := rfl
theorem sX_22 : shX[22]? = some (.inr (.inr (2, [some (some 23), some (some 24), none]))) := rfl
theorem sX_23 : shX[23]? = some (.inl (1, 4)) := rfl
theorem sX_24 : shX[24]? = some (.inl (0, 4)) := rfl
theorem sX_25 : shX[25]? = some (.inr (.inr (2, [some (some 26), some (some 27), none]))) := rfl
theorem sX_26 : shX[26]? = some (.inl (1, 4)) := rfl
theorem sX_27 : shX[27]? = some (.inl (0, 4)) := rfl
theorem sX_28 : shX[28]? = some (.inr (.inr (2, [some (some 29), some (some 30), none]))) := rfl
theorem sX_29 : shX[29]? = some (.inl (1, 4)) := rfl
theorem sX_30 : shX[30]? = some (.inl (0, 4)) := rfl
theorem sX_31 : shX[31]? = some (.inr (.inr (2, [some (some 32), some (some 33), none]))) := rfl
theorem sX_32 : shX[32]? = some (.inl (1, 4)) := rfl
theorem sX_33 : shX[33]? = some (.inl (0, 4)) := rfl
theorem sX_34 : shX[34]? = some (.inr (.inr (2, [some (some 35), some (some 36), none]))) := rfl
theorem sX_35 : shX[35]? = some (.inl (1, 4)) := rfl
theorem sX_36 : shX[36]? = some (.inl (0, 4)) := rfl
theorem sX_37 : shX[37]? = some (.inr (.inr (2, [some (some 38), some (some 39), none]))) := rfl
theorem sX_38 : shX[38]? = some (.inl (1, 4)) := rfl
theorem sX_39 : shX[39]? = some (.inl (0, 4)) := rfl
theorem sX_40 : shX[40]? = some (.inr (.inr (5, [some (some 41), none]))) := rfl
theorem sX_41 : shX[41]? = some (.inl (0, 12)) := rfl
theorem sX_42 : shX[42]? = some (.inr (.inr (5, [some (some 43), none]))) := rfl
theorem sX_43 : shX[43]? = some (.inl (0, 12)) := rfl
theorem sX_44 : shX[44]? = some (.inr (.inr (0, [some (some 2), some (some 45), some (some 46), some (some 47), some (some 48), some (some 49), some (some 50), some (some 51), some (some 52), some (some 53), none, none, none, none, none, none]))) := rfl
theorem sX_45 : shX[45]? = some (.inl (0, 12)) := rfl
theorem sX_46 : shX[46]? = some (.inl (0, 12)) := rfl
theorem sX_47 : shX[47]? = some (.inl (0, 12)) := rfl
theorem sX_48 : shX[48]? = some (.inl (0, 12)) := rfl
theorem sX_49 : shX[49]? = some (.inl (0, 12)) := rfl
theorem sX_50 : shX[50]? = some (.inl (0, 12)) := rfl
theorem sX_51 : shX[51]? = some (.inl (0, 12)) := rfl
theorem sX_52 : shX[52]? = some (.inr (.inl (4, [54, 55, 56, 57, 58, 59, 60, 61, 62, 63, 64, 65]))) := rfl
theorem sX_53 : shX[53]? = some (.inl (0, 12)) := rfl
theorem sX_54 : shX[54]? = some (.inl (0, 3)) := rfl
theorem sX_55 : shX[55]? = some (.inl (0, 3)) := rfl
theorem sX_56 : shX[56]? = some (.inl (0, 3)) := rfl
theorem sX_57 : shX[57]? = some (.inl (0, 3)) := rfl
theorem sX_58 : shX[58]? = some (.inl (0, 3)) := rfl
theorem sX_59 : shX[59]? = some (.inl (0, 3)) := rfl
theorem sX_60 : shX[60]? = some (.inl (0, 3)) := rfl
theorem sX_61 : shX[61]? = some (.inl (0, 3)) := rfl
theorem sX_62 : shX[62]? = some (.inl (0, 3)) := rfl
theorem sX_63 : shX[63]? = some (.inl (0, 3)) := rfl
theorem sX_64 : shX[64]? = some (.inl (0, 3)) := rfl
theorem sX_65 : shX[65]? = some (.inl (0, 3)) := rfl
theorem sX_66 : shX[66]? = some (.inr (.inr (4, [some (some 2), some (some 67), some (some 68), some (some 69), some (some 70), none, none, none, none]))) := rfl
theorem sX_67 : shX[67]? = some (.inl (0, 12)) := rfl
theorem sX_68 : shX[68]? = some (.inl (0, 12)) := rfl
theorem sX_69 : shX[69]? = some (.inl (2, 12)) := rfl
theorem sX_70 : shX[70]? = some (.inl (0, 12)) := rfl
def shM : List ax_Sh := [.inr (.inr (9, [none, none, none, none, none, some (some 1), some (some 2), none, none, some (some 3), none, none, some (some 4), none, some (some 5), some (some 6), some (some 7), none, some (some 8), some (some 9), some (some 10), some (some 11), some (some 12), some (some 13), none, none, none, none, some (some 14), some (some 15), none, some (some 16), some (some 17), none, none, some (some 18), some none])), .inl (0, 84), .inl (0, 16), .inl (0, 72), .inl (0, 8), .inl (0, 12), .inl (0, 12), .inl (0, 12), .inl (0, 12), .inl (0, 12), .inl (0, 12), .inl (0, 12), .inl (0, 12), .inl (0, 36), .inl (0, 6), .inl (0, 12), .inl (0, 12), .inl (0, 12), .inl (0, 24)]
theorem sM_0 : shM[0]? = some (.inr (.inr (9, [none, none, none, none, none, some (some 1), some (some 2), none, none, some (some 3), none, none, some (some 4), none, some (some 5), some (some 6), some (some 7), none, some (some 8), some (some 9), some (some 10), some (some 11), some (some 12), some (some 13), none, none, none, none, some (some 14), some (some 15), none, some (some 16), some (some 17), none, none, some (some 18), some none]))) := rfl
theorem sM_1 : shM[1]? = some (.inl (0, 84)) := rfl
theorem sM_2 : shM[2]? = some (.inl (0, 16)) := rfl
theorem sM_3 : shM[3]? = some (.inl (0, 72)) := rfl
theorem sM_4 : shM[4]? = some (.inl (0, 8)) := rfl
theorem sM_5 : shM[5]? = some (.inl (0, 12)) := rfl
theorem sM_6 : shM[6]? = some (.inl (0, 12)) := rfl
theorem sM_7 : shM[7]? = some (.inl (0, 12)) := rfl
theorem sM_8 : shM[8]? = some (.inl (0, 12)) := rfl
theorem sM_9 : shM[9]? = some (.inl (0, 12)) := rfl
theorem sM_10 : shM[10]? = some (.inl (0, 12)) := rfl
theorem sM_11 : shM[11]? = some (.inl (0, 12)) := rfl
theorem sM_12 : shM[12]? = some (.inl (0, 12)) := rfl
theorem sM_13 : shM[13]? = some (.inl (0, 36)) := rfl
theorem sM_14 : shM[14]? = some (.inl (0, 6)) := rfl
theorem sM_15 : shM[15]? = some (.inl (0, 12)) := rfl
theorem sM_16 : shM[16]? = some (.inl (0, 12)) := rfl
theorem sM_17 : shM[17]? = some (.inl (0, 12)) := rfl
theorem sM_18 : shM[18]? = some (.inl (0, 24)) := rfl
theorem ax_tn {i : Int} {n : Nat} (h : 0 ≤ i ∧ i < (n : Int)) : i.toNat < n := by omega
theorem sX_call0 {c : Nat} (h : c < 8) : shX[16 + 3 * c]? = some (.inr (.inr (2, [some (some (17 + 3 * c)), some (some (18 + 3 * c)), none]))) := by rcases (show c = 0 ∨ c = 1 ∨ c = 2 ∨ c = 3 ∨ c = 4 ∨ c = 5 ∨ c = 6 ∨ c = 7 by omega) with rfl | rfl | rfl | rfl | rfl | rfl | rfl | rfl <;> rfl
theorem sX_call1 {c : Nat} (h : c < 8) : shX[17 + 3 * c]? = some (.inl (1, 4)) := by rcases (show c = 0 ∨ c = 1 ∨ c = 2 ∨ c = 3 ∨ c = 4 ∨ c = 5 ∨ c = 6 ∨ c = 7 by omega) with rfl | rfl | rfl | rfl | rfl | rfl | rfl | rfl <;> rfl
theorem sX_call2 {c : Nat} (h : c < 8) : shX[18 + 3 * c]? = some (.inl (0, 4)) := by rcases (show c = 0 ∨ c = 1 ∨ c = 2 ∨ c = 3 ∨ c = 4 ∨ c = 5 ∨ c = 6 ∨ c = 7 by omega) with rfl | rfl | rfl | rfl | rfl | rfl | rfl | rfl <;> rfl
theorem sX_bin {c : Nat} (h : c < 12) : shX[54 + c]? = some (.inl (0, 3)) := by rcases (show c = 0 ∨ c = 1 ∨ c = 2 ∨ c = 3 ∨ c = 4 ∨ c = 5 ∨ c = 6 ∨ c = 7 ∨ c = 8 ∨ c = 9 ∨ c = 10 ∨ c = 11 by omega) with rfl | rfl | rfl | rfl | rfl | rfl | rfl | rfl | rfl | rfl | rfl | rfl <;> rfl
theorem sX_calls {c : Nat} (h : c < 8) : ([16, 19, 22, 25, 28, 31, 34, 37] : List Nat)[c]? = some (16 + 3 * c) := (by decide : ∀ c, c < 8 → ([16, 19, 22, 25, 28, 31, 34, 37] : List Nat)[c]? = some (16 + 3 * c)) c h
theorem sX_bins {c : Nat} (h : c < 12) : ([54, 55, 56, 57, 58, 59, 60, 61, 62, 63, 64, 65] : List Nat)[c]? = some (54 + c) := (by decide : ∀ c, c < 12 → ([54, 55, 56, 57, 58, 59, 60, 61, 62, 63, 64, 65] : List Nat)[c]? = some (54 + c)) c h
theorem ax_top {sh : List ax_Sh} {y : MethodName} {cc : ByteArray} {mL : Nat} {ret : Option FieldType} {dp : Nat} {P : Int → ax_Mem → Prop} {pc : Nat} {ls : List (Nat × ax_V)} {st : List ax_V} {M : ax_Mem} {x x' : Int} (h : x = x') (k : ax_J sh y cc mL ret dp P pc ls (.inl x' :: st) M) : ax_J sh y cc mL ret dp P pc ls (.inl x :: st) M := h ▸ k
theorem ax_topl {sh : List ax_Sh} {y : MethodName} {cc : ByteArray} {mL : Nat} {ret : Option FieldType} {dp : Nat} {P : Int → ax_Mem → Prop} {pc : Nat} {ls : List (Nat × ax_V)} {st : List ax_V} {M : ax_Mem} {x x' : Int} (h : x = x') (k : ax_J sh y cc mL ret dp P pc ls (.inr (.inl x') :: st) M) : ax_J sh y cc mL ret dp P pc ls (.inr (.inl x) :: st) M := h ▸ k
abbrev yB_openWhole : MethodName := ⟨"RowsIntoPlane$Boarding", "openWhole", "(LRowsIntoPlane$Cabin;I)V"⟩
abbrev bB_openWhole : ByteArray := prog_2_method_2_code
abbrev jB_openWhole (P : Int → ax_Mem → Prop) (pc : Nat) (ls : List (Nat × ax_V)) (st : List ax_V) (M : ax_Mem) : Prop := ax_J shX yB_openWhole bB_openWhole 4 none 2 P pc ls st M
abbrev kB_openWhole (as : List ax_V) (M : ax_Mem) (P : Int → ax_Mem → Prop) : Prop := ax_C shX yB_openWhole bB_openWhole 4 none 2 as M P
abbrev yB_openFront : MethodName := ⟨"RowsIntoPlane$Boarding", "openFront", "(LRowsIntoPlane$Cabin;I)V"⟩
abbrev bB_openFront : ByteArray := prog_2_method_3_code
abbrev jB_openFront (P : Int → ax_Mem → Prop) (pc : Nat) (ls : List (Nat × ax_V)) (st : List ax_V) (M : ax_Mem) : Prop := ax_J shX yB_openFront bB_openFront 3 none 3 P pc ls st M
abbrev kB_openFront (as : List ax_V) (M : ax_Mem) (P : Int → ax_Mem → Prop) : Prop := ax_C shX yB_openFront bB_openFront 3 none 3 as M P
abbrev yB_openBack : MethodName := ⟨"RowsIntoPlane$Boarding", "openBack", "(LRowsIntoPlane$Cabin;I)V"⟩
abbrev bB_openBack : ByteArray := prog_2_method_4_code
abbrev jB_openBack (P : Int → ax_Mem → Prop) (pc : Nat) (ls : List (Nat × ax_V)) (st : List ax_V) (M : ax_Mem) : Prop := ax_J shX yB_openBack bB_openBack 4 none 2 P pc ls st M
abbrev kB_openBack (as : List ax_V) (M : ax_Mem) (P : Int → ax_Mem → Prop) : Prop := ax_C shX yB_openBack bB_openBack 4 none 2 as M P
abbrev yB_open : MethodName := ⟨"RowsIntoPlane$Boarding", "open", "(III)V"⟩
abbrev bB_open : ByteArray := prog_2_method_5_code
abbrev jB_open (P : Int → ax_Mem → Prop) (pc : Nat) (ls : List (Nat × ax_V)) (st : List ax_V) (M : ax_Mem) : Prop := ax_J shX yB_open bB_open 5 none 1 P pc ls st M
abbrev kB_open (as : List ax_V) (M : ax_Mem) (P : Int → ax_Mem → Prop) : Prop := ax_C shX yB_open bB_open 5 none 1 as M P
abbrev yB_isThrough : MethodName := ⟨"RowsIntoPlane$Boarding", "isThrough", "(LRowsIntoPlane$Line;I)Z"⟩
abbrev bB_isThrough : ByteArray := prog_2_method_6_code
abbrev jB_isThrough (P : Int → ax_Mem → Prop) (pc : Nat) (ls : List (Nat × ax_V)) (st : List ax_V) (M : ax_Mem) : Prop := ax_J shX yB_isThrough bB_isThrough 3 (some .boolean) 4 P pc ls st M
abbrev kB_isThrough (as : List ax_V) (M : ax_Mem) (P : Int → ax_Mem → Prop) : Prop := ax_C shX yB_isThrough bB_isThrough 3 (some .boolean) 4 as M P
abbrev yB_run : MethodName := ⟨"RowsIntoPlane$Boarding", "run", "(LRowsIntoPlane$Line;I)V"⟩
abbrev bB_run : ByteArray := prog_2_method_7_code
abbrev jB_run (P : Int → ax_Mem → Prop) (pc : Nat) (ls : List (Nat × ax_V)) (st : List ax_V) (M : ax_Mem) : Prop := ax_J shX yB_run bB_run 6 none 3 P pc ls st M
abbrev kB_run (as : List ax_V) (M : ax_Mem) (P : Int → ax_Mem → Prop) : Prop := ax_C shX yB_run bB_run 6 none 3 as M P
abbrev yB_begin : MethodName := ⟨"RowsIntoPlane$Boarding", "begin", "(LRowsIntoPlane$Line;)V"⟩
abbrev bB_begin : ByteArray := prog_2_method_8_code
abbrev jB_begin (P : Int → ax_Mem → Prop) (pc : Nat) (ls : List (Nat × ax_V)) (st : List ax_V) (M : ax_Mem) : Prop := ax_J shX yB_begin bB_begin 5 none 0 P pc ls st M
abbrev kB_begin (as : List ax_V) (M : ax_Mem) (P : Int → ax_Mem → Prop) : Prop := ax_C shX yB_begin bB_begin 5 none 0 as M P
abbrev yB_goOn : MethodName := ⟨"RowsIntoPlane$Boarding", "goOn", "(I)V"⟩
abbrev bB_goOn : ByteArray := prog_2_method_9_code
abbrev jB_goOn (P : Int → ax_Mem → Prop) (pc : Nat) (ls : List (Nat × ax_V)) (st : List ax_V) (M : ax_Mem) : Prop := ax_J shX yB_goOn bB_goOn 4 none 2 P pc ls st M
abbrev kB_goOn (as : List ax_V) (M : ax_Mem) (P : Int → ax_Mem → Prop) : Prop := ax_C shX yB_goOn bB_goOn 4 none 2 as M P
abbrev yB_sitIfReady : MethodName := ⟨"RowsIntoPlane$Boarding", "sitIfReady", "(III)V"⟩
abbrev bB_sitIfReady : ByteArray := prog_2_method_10_code
abbrev jB_sitIfReady (P : Int → ax_Mem → Prop) (pc : Nat) (ls : List (Nat × ax_V)) (st : List ax_V) (M : ax_Mem) : Prop := ax_J shX yB_sitIfReady bB_sitIfReady 4 none 0 P pc ls st M
abbrev kB_sitIfReady (as : List ax_V) (M : ax_Mem) (P : Int → ax_Mem → Prop) : Prop := ax_C shX yB_sitIfReady bB_sitIfReady 4 none 0 as M P
abbrev yB_timeToSit : MethodName := ⟨"RowsIntoPlane$Boarding", "timeToSit", "(I)I"⟩
abbrev bB_timeToSit : ByteArray := prog_2_method_11_code
abbrev jB_timeToSit (P : Int → ax_Mem → Prop) (pc : Nat) (ls : List (Nat × ax_V)) (st : List ax_V) (M : ax_Mem) : Prop := ax_J shX yB_timeToSit bB_timeToSit 5 (some .int) 1 P pc ls st M
abbrev kB_timeToSit (as : List ax_V) (M : ax_Mem) (P : Int → ax_Mem → Prop) : Prop := ax_C shX yB_timeToSit bB_timeToSit 5 (some .int) 1 as M P
abbrev yB_inTheWayOf : MethodName := ⟨"RowsIntoPlane$Boarding", "inTheWayOf", "(I)I"⟩
abbrev bB_inTheWayOf : ByteArray := prog_2_method_12_code
abbrev jB_inTheWayOf (P : Int → ax_Mem → Prop) (pc : Nat) (ls : List (Nat × ax_V)) (st : List ax_V) (M : ax_Mem) : Prop := ax_J shX yB_inTheWayOf bB_inTheWayOf 5 (some .int) 0 P pc ls st M
abbrev kB_inTheWayOf (as : List ax_V) (M : ax_Mem) (P : Int → ax_Mem → Prop) : Prop := ax_C shX yB_inTheWayOf bB_inTheWayOf 5 (some .int) 0 as M P
abbrev yB_nearestBin : MethodName := ⟨"RowsIntoPlane$Boarding", "nearestBin", "(I)I"⟩
abbrev bB_nearestBin : ByteArray := prog_2_method_13_code
abbrev jB_nearestBin (P : Int → ax_Mem → Prop) (pc : Nat) (ls : List (Nat × ax_V)) (st : List ax_V) (M : ax_Mem) : Prop := ax_J shX yB_nearestBin bB_nearestBin 3 (some .int) 0 P pc ls st M
abbrev kB_nearestBin (as : List ax_V) (M : ax_Mem) (P : Int → ax_Mem → Prop) : Prop := ax_C shX yB_nearestBin bB_nearestBin 3 (some .int) 0 as M P
abbrev yB_tell : MethodName := ⟨"RowsIntoPlane$Boarding", "tell", "(I)I"⟩
abbrev bB_tell : ByteArray := prog_2_method_14_code
abbrev jB_tell (P : Int → ax_Mem → Prop) (pc : Nat) (ls : List (Nat × ax_V)) (st : List ax_V) (M : ax_Mem) : Prop := ax_J shX yB_tell bB_tell 4 (some .int) 0 P pc ls st M
abbrev kB_tell (as : List ax_V) (M : ax_Mem) (P : Int → ax_Mem → Prop) : Prop := ax_C shX yB_tell bB_tell 4 (some .int) 0 as M P
abbrev yB_tellOf : MethodName := ⟨"RowsIntoPlane$Boarding", "tellOf", "(II)I"⟩
abbrev bB_tellOf : ByteArray := prog_2_method_15_code
abbrev jB_tellOf (P : Int → ax_Mem → Prop) (pc : Nat) (ls : List (Nat × ax_V)) (st : List ax_V) (M : ax_Mem) : Prop := ax_J shX yB_tellOf bB_tellOf 3 (some .int) 0 P pc ls st M
abbrev kB_tellOf (as : List ax_V) (M : ax_Mem) (P : Int → ax_Mem → Prop) : Prop := ax_C shX yB_tellOf bB_tellOf 3 (some .int) 0 as M P
abbrev yC_build : MethodName := ⟨"RowsIntoPlane$Cabin", "build", "(III)V"⟩
abbrev bC_build : ByteArray := prog_3_method_2_code
abbrev jC_build (P : Int → ax_Mem → Prop) (pc : Nat) (ls : List (Nat × ax_V)) (st : List ax_V) (M : ax_Mem) : Prop := ax_J shX yC_build bC_build 4 none 0 P pc ls st M
abbrev kC_build (as : List ax_V) (M : ax_Mem) (P : Int → ax_Mem → Prop) : Prop := ax_C shX yC_build bC_build 4 none 0 as M P
abbrev yC_isMissing : MethodName := ⟨"RowsIntoPlane$Cabin", "isMissing", "()Z"⟩
abbrev bC_isMissing : ByteArray := prog_3_method_3_code
abbrev jC_isMissing (P : Int → ax_Mem → Prop) (pc : Nat) (ls : List (Nat × ax_V)) (st : List ax_V) (M : ax_Mem) : Prop := ax_J shX yC_isMissing bC_isMissing 1 (some .boolean) 0 P pc ls st M
abbrev kC_isMissing (as : List ax_V) (M : ax_Mem) (P : Int → ax_Mem → Prop) : Prop := ax_C shX yC_isMissing bC_isMissing 1 (some .boolean) 0 as M P
abbrev yC_seats : MethodName := ⟨"RowsIntoPlane$Cabin", "seats", "()I"⟩
abbrev bC_seats : ByteArray := prog_3_method_4_code
abbrev jC_seats (P : Int → ax_Mem → Prop) (pc : Nat) (ls : List (Nat × ax_V)) (st : List ax_V) (M : ax_Mem) : Prop := ax_J shX yC_seats bC_seats 1 (some .int) 0 P pc ls st M
abbrev kC_seats (as : List ax_V) (M : ax_Mem) (P : Int → ax_Mem → Prop) : Prop := ax_C shX yC_seats bC_seats 1 (some .int) 0 as M P
abbrev yC_hasSeat : MethodName := ⟨"RowsIntoPlane$Cabin", "hasSeat", "(III)Z"⟩
abbrev bC_hasSeat : ByteArray := prog_3_method_5_code
abbrev jC_hasSeat (P : Int → ax_Mem → Prop) (pc : Nat) (ls : List (Nat × ax_V)) (st : List ax_V) (M : ax_Mem) : Prop := ax_J shX yC_hasSeat bC_hasSeat 4 (some .boolean) 1 P pc ls st M
abbrev kC_hasSeat (as : List ax_V) (M : ax_Mem) (P : Int → ax_Mem → Prop) : Prop := ax_C shX yC_hasSeat bC_hasSeat 4 (some .boolean) 1 as M P
abbrev yC_frontRows : MethodName := ⟨"RowsIntoPlane$Cabin", "frontRows", "()I"⟩
abbrev bC_frontRows : ByteArray := prog_3_method_6_code
abbrev jC_frontRows (P : Int → ax_Mem → Prop) (pc : Nat) (ls : List (Nat × ax_V)) (st : List ax_V) (M : ax_Mem) : Prop := ax_J shX yC_frontRows bC_frontRows 1 (some .int) 0 P pc ls st M
abbrev kC_frontRows (as : List ax_V) (M : ax_Mem) (P : Int → ax_Mem → Prop) : Prop := ax_C shX yC_frontRows bC_frontRows 1 (some .int) 0 as M P
abbrev yK_read : MethodName := ⟨"RowsIntoPlane$Call", "read", "(LRowsIntoPlane$Page;)V"⟩
abbrev bK_read : ByteArray := prog_4_method_2_code
abbrev jK_read (P : Int → ax_Mem → Prop) (pc : Nat) (ls : List (Nat × ax_V)) (st : List ax_V) (M : ax_Mem) : Prop := ax_J shX yK_read bK_read 4 none 0 P pc ls st M
abbrev kK_read (as : List ax_V) (M : ax_Mem) (P : Int → ax_Mem → Prop) : Prop := ax_C shX yK_read bK_read 4 none 0 as M P
abbrev yK_arrange : MethodName := ⟨"RowsIntoPlane$Call", "arrange", "(LRowsIntoPlane$Line;LRowsIntoPlane$People;LRowsIntoPlane$Cabin;I)V"⟩
abbrev bK_arrange : ByteArray := prog_4_method_3_code
abbrev jK_arrange (P : Int → ax_Mem → Prop) (pc : Nat) (ls : List (Nat × ax_V)) (st : List ax_V) (M : ax_Mem) : Prop := ax_J shX yK_arrange bK_arrange 7 none 3 P pc ls st M
abbrev kK_arrange (as : List ax_V) (M : ax_Mem) (P : Int → ax_Mem → Prop) : Prop := ax_C shX yK_arrange bK_arrange 7 none 3 as M P
abbrev yK_isAhead : MethodName := ⟨"RowsIntoPlane$Call", "isAhead", "(IILRowsIntoPlane$People;LRowsIntoPlane$Cabin;I)Z"⟩
abbrev bK_isAhead : ByteArray := prog_4_method_4_code
abbrev jK_isAhead (P : Int → ax_Mem → Prop) (pc : Nat) (ls : List (Nat × ax_V)) (st : List ax_V) (M : ax_Mem) : Prop := ax_J shX yK_isAhead bK_isAhead 11 (some .boolean) 2 P pc ls st M
abbrev kK_isAhead (as : List ax_V) (M : ax_Mem) (P : Int → ax_Mem → Prop) : Prop := ax_C shX yK_isAhead bK_isAhead 11 (some .boolean) 2 as M P
abbrev yK_rankOf : MethodName := ⟨"RowsIntoPlane$Call", "rankOf", "(I)I"⟩
abbrev bK_rankOf : ByteArray := prog_4_method_5_code
abbrev jK_rankOf (P : Int → ax_Mem → Prop) (pc : Nat) (ls : List (Nat × ax_V)) (st : List ax_V) (M : ax_Mem) : Prop := ax_J shX yK_rankOf bK_rankOf 1 (some .int) 0 P pc ls st M
abbrev kK_rankOf (as : List ax_V) (M : ax_Mem) (P : Int → ax_Mem → Prop) : Prop := ax_C shX yK_rankOf bK_rankOf 1 (some .int) 0 as M P
abbrev yK_valueOf : MethodName := ⟨"RowsIntoPlane$Call", "valueOf", "(IILRowsIntoPlane$People;LRowsIntoPlane$Cabin;I)I"⟩
abbrev bK_valueOf : ByteArray := prog_4_method_6_code
abbrev jK_valueOf (P : Int → ax_Mem → Prop) (pc : Nat) (ls : List (Nat × ax_V)) (st : List ax_V) (M : ax_Mem) : Prop := ax_J shX yK_valueOf bK_valueOf 7 (some .int) 1 P pc ls st M
abbrev kK_valueOf (as : List ax_V) (M : ax_Mem) (P : Int → ax_Mem → Prop) : Prop := ax_C shX yK_valueOf bK_valueOf 7 (some .int) 1 as M P
abbrev yI_keep : MethodName := ⟨"RowsIntoPlane$Image", "keep", "(LRowsIntoPlane$People;)V"⟩
abbrev bI_keep : ByteArray := prog_5_method_2_code
abbrev jI_keep (P : Int → ax_Mem → Prop) (pc : Nat) (ls : List (Nat × ax_V)) (st : List ax_V) (M : ax_Mem) : Prop := ax_J shX yI_keep bI_keep 2 none 1 P pc ls st M
abbrev kI_keep (as : List ax_V) (M : ax_Mem) (P : Int → ax_Mem → Prop) : Prop := ax_C shX yI_keep bI_keep 2 none 1 as M P
abbrev yI_giveBack : MethodName := ⟨"RowsIntoPlane$Image", "giveBack", "(LRowsIntoPlane$People;)V"⟩
abbrev bI_giveBack : ByteArray := prog_5_method_3_code
abbrev jI_giveBack (P : Int → ax_Mem → Prop) (pc : Nat) (ls : List (Nat × ax_V)) (st : List ax_V) (M : ax_Mem) : Prop := ax_J shX yI_giveBack bI_giveBack 2 none 1 P pc ls st M
abbrev kI_giveBack (as : List ax_V) (M : ax_Mem) (P : Int → ax_Mem → Prop) : Prop := ax_C shX yI_giveBack bI_giveBack 2 none 1 as M P
abbrev yL_run : MethodName := ⟨"RowsIntoPlane$Leaving", "run", "(II)V"⟩
abbrev bL_run : ByteArray := prog_6_method_2_code
abbrev jL_run (P : Int → ax_Mem → Prop) (pc : Nat) (ls : List (Nat × ax_V)) (st : List ax_V) (M : ax_Mem) : Prop := ax_J shX yL_run bL_run 4 none 3 P pc ls st M
abbrev kL_run (as : List ax_V) (M : ax_Mem) (P : Int → ax_Mem → Prop) : Prop := ax_C shX yL_run bL_run 4 none 3 as M P
abbrev yL_goOn : MethodName := ⟨"RowsIntoPlane$Leaving", "goOn", "(I)V"⟩
abbrev bL_goOn : ByteArray := prog_6_method_3_code
abbrev jL_goOn (P : Int → ax_Mem → Prop) (pc : Nat) (ls : List (Nat × ax_V)) (st : List ax_V) (M : ax_Mem) : Prop := ax_J shX yL_goOn bL_goOn 4 none 0 P pc ls st M
abbrev kL_goOn (as : List ax_V) (M : ax_Mem) (P : Int → ax_Mem → Prop) : Prop := ax_C shX yL_goOn bL_goOn 4 none 0 as M P
abbrev yL_getUp : MethodName := ⟨"RowsIntoPlane$Leaving", "getUp", "()V"⟩
abbrev bL_getUp : ByteArray := prog_6_method_4_code
abbrev jL_getUp (P : Int → ax_Mem → Prop) (pc : Nat) (ls : List (Nat × ax_V)) (st : List ax_V) (M : ax_Mem) : Prop := ax_J shX yL_getUp bL_getUp 4 none 2 P pc ls st M
abbrev kL_getUp (as : List ax_V) (M : ax_Mem) (P : Int → ax_Mem → Prop) : Prop := ax_C shX yL_getUp bL_getUp 4 none 2 as M P
abbrev yL_leastTurn : MethodName := ⟨"RowsIntoPlane$Leaving", "leastTurn", "()I"⟩
abbrev bL_leastTurn : ByteArray := prog_6_method_5_code
abbrev jL_leastTurn (P : Int → ax_Mem → Prop) (pc : Nat) (ls : List (Nat × ax_V)) (st : List ax_V) (M : ax_Mem) : Prop := ax_J shX yL_leastTurn bL_leastTurn 3 (some .int) 1 P pc ls st M
abbrev kL_leastTurn (as : List ax_V) (M : ax_Mem) (P : Int → ax_Mem → Prop) : Prop := ax_C shX yL_leastTurn bL_leastTurn 3 (some .int) 1 as M P
abbrev yL_turnOf : MethodName := ⟨"RowsIntoPlane$Leaving", "turnOf", "(I)I"⟩
abbrev bL_turnOf : ByteArray := prog_6_method_6_code
abbrev jL_turnOf (P : Int → ax_Mem → Prop) (pc : Nat) (ls : List (Nat × ax_V)) (st : List ax_V) (M : ax_Mem) : Prop := ax_J shX yL_turnOf bL_turnOf 2 (some .int) 0 P pc ls st M
abbrev kL_turnOf (as : List ax_V) (M : ax_Mem) (P : Int → ax_Mem → Prop) : Prop := ax_C shX yL_turnOf bL_turnOf 2 (some .int) 0 as M P
abbrev yL_nextOf : MethodName := ⟨"RowsIntoPlane$Leaving", "nextOf", "(II)I"⟩
abbrev bL_nextOf : ByteArray := prog_6_method_7_code
abbrev jL_nextOf (P : Int → ax_Mem → Prop) (pc : Nat) (ls : List (Nat × ax_V)) (st : List ax_V) (M : ax_Mem) : Prop := ax_J shX yL_nextOf bL_nextOf 5 (some .int) 1 P pc ls st M
abbrev kL_nextOf (as : List ax_V) (M : ax_Mem) (P : Int → ax_Mem → Prop) : Prop := ax_C shX yL_nextOf bL_nextOf 5 (some .int) 1 as M P
abbrev yL_isNearer : MethodName := ⟨"RowsIntoPlane$Leaving", "isNearer", "(II)Z"⟩
abbrev bL_isNearer : ByteArray := prog_6_method_8_code
abbrev jL_isNearer (P : Int → ax_Mem → Prop) (pc : Nat) (ls : List (Nat × ax_V)) (st : List ax_V) (M : ax_Mem) : Prop := ax_J shX yL_isNearer bL_isNearer 3 (some .boolean) 0 P pc ls st M
abbrev kL_isNearer (as : List ax_V) (M : ax_Mem) (P : Int → ax_Mem → Prop) : Prop := ax_C shX yL_isNearer bL_isNearer 3 (some .boolean) 0 as M P
abbrev yN_byNumber : MethodName := ⟨"RowsIntoPlane$Line", "byNumber", "(I)V"⟩
abbrev bN_byNumber : ByteArray := prog_7_method_2_code
abbrev jN_byNumber (P : Int → ax_Mem → Prop) (pc : Nat) (ls : List (Nat × ax_V)) (st : List ax_V) (M : ax_Mem) : Prop := ax_J shX yN_byNumber bN_byNumber 3 none 1 P pc ls st M
abbrev kN_byNumber (as : List ax_V) (M : ax_Mem) (P : Int → ax_Mem → Prop) : Prop := ax_C shX yN_byNumber bN_byNumber 3 none 1 as M P
abbrev yN_copy : MethodName := ⟨"RowsIntoPlane$Line", "copy", "(LRowsIntoPlane$Line;)V"⟩
abbrev bN_copy : ByteArray := prog_7_method_3_code
abbrev jN_copy (P : Int → ax_Mem → Prop) (pc : Nat) (ls : List (Nat × ax_V)) (st : List ax_V) (M : ax_Mem) : Prop := ax_J shX yN_copy bN_copy 2 none 1 P pc ls st M
abbrev kN_copy (as : List ax_V) (M : ax_Mem) (P : Int → ax_Mem → Prop) : Prop := ax_C shX yN_copy bN_copy 2 none 1 as M P
abbrev yN_placeOf : MethodName := ⟨"RowsIntoPlane$Line", "placeOf", "(I)I"⟩
abbrev bN_placeOf : ByteArray := prog_7_method_4_code
abbrev jN_placeOf (P : Int → ax_Mem → Prop) (pc : Nat) (ls : List (Nat × ax_V)) (st : List ax_V) (M : ax_Mem) : Prop := ax_J shX yN_placeOf bN_placeOf 3 (some .int) 0 P pc ls st M
abbrev kN_placeOf (as : List ax_V) (M : ax_Mem) (P : Int → ax_Mem → Prop) : Prop := ax_C shX yN_placeOf bN_placeOf 3 (some .int) 0 as M P
abbrev yN_takeOut : MethodName := ⟨"RowsIntoPlane$Line", "takeOut", "(I)V"⟩
abbrev bN_takeOut : ByteArray := prog_7_method_5_code
abbrev jN_takeOut (P : Int → ax_Mem → Prop) (pc : Nat) (ls : List (Nat × ax_V)) (st : List ax_V) (M : ax_Mem) : Prop := ax_J shX yN_takeOut bN_takeOut 4 none 1 P pc ls st M
abbrev kN_takeOut (as : List ax_V) (M : ax_Mem) (P : Int → ax_Mem → Prop) : Prop := ax_C shX yN_takeOut bN_takeOut 4 none 1 as M P
abbrev yN_putIn : MethodName := ⟨"RowsIntoPlane$Line", "putIn", "(II)V"⟩
abbrev bN_putIn : ByteArray := prog_7_method_6_code
abbrev jN_putIn (P : Int → ax_Mem → Prop) (pc : Nat) (ls : List (Nat × ax_V)) (st : List ax_V) (M : ax_Mem) : Prop := ax_J shX yN_putIn bN_putIn 4 none 0 P pc ls st M
abbrev kN_putIn (as : List ax_V) (M : ax_Mem) (P : Int → ax_Mem → Prop) : Prop := ax_C shX yN_putIn bN_putIn 4 none 0 as M P
abbrev yN_exchange : MethodName := ⟨"RowsIntoPlane$Line", "exchange", "(II)V"⟩
abbrev bN_exchange : ByteArray := prog_7_method_7_code
abbrev jN_exchange (P : Int → ax_Mem → Prop) (pc : Nat) (ls : List (Nat × ax_V)) (st : List ax_V) (M : ax_Mem) : Prop := ax_J shX yN_exchange bN_exchange 4 none 0 P pc ls st M
abbrev kN_exchange (as : List ax_V) (M : ax_Mem) (P : Int → ax_Mem → Prop) : Prop := ax_C shX yN_exchange bN_exchange 4 none 0 as M P
abbrev yN_goToNext : MethodName := ⟨"RowsIntoPlane$Line", "goToNext", "()Z"⟩
abbrev bN_goToNext : ByteArray := prog_7_method_8_code
abbrev jN_goToNext (P : Int → ax_Mem → Prop) (pc : Nat) (ls : List (Nat × ax_V)) (st : List ax_V) (M : ax_Mem) : Prop := ax_J shX yN_goToNext bN_goToNext 5 (some .boolean) 1 P pc ls st M
abbrev kN_goToNext (as : List ax_V) (M : ax_Mem) (P : Int → ax_Mem → Prop) : Prop := ax_C shX yN_goToNext bN_goToNext 5 (some .boolean) 1 as M P
abbrev yN_mix : MethodName := ⟨"RowsIntoPlane$Line", "mix", "(I)I"⟩
abbrev bN_mix : ByteArray := prog_7_method_9_code
abbrev jN_mix (P : Int → ax_Mem → Prop) (pc : Nat) (ls : List (Nat × ax_V)) (st : List ax_V) (M : ax_Mem) : Prop := ax_J shX yN_mix bN_mix 5 (some .int) 1 P pc ls st M
abbrev kN_mix (as : List ax_V) (M : ax_Mem) (P : Int → ax_Mem → Prop) : Prop := ax_C shX yN_mix bN_mix 5 (some .int) 1 as M P
abbrev yG_lettersIn : MethodName := ⟨"RowsIntoPlane$Page", "lettersIn", "(J)I"⟩
abbrev bG_lettersIn : ByteArray := prog_8_method_2_code
abbrev jG_lettersIn (P : Int → ax_Mem → Prop) (pc : Nat) (ls : List (Nat × ax_V)) (st : List ax_V) (M : ax_Mem) : Prop := ax_J shX yG_lettersIn bG_lettersIn 6 (some .int) 1 P pc ls st M
abbrev kG_lettersIn (as : List ax_V) (M : ax_Mem) (P : Int → ax_Mem → Prop) : Prop := ax_C shX yG_lettersIn bG_lettersIn 6 (some .int) 1 as M P
abbrev yG_codeIn : MethodName := ⟨"RowsIntoPlane$Page", "codeIn", "(JI)I"⟩
abbrev bG_codeIn : ByteArray := prog_8_method_3_code
abbrev jG_codeIn (P : Int → ax_Mem → Prop) (pc : Nat) (ls : List (Nat × ax_V)) (st : List ax_V) (M : ax_Mem) : Prop := ax_J shX yG_codeIn bG_codeIn 3 (some .int) 0 P pc ls st M
abbrev kG_codeIn (as : List ax_V) (M : ax_Mem) (P : Int → ax_Mem → Prop) : Prop := ax_C shX yG_codeIn bG_codeIn 3 (some .int) 0 as M P
abbrev yG_write : MethodName := ⟨"RowsIntoPlane$Page", "write", "(JI)V"⟩
abbrev bG_write : ByteArray := prog_8_method_4_code
abbrev jG_write (P : Int → ax_Mem → Prop) (pc : Nat) (ls : List (Nat × ax_V)) (st : List ax_V) (M : ax_Mem) : Prop := ax_J shX yG_write bG_write 5 none 1 P pc ls st M
abbrev kG_write (as : List ax_V) (M : ax_Mem) (P : Int → ax_Mem → Prop) : Prop := ax_C shX yG_write bG_write 5 none 1 as M P
abbrev yG_firstFault : MethodName := ⟨"RowsIntoPlane$Page", "firstFault", "()I"⟩
abbrev bG_firstFault : ByteArray := prog_8_method_5_code
abbrev jG_firstFault (P : Int → ax_Mem → Prop) (pc : Nat) (ls : List (Nat × ax_V)) (st : List ax_V) (M : ax_Mem) : Prop := ax_J shX yG_firstFault bG_firstFault 3 (some .int) 2 P pc ls st M
abbrev kG_firstFault (as : List ax_V) (M : ax_Mem) (P : Int → ax_Mem → Prop) : Prop := ax_C shX yG_firstFault bG_firstFault 3 (some .int) 2 as M P
abbrev yG_isCall : MethodName := ⟨"RowsIntoPlane$Page", "isCall", "()Z"⟩
abbrev bG_isCall : ByteArray := prog_8_method_6_code
abbrev jG_isCall (P : Int → ax_Mem → Prop) (pc : Nat) (ls : List (Nat × ax_V)) (st : List ax_V) (M : ax_Mem) : Prop := ax_J shX yG_isCall bG_isCall 1 (some .boolean) 3 P pc ls st M
abbrev kG_isCall (as : List ax_V) (M : ax_Mem) (P : Int → ax_Mem → Prop) : Prop := ax_C shX yG_isCall bG_isCall 1 (some .boolean) 3 as M P
abbrev yG_dueBehind : MethodName := ⟨"RowsIntoPlane$Page", "dueBehind", "(CI)I"⟩
abbrev bG_dueBehind : ByteArray := prog_8_method_7_code
abbrev jG_dueBehind (P : Int → ax_Mem → Prop) (pc : Nat) (ls : List (Nat × ax_V)) (st : List ax_V) (M : ax_Mem) : Prop := ax_J shX yG_dueBehind bG_dueBehind 3 (some .int) 1 P pc ls st M
abbrev kG_dueBehind (as : List ax_V) (M : ax_Mem) (P : Int → ax_Mem → Prop) : Prop := ax_C shX yG_dueBehind bG_dueBehind 3 (some .int) 1 as M P
abbrev yG_dueBehindKey : MethodName := ⟨"RowsIntoPlane$Page", "dueBehindKey", "(C)I"⟩
abbrev bG_dueBehindKey : ByteArray := prog_8_method_8_code
abbrev jG_dueBehindKey (P : Int → ax_Mem → Prop) (pc : Nat) (ls : List (Nat × ax_V)) (st : List ax_V) (M : ax_Mem) : Prop := ax_J shX yG_dueBehindKey bG_dueBehindKey 1 (some .int) 0 P pc ls st M
abbrev kG_dueBehindKey (as : List ax_V) (M : ax_Mem) (P : Int → ax_Mem → Prop) : Prop := ax_C shX yG_dueBehindKey bG_dueBehindKey 1 (some .int) 0 as M P
abbrev yE_has : MethodName := ⟨"RowsIntoPlane$People", "has", "(I)Z"⟩
abbrev bE_has : ByteArray := prog_9_method_2_code
abbrev jE_has (P : Int → ax_Mem → Prop) (pc : Nat) (ls : List (Nat × ax_V)) (st : List ax_V) (M : ax_Mem) : Prop := ax_J shX yE_has bE_has 2 (some .boolean) 0 P pc ls st M
abbrev kE_has (as : List ax_V) (M : ax_Mem) (P : Int → ax_Mem → Prop) : Prop := ax_C shX yE_has bE_has 2 (some .boolean) 0 as M P
abbrev yE_haveSeat : MethodName := ⟨"RowsIntoPlane$People", "haveSeat", "(III)Z"⟩
abbrev bE_haveSeat : ByteArray := prog_9_method_3_code
abbrev jE_haveSeat (P : Int → ax_Mem → Prop) (pc : Nat) (ls : List (Nat × ax_V)) (st : List ax_V) (M : ax_Mem) : Prop := ax_J shX yE_haveSeat bE_haveSeat 5 (some .boolean) 0 P pc ls st M
abbrev kE_haveSeat (as : List ax_V) (M : ax_Mem) (P : Int → ax_Mem → Prop) : Prop := ax_C shX yE_haveSeat bE_haveSeat 5 (some .boolean) 0 as M P
abbrev yE_isA : MethodName := ⟨"RowsIntoPlane$People", "isA", "(II)Z"⟩
abbrev bE_isA : ByteArray := prog_9_method_4_code
abbrev jE_isA (P : Int → ax_Mem → Prop) (pc : Nat) (ls : List (Nat × ax_V)) (st : List ax_V) (M : ax_Mem) : Prop := ax_J shX yE_isA bE_isA 3 (some .boolean) 0 P pc ls st M
abbrev kE_isA (as : List ax_V) (M : ax_Mem) (P : Int → ax_Mem → Prop) : Prop := ax_C shX yE_isA bE_isA 3 (some .boolean) 0 as M P
abbrev yE_tell : MethodName := ⟨"RowsIntoPlane$People", "tell", "(II)I"⟩
abbrev bE_tell : ByteArray := prog_9_method_5_code
abbrev jE_tell (P : Int → ax_Mem → Prop) (pc : Nat) (ls : List (Nat × ax_V)) (st : List ax_V) (M : ax_Mem) : Prop := ax_J shX yE_tell bE_tell 3 (some .int) 0 P pc ls st M
abbrev kE_tell (as : List ax_V) (M : ax_Mem) (P : Int → ax_Mem → Prop) : Prop := ax_C shX yE_tell bE_tell 3 (some .int) 0 as M P
abbrev yE_thatStayFor : MethodName := ⟨"RowsIntoPlane$People", "thatStayFor", "(I)I"⟩
abbrev bE_thatStayFor : ByteArray := prog_9_method_6_code
abbrev jE_thatStayFor (P : Int → ax_Mem → Prop) (pc : Nat) (ls : List (Nat × ax_V)) (st : List ax_V) (M : ax_Mem) : Prop := ax_J shX yE_thatStayFor bE_thatStayFor 4 (some .int) 0 P pc ls st M
abbrev kE_thatStayFor (as : List ax_V) (M : ax_Mem) (P : Int → ax_Mem → Prop) : Prop := ax_C shX yE_thatStayFor bE_thatStayFor 4 (some .int) 0 as M P
abbrev yE_bagsOfAll : MethodName := ⟨"RowsIntoPlane$People", "bagsOfAll", "()I"⟩
abbrev bE_bagsOfAll : ByteArray := prog_9_method_7_code
abbrev jE_bagsOfAll (P : Int → ax_Mem → Prop) (pc : Nat) (ls : List (Nat × ax_V)) (st : List ax_V) (M : ax_Mem) : Prop := ax_J shX yE_bagsOfAll bE_bagsOfAll 3 (some .int) 0 P pc ls st M
abbrev kE_bagsOfAll (as : List ax_V) (M : ax_Mem) (P : Int → ax_Mem → Prop) : Prop := ax_C shX yE_bagsOfAll bE_bagsOfAll 3 (some .int) 0 as M P
abbrev yX_cabin : MethodName := ⟨"RowsIntoPlane", "cabin", "(III)I"⟩
abbrev bX_cabin : ByteArray := prog_1_method_2_code
abbrev jX_cabin (P : Int → ax_Mem → Prop) (pc : Nat) (ls : List (Nat × ax_V)) (st : List ax_V) (M : ax_Mem) : Prop := ax_J shX yX_cabin bX_cabin 4 (some .int) 1 P pc ls st M
abbrev kX_cabin (as : List ax_V) (M : ax_Mem) (P : Int → ax_Mem → Prop) : Prop := ax_C shX yX_cabin bX_cabin 4 (some .int) 1 as M P
abbrev yX_person : MethodName := ⟨"RowsIntoPlane", "person", "(IIIIIII)I"⟩
abbrev bX_person : ByteArray := prog_1_method_3_code
abbrev jX_person (P : Int → ax_Mem → Prop) (pc : Nat) (ls : List (Nat × ax_V)) (st : List ax_V) (M : ax_Mem) : Prop := ax_J shX yX_person bX_person 9 (some .int) 2 P pc ls st M
abbrev kX_person (as : List ax_V) (M : ax_Mem) (P : Int → ax_Mem → Prop) : Prop := ax_C shX yX_person bX_person 9 (some .int) 2 as M P
abbrev yX_as : MethodName := ⟨"RowsIntoPlane", "as", "(II)I"⟩
abbrev bX_as : ByteArray := prog_1_method_4_code
abbrev jX_as (P : Int → ax_Mem → Prop) (pc : Nat) (ls : List (Nat × ax_V)) (st : List ax_V) (M : ax_Mem) : Prop := ax_J shX yX_as bX_as 3 (some .int) 1 P pc ls st M
abbrev kX_as (as : List ax_V) (M : ax_Mem) (P : Int → ax_Mem → Prop) : Prop := ax_C shX yX_as bX_as 3 (some .int) 1 as M P
abbrev yX_about : MethodName := ⟨"RowsIntoPlane", "about", "(II)I"⟩
abbrev bX_about : ByteArray := prog_1_method_5_code
abbrev jX_about (P : Int → ax_Mem → Prop) (pc : Nat) (ls : List (Nat × ax_V)) (st : List ax_V) (M : ax_Mem) : Prop := ax_J shX yX_about bX_about 3 (some .int) 1 P pc ls st M
abbrev kX_about (as : List ax_V) (M : ax_Mem) (P : Int → ax_Mem → Prop) : Prop := ax_C shX yX_about bX_about 3 (some .int) 1 as M P
abbrev yX_change : MethodName := ⟨"RowsIntoPlane", "change", "(III)I"⟩
abbrev bX_change : ByteArray := prog_1_method_6_code
abbrev jX_change (P : Int → ax_Mem → Prop) (pc : Nat) (ls : List (Nat × ax_V)) (st : List ax_V) (M : ax_Mem) : Prop := ax_J shX yX_change bX_change 5 (some .int) 1 P pc ls st M
abbrev kX_change (as : List ax_V) (M : ax_Mem) (P : Int → ax_Mem → Prop) : Prop := ax_C shX yX_change bX_change 5 (some .int) 1 as M P
abbrev yX_letters : MethodName := ⟨"RowsIntoPlane", "letters", "(J)I"⟩
abbrev bX_letters : ByteArray := prog_1_method_7_code
abbrev jX_letters (P : Int → ax_Mem → Prop) (pc : Nat) (ls : List (Nat × ax_V)) (st : List ax_V) (M : ax_Mem) : Prop := ax_J shX yX_letters bX_letters 4 (some .int) 2 P pc ls st M
abbrev kX_letters (as : List ax_V) (M : ax_Mem) (P : Int → ax_Mem → Prop) : Prop := ax_C shX yX_letters bX_letters 4 (some .int) 2 as M P
abbrev yX_blank : MethodName := ⟨"RowsIntoPlane", "blank", "()I"⟩
abbrev bX_blank : ByteArray := prog_1_method_8_code
abbrev jX_blank (P : Int → ax_Mem → Prop) (pc : Nat) (ls : List (Nat × ax_V)) (st : List ax_V) (M : ax_Mem) : Prop := ax_J shX yX_blank bX_blank 2 (some .int) 0 P pc ls st M
abbrev kX_blank (as : List ax_V) (M : ax_Mem) (P : Int → ax_Mem → Prop) : Prop := ax_C shX yX_blank bX_blank 2 (some .int) 0 as M P
abbrev yX_fault : MethodName := ⟨"RowsIntoPlane", "fault", "()I"⟩
abbrev bX_fault : ByteArray := prog_1_method_9_code
abbrev jX_fault (P : Int → ax_Mem → Prop) (pc : Nat) (ls : List (Nat × ax_V)) (st : List ax_V) (M : ax_Mem) : Prop := ax_J shX yX_fault bX_fault 1 (some .int) 3 P pc ls st M
abbrev kX_fault (as : List ax_V) (M : ax_Mem) (P : Int → ax_Mem → Prop) : Prop := ax_C shX yX_fault bX_fault 1 (some .int) 3 as M P
abbrev yX_call : MethodName := ⟨"RowsIntoPlane", "call", "()I"⟩
abbrev bX_call : ByteArray := prog_1_method_10_code
abbrev jX_call (P : Int → ax_Mem → Prop) (pc : Nat) (ls : List (Nat × ax_V)) (st : List ax_V) (M : ax_Mem) : Prop := ax_J shX yX_call bX_call 1 (some .int) 4 P pc ls st M
abbrev kX_call (as : List ax_V) (M : ax_Mem) (P : Int → ax_Mem → Prop) : Prop := ax_C shX yX_call bX_call 1 (some .int) 4 as M P
abbrev yX_order : MethodName := ⟨"RowsIntoPlane", "order", "(II)I"⟩
abbrev bX_order : ByteArray := prog_1_method_11_code
abbrev jX_order (P : Int → ax_Mem → Prop) (pc : Nat) (ls : List (Nat × ax_V)) (st : List ax_V) (M : ax_Mem) : Prop := ax_J shX yX_order bX_order 4 (some .int) 5 P pc ls st M
abbrev kX_order (as : List ax_V) (M : ax_Mem) (P : Int → ax_Mem → Prop) : Prop := ax_C shX yX_order bX_order 4 (some .int) 5 as M P
abbrev yX_board : MethodName := ⟨"RowsIntoPlane", "board", "(II)I"⟩
abbrev bX_board : ByteArray := prog_1_method_12_code
abbrev jX_board (P : Int → ax_Mem → Prop) (pc : Nat) (ls : List (Nat × ax_V)) (st : List ax_V) (M : ax_Mem) : Prop := ax_J shX yX_board bX_board 4 (some .int) 6 P pc ls st M
abbrev kX_board (as : List ax_V) (M : ax_Mem) (P : Int → ax_Mem → Prop) : Prop := ax_C shX yX_board bX_board 4 (some .int) 6 as M P
abbrev yX_sits : MethodName := ⟨"RowsIntoPlane", "sits", "(III)I"⟩
abbrev bX_sits : ByteArray := prog_1_method_13_code
abbrev jX_sits (P : Int → ax_Mem → Prop) (pc : Nat) (ls : List (Nat × ax_V)) (st : List ax_V) (M : ax_Mem) : Prop := ax_J shX yX_sits bX_sits 4 (some .int) 6 P pc ls st M
abbrev kX_sits (as : List ax_V) (M : ax_Mem) (P : Int → ax_Mem → Prop) : Prop := ax_C shX yX_sits bX_sits 4 (some .int) 6 as M P
abbrev yX_stands : MethodName := ⟨"RowsIntoPlane", "stands", "(III)I"⟩
abbrev bX_stands : ByteArray := prog_1_method_14_code
abbrev jX_stands (P : Int → ax_Mem → Prop) (pc : Nat) (ls : List (Nat × ax_V)) (st : List ax_V) (M : ax_Mem) : Prop := ax_J shX yX_stands bX_stands 5 (some .int) 6 P pc ls st M
abbrev kX_stands (as : List ax_V) (M : ax_Mem) (P : Int → ax_Mem → Prop) : Prop := ax_C shX yX_stands bX_stands 5 (some .int) 6 as M P
abbrev yX_least : MethodName := ⟨"RowsIntoPlane", "least", "()I"⟩
abbrev bX_least : ByteArray := prog_1_method_15_code
abbrev jX_least (P : Int → ax_Mem → Prop) (pc : Nat) (ls : List (Nat × ax_V)) (st : List ax_V) (M : ax_Mem) : Prop := ax_J shX yX_least bX_least 4 (some .int) 6 P pc ls st M
abbrev kX_least (as : List ax_V) (M : ax_Mem) (P : Int → ax_Mem → Prop) : Prop := ax_C shX yX_least bX_least 4 (some .int) 6 as M P
abbrev yX_bestOrder : MethodName := ⟨"RowsIntoPlane", "bestOrder", "(I)I"⟩
abbrev bX_bestOrder : ByteArray := prog_1_method_16_code
abbrev jX_bestOrder (P : Int → ax_Mem → Prop) (pc : Nat) (ls : List (Nat × ax_V)) (st : List ax_V) (M : ax_Mem) : Prop := ax_J shX yX_bestOrder bX_bestOrder 3 (some .int) 6 P pc ls st M
abbrev kX_bestOrder (as : List ax_V) (M : ax_Mem) (P : Int → ax_Mem → Prop) : Prop := ax_C shX yX_bestOrder bX_bestOrder 3 (some .int) 6 as M P
abbrev yX_swap : MethodName := ⟨"RowsIntoPlane", "swap", "(I)I"⟩
abbrev bX_swap : ByteArray := prog_1_method_17_code
abbrev jX_swap (P : Int → ax_Mem → Prop) (pc : Nat) (ls : List (Nat × ax_V)) (st : List ax_V) (M : ax_Mem) : Prop := ax_J shX yX_swap bX_swap 7 (some .int) 6 P pc ls st M
abbrev kX_swap (as : List ax_V) (M : ax_Mem) (P : Int → ax_Mem → Prop) : Prop := ax_C shX yX_swap bX_swap 7 (some .int) 6 as M P
abbrev yX_later : MethodName := ⟨"RowsIntoPlane", "later", "(II)I"⟩
abbrev bX_later : ByteArray := prog_1_method_18_code
abbrev jX_later (P : Int → ax_Mem → Prop) (pc : Nat) (ls : List (Nat × ax_V)) (st : List ax_V) (M : ax_Mem) : Prop := ax_J shX yX_later bX_later 3 (some .int) 5 P pc ls st M
abbrev kX_later (as : List ax_V) (M : ax_Mem) (P : Int → ax_Mem → Prop) : Prop := ax_C shX yX_later bX_later 3 (some .int) 5 as M P
abbrev yX_bound : MethodName := ⟨"RowsIntoPlane", "bound", "(II)I"⟩
abbrev bX_bound : ByteArray := prog_1_method_19_code
abbrev jX_bound (P : Int → ax_Mem → Prop) (pc : Nat) (ls : List (Nat × ax_V)) (st : List ax_V) (M : ax_Mem) : Prop := ax_J shX yX_bound bX_bound 4 (some .int) 6 P pc ls st M
abbrev kX_bound (as : List ax_V) (M : ax_Mem) (P : Int → ax_Mem → Prop) : Prop := ax_C shX yX_bound bX_bound 4 (some .int) 6 as M P
abbrev yX_doors : MethodName := ⟨"RowsIntoPlane", "doors", "(I)I"⟩
abbrev bX_doors : ByteArray := prog_1_method_20_code
abbrev jX_doors (P : Int → ax_Mem → Prop) (pc : Nat) (ls : List (Nat × ax_V)) (st : List ax_V) (M : ax_Mem) : Prop := ax_J shX yX_doors bX_doors 3 (some .int) 6 P pc ls st M
abbrev kX_doors (as : List ax_V) (M : ax_Mem) (P : Int → ax_Mem → Prop) : Prop := ax_C shX yX_doors bX_doors 3 (some .int) 6 as M P
abbrev yX_mixed : MethodName := ⟨"RowsIntoPlane", "mixed", "(III)I"⟩
abbrev bX_mixed : ByteArray := prog_1_method_21_code
abbrev jX_mixed (P : Int → ax_Mem → Prop) (pc : Nat) (ls : List (Nat × ax_V)) (st : List ax_V) (M : ax_Mem) : Prop := ax_J shX yX_mixed bX_mixed 8 (some .int) 4 P pc ls st M
abbrev kX_mixed (as : List ax_V) (M : ax_Mem) (P : Int → ax_Mem → Prop) : Prop := ax_C shX yX_mixed bX_mixed 8 (some .int) 4 as M P
abbrev yX_out : MethodName := ⟨"RowsIntoPlane", "out", "(I)I"⟩
abbrev bX_out : ByteArray := prog_1_method_22_code
abbrev jX_out (P : Int → ax_Mem → Prop) (pc : Nat) (ls : List (Nat × ax_V)) (st : List ax_V) (M : ax_Mem) : Prop := ax_J shX yX_out bX_out 2 (some .int) 4 P pc ls st M
abbrev kX_out (as : List ax_V) (M : ax_Mem) (P : Int → ax_Mem → Prop) : Prop := ax_C shX yX_out bX_out 2 (some .int) 4 as M P
abbrev yX_outOf : MethodName := ⟨"RowsIntoPlane", "outOf", "(II)I"⟩
abbrev bX_outOf : ByteArray := prog_1_method_23_code
abbrev jX_outOf (P : Int → ax_Mem → Prop) (pc : Nat) (ls : List (Nat × ax_V)) (st : List ax_V) (M : ax_Mem) : Prop := ax_J shX yX_outOf bX_outOf 3 (some .int) 4 P pc ls st M
abbrev kX_outOf (as : List ax_V) (M : ax_Mem) (P : Int → ax_Mem → Prop) : Prop := ax_C shX yX_outOf bX_outOf 3 (some .int) 4 as M P
abbrev yX_missed : MethodName := ⟨"RowsIntoPlane", "missed", "(I)I"⟩
abbrev bX_missed : ByteArray := prog_1_method_24_code
abbrev jX_missed (P : Int → ax_Mem → Prop) (pc : Nat) (ls : List (Nat × ax_V)) (st : List ax_V) (M : ax_Mem) : Prop := ax_J shX yX_missed bX_missed 4 (some .int) 4 P pc ls st M
abbrev kX_missed (as : List ax_V) (M : ax_Mem) (P : Int → ax_Mem → Prop) : Prop := ax_C shX yX_missed bX_missed 4 (some .int) 4 as M P
abbrev yX_stay : MethodName := ⟨"RowsIntoPlane", "stay", "(III)I"⟩
abbrev bX_stay : ByteArray := prog_1_method_25_code
abbrev jX_stay (P : Int → ax_Mem → Prop) (pc : Nat) (ls : List (Nat × ax_V)) (st : List ax_V) (M : ax_Mem) : Prop := ax_J shX yX_stay bX_stay 5 (some .int) 1 P pc ls st M
abbrev kX_stay (as : List ax_V) (M : ax_Mem) (P : Int → ax_Mem → Prop) : Prop := ax_C shX yX_stay bX_stay 5 (some .int) 1 as M P
abbrev yX_image : MethodName := ⟨"RowsIntoPlane", "image", "()I"⟩
abbrev bX_image : ByteArray := prog_1_method_26_code
abbrev jX_image (P : Int → ax_Mem → Prop) (pc : Nat) (ls : List (Nat × ax_V)) (st : List ax_V) (M : ax_Mem) : Prop := ax_J shX yX_image bX_image 1 (some .int) 2 P pc ls st M
abbrev kX_image (as : List ax_V) (M : ax_Mem) (P : Int → ax_Mem → Prop) : Prop := ax_C shX yX_image bX_image 1 (some .int) 2 as M P
abbrev yX_restore : MethodName := ⟨"RowsIntoPlane", "restore", "()I"⟩
abbrev bX_restore : ByteArray := prog_1_method_27_code
abbrev jX_restore (P : Int → ax_Mem → Prop) (pc : Nat) (ls : List (Nat × ax_V)) (st : List ax_V) (M : ax_Mem) : Prop := ax_J shX yX_restore bX_restore 1 (some .int) 2 P pc ls st M
abbrev kX_restore (as : List ax_V) (M : ax_Mem) (P : Int → ax_Mem → Prop) : Prop := ax_C shX yX_restore bX_restore 1 (some .int) 2 as M P
abbrev yX_count : MethodName := ⟨"RowsIntoPlane", "count", "(I)I"⟩
abbrev bX_count : ByteArray := prog_1_method_28_code
abbrev jX_count (P : Int → ax_Mem → Prop) (pc : Nat) (ls : List (Nat × ax_V)) (st : List ax_V) (M : ax_Mem) : Prop := ax_J shX yX_count bX_count 2 (some .int) 1 P pc ls st M
abbrev kX_count (as : List ax_V) (M : ax_Mem) (P : Int → ax_Mem → Prop) : Prop := ax_C shX yX_count bX_count 2 (some .int) 1 as M P
abbrev yX_digest : MethodName := ⟨"RowsIntoPlane", "digest", "()J"⟩
abbrev bX_digest : ByteArray := prog_1_method_29_code
abbrev jX_digest (P : Int → ax_Mem → Prop) (pc : Nat) (ls : List (Nat × ax_V)) (st : List ax_V) (M : ax_Mem) : Prop := ax_J shX yX_digest bX_digest 5 (some .long) 7 P pc ls st M
abbrev kX_digest (as : List ax_V) (M : ax_Mem) (P : Int → ax_Mem → Prop) : Prop := ax_C shX yX_digest bX_digest 5 (some .long) 7 as M P
abbrev yX_outside : MethodName := ⟨"RowsIntoPlane", "outside", "(III)Z"⟩
abbrev bX_outside : ByteArray := prog_1_method_30_code
abbrev jX_outside (P : Int → ax_Mem → Prop) (pc : Nat) (ls : List (Nat × ax_V)) (st : List ax_V) (M : ax_Mem) : Prop := ax_J shX yX_outside bX_outside 3 (some .boolean) 0 P pc ls st M
abbrev kX_outside (as : List ax_V) (M : ax_Mem) (P : Int → ax_Mem → Prop) : Prop := ax_C shX yX_outside bX_outside 3 (some .boolean) 0 as M P
abbrev yX_hasCall : MethodName := ⟨"RowsIntoPlane", "hasCall", "(I)Z"⟩
abbrev bX_hasCall : ByteArray := prog_1_method_31_code
abbrev jX_hasCall (P : Int → ax_Mem → Prop) (pc : Nat) (ls : List (Nat × ax_V)) (st : List ax_V) (M : ax_Mem) : Prop := ax_J shX yX_hasCall bX_hasCall 2 (some .boolean) 0 P pc ls st M
abbrev kX_hasCall (as : List ax_V) (M : ax_Mem) (P : Int → ax_Mem → Prop) : Prop := ax_C shX yX_hasCall bX_hasCall 2 (some .boolean) 0 as M P
abbrev yX_refusalOf : MethodName := ⟨"RowsIntoPlane", "refusalOf", "(I)I"⟩
abbrev bX_refusalOf : ByteArray := prog_1_method_32_code
abbrev jX_refusalOf (P : Int → ax_Mem → Prop) (pc : Nat) (ls : List (Nat × ax_V)) (st : List ax_V) (M : ax_Mem) : Prop := ax_J shX yX_refusalOf bX_refusalOf 2 (some .int) 1 P pc ls st M
abbrev kX_refusalOf (as : List ax_V) (M : ax_Mem) (P : Int → ax_Mem → Prop) : Prop := ax_C shX yX_refusalOf bX_refusalOf 2 (some .int) 1 as M P
abbrev yX_lineUp : MethodName := ⟨"RowsIntoPlane", "lineUp", "(II)V"⟩
abbrev bX_lineUp : ByteArray := prog_1_method_33_code
abbrev jX_lineUp (P : Int → ax_Mem → Prop) (pc : Nat) (ls : List (Nat × ax_V)) (st : List ax_V) (M : ax_Mem) : Prop := ax_J shX yX_lineUp bX_lineUp 3 none 4 P pc ls st M
abbrev kX_lineUp (as : List ax_V) (M : ax_Mem) (P : Int → ax_Mem → Prop) : Prop := ax_C shX yX_lineUp bX_lineUp 3 none 4 as M P
abbrev yX_boardBy : MethodName := ⟨"RowsIntoPlane", "boardBy", "(III)V"⟩
abbrev bX_boardBy : ByteArray := prog_1_method_34_code
abbrev jX_boardBy (P : Int → ax_Mem → Prop) (pc : Nat) (ls : List (Nat × ax_V)) (st : List ax_V) (M : ax_Mem) : Prop := ax_J shX yX_boardBy bX_boardBy 4 none 5 P pc ls st M
abbrev kX_boardBy (as : List ax_V) (M : ax_Mem) (P : Int → ax_Mem → Prop) : Prop := ax_C shX yX_boardBy bX_boardBy 4 none 5 as M P
abbrev yX_findBest : MethodName := ⟨"RowsIntoPlane", "findBest", "()I"⟩
abbrev bX_findBest : ByteArray := prog_1_method_35_code
abbrev jX_findBest (P : Int → ax_Mem → Prop) (pc : Nat) (ls : List (Nat × ax_V)) (st : List ax_V) (M : ax_Mem) : Prop := ax_J shX yX_findBest bX_findBest 3 (some .int) 5 P pc ls st M
abbrev kX_findBest (as : List ax_V) (M : ax_Mem) (P : Int → ax_Mem → Prop) : Prop := ax_C shX yX_findBest bX_findBest 3 (some .int) 5 as M P
abbrev yX_secondsByDoors : MethodName := ⟨"RowsIntoPlane", "secondsByDoors", "(I)I"⟩
abbrev bX_secondsByDoors : ByteArray := prog_1_method_36_code
abbrev jX_secondsByDoors (P : Int → ax_Mem → Prop) (pc : Nat) (ls : List (Nat × ax_V)) (st : List ax_V) (M : ax_Mem) : Prop := ax_J shX yX_secondsByDoors bX_secondsByDoors 3 (some .int) 5 P pc ls st M
abbrev kX_secondsByDoors (as : List ax_V) (M : ax_Mem) (P : Int → ax_Mem → Prop) : Prop := ax_C shX yX_secondsByDoors bX_secondsByDoors 3 (some .int) 5 as M P
abbrev yX_withCall : MethodName := ⟨"RowsIntoPlane", "withCall", "(JI)J"⟩
abbrev bX_withCall : ByteArray := prog_1_method_37_code
abbrev jX_withCall (P : Int → ax_Mem → Prop) (pc : Nat) (ls : List (Nat × ax_V)) (st : List ax_V) (M : ax_Mem) : Prop := ax_J shX yX_withCall bX_withCall 7 (some .long) 6 P pc ls st M
abbrev kX_withCall (as : List ax_V) (M : ax_Mem) (P : Int → ax_Mem → Prop) : Prop := ax_C shX yX_withCall bX_withCall 7 (some .long) 6 as M P
abbrev yM_in : MethodName := ⟨"RowsIntoPlaneModel", "in", "(JJJ)Z"⟩
abbrev bM_in : ByteArray := prog_11_method_2_code
abbrev jM_in (P : Int → ax_Mem → Prop) (pc : Nat) (ls : List (Nat × ax_V)) (st : List ax_V) (M : ax_Mem) : Prop := ax_J shM yM_in bM_in 6 (some .boolean) 0 P pc ls st M
abbrev kM_in (as : List ax_V) (M : ax_Mem) (P : Int → ax_Mem → Prop) : Prop := ax_C shM yM_in bM_in 6 (some .boolean) 0 as M P
abbrev yM_cabin : MethodName := ⟨"RowsIntoPlaneModel", "cabin", "(III)I"⟩
abbrev bM_cabin : ByteArray := prog_11_method_3_code
abbrev jM_cabin (P : Int → ax_Mem → Prop) (pc : Nat) (ls : List (Nat × ax_V)) (st : List ax_V) (M : ax_Mem) : Prop := ax_J shM yM_cabin bM_cabin 4 (some .int) 1 P pc ls st M
abbrev kM_cabin (as : List ax_V) (M : ax_Mem) (P : Int → ax_Mem → Prop) : Prop := ax_C shM yM_cabin bM_cabin 4 (some .int) 1 as M P
abbrev yM_lacks : MethodName := ⟨"RowsIntoPlaneModel", "lacks", "()Z"⟩
abbrev bM_lacks : ByteArray := prog_11_method_4_code
abbrev jM_lacks (P : Int → ax_Mem → Prop) (pc : Nat) (ls : List (Nat × ax_V)) (st : List ax_V) (M : ax_Mem) : Prop := ax_J shM yM_lacks bM_lacks 1 (some .boolean) 0 P pc ls st M
abbrev kM_lacks (as : List ax_V) (M : ax_Mem) (P : Int → ax_Mem → Prop) : Prop := ax_C shM yM_lacks bM_lacks 1 (some .boolean) 0 as M P
abbrev yM_isPerson : MethodName := ⟨"RowsIntoPlaneModel", "isPerson", "(I)Z"⟩
abbrev bM_isPerson : ByteArray := prog_11_method_5_code
abbrev jM_isPerson (P : Int → ax_Mem → Prop) (pc : Nat) (ls : List (Nat × ax_V)) (st : List ax_V) (M : ax_Mem) : Prop := ax_J shM yM_isPerson bM_isPerson 2 (some .boolean) 1 P pc ls st M
abbrev kM_isPerson (as : List ax_V) (M : ax_Mem) (P : Int → ax_Mem → Prop) : Prop := ax_C shM yM_isPerson bM_isPerson 2 (some .boolean) 1 as M P
abbrev yM_isTaken : MethodName := ⟨"RowsIntoPlaneModel", "isTaken", "(III)Z"⟩
abbrev bM_isTaken : ByteArray := prog_11_method_6_code
abbrev jM_isTaken (P : Int → ax_Mem → Prop) (pc : Nat) (ls : List (Nat × ax_V)) (st : List ax_V) (M : ax_Mem) : Prop := ax_J shM yM_isTaken bM_isTaken 6 (some .boolean) 0 P pc ls st M
abbrev kM_isTaken (as : List ax_V) (M : ax_Mem) (P : Int → ax_Mem → Prop) : Prop := ax_C shM yM_isTaken bM_isTaken 6 (some .boolean) 0 as M P
abbrev yM_person : MethodName := ⟨"RowsIntoPlaneModel", "person", "(IIIIIII)I"⟩
abbrev bM_person : ByteArray := prog_11_method_7_code
abbrev jM_person (P : Int → ax_Mem → Prop) (pc : Nat) (ls : List (Nat × ax_V)) (st : List ax_V) (M : ax_Mem) : Prop := ax_J shM yM_person bM_person 11 (some .int) 2 P pc ls st M
abbrev kM_person (as : List ax_V) (M : ax_Mem) (P : Int → ax_Mem → Prop) : Prop := ax_C shM yM_person bM_person 11 (some .int) 2 as M P
abbrev yM_as : MethodName := ⟨"RowsIntoPlaneModel", "as", "(II)I"⟩
abbrev bM_as : ByteArray := prog_11_method_8_code
abbrev jM_as (P : Int → ax_Mem → Prop) (pc : Nat) (ls : List (Nat × ax_V)) (st : List ax_V) (M : ax_Mem) : Prop := ax_J shM yM_as bM_as 5 (some .int) 2 P pc ls st M
abbrev kM_as (as : List ax_V) (M : ax_Mem) (P : Int → ax_Mem → Prop) : Prop := ax_C shM yM_as bM_as 5 (some .int) 2 as M P
abbrev yM_about : MethodName := ⟨"RowsIntoPlaneModel", "about", "(II)I"⟩
abbrev bM_about : ByteArray := prog_11_method_9_code
abbrev jM_about (P : Int → ax_Mem → Prop) (pc : Nat) (ls : List (Nat × ax_V)) (st : List ax_V) (M : ax_Mem) : Prop := ax_J shM yM_about bM_about 3 (some .int) 2 P pc ls st M
abbrev kM_about (as : List ax_V) (M : ax_Mem) (P : Int → ax_Mem → Prop) : Prop := ax_C shM yM_about bM_about 3 (some .int) 2 as M P
abbrev yM_change : MethodName := ⟨"RowsIntoPlaneModel", "change", "(III)I"⟩
abbrev bM_change : ByteArray := prog_11_method_10_code
abbrev jM_change (P : Int → ax_Mem → Prop) (pc : Nat) (ls : List (Nat × ax_V)) (st : List ax_V) (M : ax_Mem) : Prop := ax_J shM yM_change bM_change 5 (some .int) 2 P pc ls st M
abbrev kM_change (as : List ax_V) (M : ax_Mem) (P : Int → ax_Mem → Prop) : Prop := ax_C shM yM_change bM_change 5 (some .int) 2 as M P
abbrev yM_letters : MethodName := ⟨"RowsIntoPlaneModel", "letters", "(J)I"⟩
abbrev bM_letters : ByteArray := prog_11_method_11_code
abbrev jM_letters (P : Int → ax_Mem → Prop) (pc : Nat) (ls : List (Nat × ax_V)) (st : List ax_V) (M : ax_Mem) : Prop := ax_J shM yM_letters bM_letters 9 (some .int) 0 P pc ls st M
abbrev kM_letters (as : List ax_V) (M : ax_Mem) (P : Int → ax_Mem → Prop) : Prop := ax_C shM yM_letters bM_letters 9 (some .int) 0 as M P
abbrev yM_blank : MethodName := ⟨"RowsIntoPlaneModel", "blank", "()I"⟩
abbrev bM_blank : ByteArray := prog_11_method_12_code
abbrev jM_blank (P : Int → ax_Mem → Prop) (pc : Nat) (ls : List (Nat × ax_V)) (st : List ax_V) (M : ax_Mem) : Prop := ax_J shM yM_blank bM_blank 2 (some .int) 0 P pc ls st M
abbrev kM_blank (as : List ax_V) (M : ax_Mem) (P : Int → ax_Mem → Prop) : Prop := ax_C shM yM_blank bM_blank 2 (some .int) 0 as M P
abbrev yM_isKey : MethodName := ⟨"RowsIntoPlaneModel", "isKey", "(I)Z"⟩
abbrev bM_isKey : ByteArray := prog_11_method_13_code
abbrev jM_isKey (P : Int → ax_Mem → Prop) (pc : Nat) (ls : List (Nat × ax_V)) (st : List ax_V) (M : ax_Mem) : Prop := ax_J shM yM_isKey bM_isKey 1 (some .boolean) 0 P pc ls st M
abbrev kM_isKey (as : List ax_V) (M : ax_Mem) (P : Int → ax_Mem → Prop) : Prop := ax_C shM yM_isKey bM_isKey 1 (some .boolean) 0 as M P
abbrev yM_go : MethodName := ⟨"RowsIntoPlaneModel", "go", "(I)Z"⟩
abbrev bM_go : ByteArray := prog_11_method_14_code
abbrev jM_go (P : Int → ax_Mem → Prop) (pc : Nat) (ls : List (Nat × ax_V)) (st : List ax_V) (M : ax_Mem) : Prop := ax_J shM yM_go bM_go 2 (some .boolean) 1 P pc ls st M
abbrev kM_go (as : List ax_V) (M : ax_Mem) (P : Int → ax_Mem → Prop) : Prop := ax_C shM yM_go bM_go 2 (some .boolean) 1 as M P
abbrev yM_faultOf : MethodName := ⟨"RowsIntoPlaneModel", "faultOf", "()I"⟩
abbrev bM_faultOf : ByteArray := prog_11_method_15_code
abbrev jM_faultOf (P : Int → ax_Mem → Prop) (pc : Nat) (ls : List (Nat × ax_V)) (st : List ax_V) (M : ax_Mem) : Prop := ax_J shM yM_faultOf bM_faultOf 2 (some .int) 2 P pc ls st M
abbrev kM_faultOf (as : List ax_V) (M : ax_Mem) (P : Int → ax_Mem → Prop) : Prop := ax_C shM yM_faultOf bM_faultOf 2 (some .int) 2 as M P
abbrev yM_fault : MethodName := ⟨"RowsIntoPlaneModel", "fault", "()I"⟩
abbrev bM_fault : ByteArray := prog_11_method_16_code
abbrev jM_fault (P : Int → ax_Mem → Prop) (pc : Nat) (ls : List (Nat × ax_V)) (st : List ax_V) (M : ax_Mem) : Prop := ax_J shM yM_fault bM_fault 1 (some .int) 3 P pc ls st M
abbrev kM_fault (as : List ax_V) (M : ax_Mem) (P : Int → ax_Mem → Prop) : Prop := ax_C shM yM_fault bM_fault 1 (some .int) 3 as M P
abbrev yM_call : MethodName := ⟨"RowsIntoPlaneModel", "call", "()I"⟩
abbrev bM_call : ByteArray := prog_11_method_17_code
abbrev jM_call (P : Int → ax_Mem → Prop) (pc : Nat) (ls : List (Nat × ax_V)) (st : List ax_V) (M : ax_Mem) : Prop := ax_J shM yM_call bM_call 2 (some .int) 3 P pc ls st M
abbrev kM_call (as : List ax_V) (M : ax_Mem) (P : Int → ax_Mem → Prop) : Prop := ax_C shM yM_call bM_call 2 (some .int) 3 as M P
abbrev yM_isCall : MethodName := ⟨"RowsIntoPlaneModel", "isCall", "(I)Z"⟩
abbrev bM_isCall : ByteArray := prog_11_method_18_code
abbrev jM_isCall (P : Int → ax_Mem → Prop) (pc : Nat) (ls : List (Nat × ax_V)) (st : List ax_V) (M : ax_Mem) : Prop := ax_J shM yM_isCall bM_isCall 2 (some .boolean) 1 P pc ls st M
abbrev kM_isCall (as : List ax_V) (M : ax_Mem) (P : Int → ax_Mem → Prop) : Prop := ax_C shM yM_isCall bM_isCall 2 (some .boolean) 1 as M P
abbrev yM_sideOf : MethodName := ⟨"RowsIntoPlaneModel", "sideOf", "(I)I"⟩
abbrev bM_sideOf : ByteArray := prog_11_method_19_code
abbrev jM_sideOf (P : Int → ax_Mem → Prop) (pc : Nat) (ls : List (Nat × ax_V)) (st : List ax_V) (M : ax_Mem) : Prop := ax_J shM yM_sideOf bM_sideOf 2 (some .int) 0 P pc ls st M
abbrev kM_sideOf (as : List ax_V) (M : ax_Mem) (P : Int → ax_Mem → Prop) : Prop := ax_C shM yM_sideOf bM_sideOf 2 (some .int) 0 as M P
abbrev yM_depthOf : MethodName := ⟨"RowsIntoPlaneModel", "depthOf", "(I)I"⟩
abbrev bM_depthOf : ByteArray := prog_11_method_20_code
abbrev jM_depthOf (P : Int → ax_Mem → Prop) (pc : Nat) (ls : List (Nat × ax_V)) (st : List ax_V) (M : ax_Mem) : Prop := ax_J shM yM_depthOf bM_depthOf 2 (some .int) 0 P pc ls st M
abbrev kM_depthOf (as : List ax_V) (M : ax_Mem) (P : Int → ax_Mem → Prop) : Prop := ax_C shM yM_depthOf bM_depthOf 2 (some .int) 0 as M P
abbrev yM_layPeople : MethodName := ⟨"RowsIntoPlaneModel", "layPeople", "(I)V"⟩
abbrev bM_layPeople : ByteArray := prog_11_method_21_code
abbrev jM_layPeople (P : Int → ax_Mem → Prop) (pc : Nat) (ls : List (Nat × ax_V)) (st : List ax_V) (M : ax_Mem) : Prop := ax_J shM yM_layPeople bM_layPeople 3 none 0 P pc ls st M
abbrev kM_layPeople (as : List ax_V) (M : ax_Mem) (P : Int → ax_Mem → Prop) : Prop := ax_C shM yM_layPeople bM_layPeople 3 none 0 as M P
abbrev yM_valueOf : MethodName := ⟨"RowsIntoPlaneModel", "valueOf", "(III)I"⟩
abbrev bM_valueOf : ByteArray := prog_11_method_22_code
abbrev jM_valueOf (P : Int → ax_Mem → Prop) (pc : Nat) (ls : List (Nat × ax_V)) (st : List ax_V) (M : ax_Mem) : Prop := ax_J shM yM_valueOf bM_valueOf 4 (some .int) 1 P pc ls st M
abbrev kM_valueOf (as : List ax_V) (M : ax_Mem) (P : Int → ax_Mem → Prop) : Prop := ax_C shM yM_valueOf bM_valueOf 4 (some .int) 1 as M P
abbrev yM_rank : MethodName := ⟨"RowsIntoPlaneModel", "rank", "(I)I"⟩
abbrev bM_rank : ByteArray := prog_11_method_23_code
abbrev jM_rank (P : Int → ax_Mem → Prop) (pc : Nat) (ls : List (Nat × ax_V)) (st : List ax_V) (M : ax_Mem) : Prop := ax_J shM yM_rank bM_rank 1 (some .int) 0 P pc ls st M
abbrev kM_rank (as : List ax_V) (M : ax_Mem) (P : Int → ax_Mem → Prop) : Prop := ax_C shM yM_rank bM_rank 1 (some .int) 0 as M P
abbrev yM_isAhead : MethodName := ⟨"RowsIntoPlaneModel", "isAhead", "(III)Z"⟩
abbrev bM_isAhead : ByteArray := prog_11_method_24_code
abbrev jM_isAhead (P : Int → ax_Mem → Prop) (pc : Nat) (ls : List (Nat × ax_V)) (st : List ax_V) (M : ax_Mem) : Prop := ax_J shM yM_isAhead bM_isAhead 8 (some .boolean) 2 P pc ls st M
abbrev kM_isAhead (as : List ax_V) (M : ax_Mem) (P : Int → ax_Mem → Prop) : Prop := ax_C shM yM_isAhead bM_isAhead 8 (some .boolean) 2 as M P
abbrev yM_placeOf : MethodName := ⟨"RowsIntoPlaneModel", "placeOf", "(I)I"⟩
abbrev bM_placeOf : ByteArray := prog_11_method_25_code
abbrev jM_placeOf (P : Int → ax_Mem → Prop) (pc : Nat) (ls : List (Nat × ax_V)) (st : List ax_V) (M : ax_Mem) : Prop := ax_J shM yM_placeOf bM_placeOf 3 (some .int) 0 P pc ls st M
abbrev kM_placeOf (as : List ax_V) (M : ax_Mem) (P : Int → ax_Mem → Prop) : Prop := ax_C shM yM_placeOf bM_placeOf 3 (some .int) 0 as M P
abbrev yM_put : MethodName := ⟨"RowsIntoPlaneModel", "put", "(II)V"⟩
abbrev bM_put : ByteArray := prog_11_method_26_code
abbrev jM_put (P : Int → ax_Mem → Prop) (pc : Nat) (ls : List (Nat × ax_V)) (st : List ax_V) (M : ax_Mem) : Prop := ax_J shM yM_put bM_put 6 none 1 P pc ls st M
abbrev kM_put (as : List ax_V) (M : ax_Mem) (P : Int → ax_Mem → Prop) : Prop := ax_C shM yM_put bM_put 6 none 1 as M P
abbrev yM_layOrder : MethodName := ⟨"RowsIntoPlaneModel", "layOrder", "(I)V"⟩
abbrev bM_layOrder : ByteArray := prog_11_method_27_code
abbrev jM_layOrder (P : Int → ax_Mem → Prop) (pc : Nat) (ls : List (Nat × ax_V)) (st : List ax_V) (M : ax_Mem) : Prop := ax_J shM yM_layOrder bM_layOrder 4 none 3 P pc ls st M
abbrev kM_layOrder (as : List ax_V) (M : ax_Mem) (P : Int → ax_Mem → Prop) : Prop := ax_C shM yM_layOrder bM_layOrder 4 none 3 as M P
abbrev yM_everybody : MethodName := ⟨"RowsIntoPlaneModel", "everybody", "()I"⟩
abbrev bM_everybody : ByteArray := prog_11_method_28_code
abbrev jM_everybody (P : Int → ax_Mem → Prop) (pc : Nat) (ls : List (Nat × ax_V)) (st : List ax_V) (M : ax_Mem) : Prop := ax_J shM yM_everybody bM_everybody 1 (some .int) 0 P pc ls st M
abbrev kM_everybody (as : List ax_V) (M : ax_Mem) (P : Int → ax_Mem → Prop) : Prop := ax_C shM yM_everybody bM_everybody 1 (some .int) 0 as M P
abbrev yM_order : MethodName := ⟨"RowsIntoPlaneModel", "order", "(II)I"⟩
abbrev bM_order : ByteArray := prog_11_method_29_code
abbrev jM_order (P : Int → ax_Mem → Prop) (pc : Nat) (ls : List (Nat × ax_V)) (st : List ax_V) (M : ax_Mem) : Prop := ax_J shM yM_order bM_order 3 (some .int) 4 P pc ls st M
abbrev kM_order (as : List ax_V) (M : ax_Mem) (P : Int → ax_Mem → Prop) : Prop := ax_C shM yM_order bM_order 3 (some .int) 4 as M P
abbrev yM_nearestBin : MethodName := ⟨"RowsIntoPlaneModel", "nearestBin", "(I)I"⟩
abbrev bM_nearestBin : ByteArray := prog_11_method_30_code
abbrev jM_nearestBin (P : Int → ax_Mem → Prop) (pc : Nat) (ls : List (Nat × ax_V)) (st : List ax_V) (M : ax_Mem) : Prop := ax_J shM yM_nearestBin bM_nearestBin 3 (some .int) 0 P pc ls st M
abbrev kM_nearestBin (as : List ax_V) (M : ax_Mem) (P : Int → ax_Mem → Prop) : Prop := ax_C shM yM_nearestBin bM_nearestBin 3 (some .int) 0 as M P
abbrev yM_begin : MethodName := ⟨"RowsIntoPlaneModel", "begin", "(I)I"⟩
abbrev bM_begin : ByteArray := prog_11_method_31_code
abbrev jM_begin (P : Int → ax_Mem → Prop) (pc : Nat) (ls : List (Nat × ax_V)) (st : List ax_V) (M : ax_Mem) : Prop := ax_J shM yM_begin bM_begin 6 (some .int) 1 P pc ls st M
abbrev kM_begin (as : List ax_V) (M : ax_Mem) (P : Int → ax_Mem → Prop) : Prop := ax_C shM yM_begin bM_begin 6 (some .int) 1 as M P
abbrev yM_sit : MethodName := ⟨"RowsIntoPlaneModel", "sit", "(III)V"⟩
abbrev bM_sit : ByteArray := prog_11_method_32_code
abbrev jM_sit (P : Int → ax_Mem → Prop) (pc : Nat) (ls : List (Nat × ax_V)) (st : List ax_V) (M : ax_Mem) : Prop := ax_J shM yM_sit bM_sit 4 none 0 P pc ls st M
abbrev kM_sit (as : List ax_V) (M : ax_Mem) (P : Int → ax_Mem → Prop) : Prop := ax_C shM yM_sit bM_sit 4 none 0 as M P
abbrev yM_goCell : MethodName := ⟨"RowsIntoPlaneModel", "goCell", "(II)V"⟩
abbrev bM_goCell : ByteArray := prog_11_method_33_code
abbrev jM_goCell (P : Int → ax_Mem → Prop) (pc : Nat) (ls : List (Nat × ax_V)) (st : List ax_V) (M : ax_Mem) : Prop := ax_J shM yM_goCell bM_goCell 4 none 2 P pc ls st M
abbrev kM_goCell (as : List ax_V) (M : ax_Mem) (P : Int → ax_Mem → Prop) : Prop := ax_C shM yM_goCell bM_goCell 4 none 2 as M P
abbrev yM_beginBoard : MethodName := ⟨"RowsIntoPlaneModel", "beginBoard", "()V"⟩
abbrev bM_beginBoard : ByteArray := prog_11_method_34_code
abbrev jM_beginBoard (P : Int → ax_Mem → Prop) (pc : Nat) (ls : List (Nat × ax_V)) (st : List ax_V) (M : ax_Mem) : Prop := ax_J shM yM_beginBoard bM_beginBoard 2 none 0 P pc ls st M
abbrev kM_beginBoard (as : List ax_V) (M : ax_Mem) (P : Int → ax_Mem → Prop) : Prop := ax_C shM yM_beginBoard bM_beginBoard 2 none 0 as M P
abbrev yM_goSecond : MethodName := ⟨"RowsIntoPlaneModel", "goSecond", "(I)V"⟩
abbrev bM_goSecond : ByteArray := prog_11_method_35_code
abbrev jM_goSecond (P : Int → ax_Mem → Prop) (pc : Nat) (ls : List (Nat × ax_V)) (st : List ax_V) (M : ax_Mem) : Prop := ax_J shM yM_goSecond bM_goSecond 3 none 3 P pc ls st M
abbrev kM_goSecond (as : List ax_V) (M : ax_Mem) (P : Int → ax_Mem → Prop) : Prop := ax_C shM yM_goSecond bM_goSecond 3 none 3 as M P
abbrev yM_boardAll : MethodName := ⟨"RowsIntoPlaneModel", "boardAll", "()I"⟩
abbrev bM_boardAll : ByteArray := prog_11_method_36_code
abbrev jM_boardAll (P : Int → ax_Mem → Prop) (pc : Nat) (ls : List (Nat × ax_V)) (st : List ax_V) (M : ax_Mem) : Prop := ax_J shM yM_boardAll bM_boardAll 2 (some .int) 4 P pc ls st M
abbrev kM_boardAll (as : List ax_V) (M : ax_Mem) (P : Int → ax_Mem → Prop) : Prop := ax_C shM yM_boardAll bM_boardAll 2 (some .int) 4 as M P
abbrev yM_boardBy : MethodName := ⟨"RowsIntoPlaneModel", "boardBy", "(I)I"⟩
abbrev bM_boardBy : ByteArray := prog_11_method_37_code
abbrev jM_boardBy (P : Int → ax_Mem → Prop) (pc : Nat) (ls : List (Nat × ax_V)) (st : List ax_V) (M : ax_Mem) : Prop := ax_J shM yM_boardBy bM_boardBy 2 (some .int) 5 P pc ls st M
abbrev kM_boardBy (as : List ax_V) (M : ax_Mem) (P : Int → ax_Mem → Prop) : Prop := ax_C shM yM_boardBy bM_boardBy 2 (some .int) 5 as M P
abbrev yM_boardOf : MethodName := ⟨"RowsIntoPlaneModel", "boardOf", "(II)I"⟩
abbrev bM_boardOf : ByteArray := prog_11_method_38_code
abbrev jM_boardOf (P : Int → ax_Mem → Prop) (pc : Nat) (ls : List (Nat × ax_V)) (st : List ax_V) (M : ax_Mem) : Prop := ax_J shM yM_boardOf bM_boardOf 6 (some .int) 6 P pc ls st M
abbrev kM_boardOf (as : List ax_V) (M : ax_Mem) (P : Int → ax_Mem → Prop) : Prop := ax_C shM yM_boardOf bM_boardOf 6 (some .int) 6 as M P
abbrev yM_board : MethodName := ⟨"RowsIntoPlaneModel", "board", "(II)I"⟩
abbrev bM_board : ByteArray := prog_11_method_39_code
abbrev jM_board (P : Int → ax_Mem → Prop) (pc : Nat) (ls : List (Nat × ax_V)) (st : List ax_V) (M : ax_Mem) : Prop := ax_J shM yM_board bM_board 3 (some .int) 7 P pc ls st M
abbrev kM_board (as : List ax_V) (M : ax_Mem) (P : Int → ax_Mem → Prop) : Prop := ax_C shM yM_board bM_board 3 (some .int) 7 as M P
abbrev yM_sits : MethodName := ⟨"RowsIntoPlaneModel", "sits", "(III)I"⟩
abbrev bM_sits : ByteArray := prog_11_method_40_code
abbrev jM_sits (P : Int → ax_Mem → Prop) (pc : Nat) (ls : List (Nat × ax_V)) (st : List ax_V) (M : ax_Mem) : Prop := ax_J shM yM_sits bM_sits 5 (some .int) 6 P pc ls st M
abbrev kM_sits (as : List ax_V) (M : ax_Mem) (P : Int → ax_Mem → Prop) : Prop := ax_C shM yM_sits bM_sits 5 (some .int) 6 as M P
abbrev yM_stands : MethodName := ⟨"RowsIntoPlaneModel", "stands", "(III)I"⟩
abbrev bM_stands : ByteArray := prog_11_method_41_code
abbrev jM_stands (P : Int → ax_Mem → Prop) (pc : Nat) (ls : List (Nat × ax_V)) (st : List ax_V) (M : ax_Mem) : Prop := ax_J shM yM_stands bM_stands 5 (some .int) 4 P pc ls st M
abbrev kM_stands (as : List ax_V) (M : ax_Mem) (P : Int → ax_Mem → Prop) : Prop := ax_C shM yM_stands bM_stands 5 (some .int) 4 as M P
abbrev yM_leastOf : MethodName := ⟨"RowsIntoPlaneModel", "leastOf", "()I"⟩
abbrev bM_leastOf : ByteArray := prog_11_method_42_code
abbrev jM_leastOf (P : Int → ax_Mem → Prop) (pc : Nat) (ls : List (Nat × ax_V)) (st : List ax_V) (M : ax_Mem) : Prop := ax_J shM yM_leastOf bM_leastOf 5 (some .int) 6 P pc ls st M
abbrev kM_leastOf (as : List ax_V) (M : ax_Mem) (P : Int → ax_Mem → Prop) : Prop := ax_C shM yM_leastOf bM_leastOf 5 (some .int) 6 as M P
abbrev yM_least : MethodName := ⟨"RowsIntoPlaneModel", "least", "()I"⟩
abbrev bM_least : ByteArray := prog_11_method_43_code
abbrev jM_least (P : Int → ax_Mem → Prop) (pc : Nat) (ls : List (Nat × ax_V)) (st : List ax_V) (M : ax_Mem) : Prop := ax_J shM yM_least bM_least 1 (some .int) 7 P pc ls st M
abbrev kM_least (as : List ax_V) (M : ax_Mem) (P : Int → ax_Mem → Prop) : Prop := ax_C shM yM_least bM_least 1 (some .int) 7 as M P
abbrev yM_layNumber : MethodName := ⟨"RowsIntoPlaneModel", "layNumber", "(I)Z"⟩
abbrev bM_layNumber : ByteArray := prog_11_method_44_code
abbrev jM_layNumber (P : Int → ax_Mem → Prop) (pc : Nat) (ls : List (Nat × ax_V)) (st : List ax_V) (M : ax_Mem) : Prop := ax_J shM yM_layNumber bM_layNumber 5 (some .boolean) 1 P pc ls st M
abbrev kM_layNumber (as : List ax_V) (M : ax_Mem) (P : Int → ax_Mem → Prop) : Prop := ax_C shM yM_layNumber bM_layNumber 5 (some .boolean) 1 as M P
abbrev yM_bestOrder : MethodName := ⟨"RowsIntoPlaneModel", "bestOrder", "(I)I"⟩
abbrev bM_bestOrder : ByteArray := prog_11_method_45_code
abbrev jM_bestOrder (P : Int → ax_Mem → Prop) (pc : Nat) (ls : List (Nat × ax_V)) (st : List ax_V) (M : ax_Mem) : Prop := ax_J shM yM_bestOrder bM_bestOrder 7 (some .int) 5 P pc ls st M
abbrev kM_bestOrder (as : List ax_V) (M : ax_Mem) (P : Int → ax_Mem → Prop) : Prop := ax_C shM yM_bestOrder bM_bestOrder 7 (some .int) 5 as M P
abbrev yM_exchange : MethodName := ⟨"RowsIntoPlaneModel", "exchange", "(II)V"⟩
abbrev bM_exchange : ByteArray := prog_11_method_46_code
abbrev jM_exchange (P : Int → ax_Mem → Prop) (pc : Nat) (ls : List (Nat × ax_V)) (st : List ax_V) (M : ax_Mem) : Prop := ax_J shM yM_exchange bM_exchange 4 none 0 P pc ls st M
abbrev kM_exchange (as : List ax_V) (M : ax_Mem) (P : Int → ax_Mem → Prop) : Prop := ax_C shM yM_exchange bM_exchange 4 none 0 as M P
abbrev yM_swap : MethodName := ⟨"RowsIntoPlaneModel", "swap", "(I)I"⟩
abbrev bM_swap : ByteArray := prog_11_method_47_code
abbrev jM_swap (P : Int → ax_Mem → Prop) (pc : Nat) (ls : List (Nat × ax_V)) (st : List ax_V) (M : ax_Mem) : Prop := ax_J shM yM_swap bM_swap 7 (some .int) 6 P pc ls st M
abbrev kM_swap (as : List ax_V) (M : ax_Mem) (P : Int → ax_Mem → Prop) : Prop := ax_C shM yM_swap bM_swap 7 (some .int) 6 as M P
abbrev yM_later : MethodName := ⟨"RowsIntoPlaneModel", "later", "(II)I"⟩
abbrev bM_later : ByteArray := prog_11_method_48_code
abbrev jM_later (P : Int → ax_Mem → Prop) (pc : Nat) (ls : List (Nat × ax_V)) (st : List ax_V) (M : ax_Mem) : Prop := ax_J shM yM_later bM_later 4 (some .int) 5 P pc ls st M
abbrev kM_later (as : List ax_V) (M : ax_Mem) (P : Int → ax_Mem → Prop) : Prop := ax_C shM yM_later bM_later 4 (some .int) 5 as M P
abbrev yM_bound : MethodName := ⟨"RowsIntoPlaneModel", "bound", "(II)I"⟩
abbrev bM_bound : ByteArray := prog_11_method_49_code
abbrev jM_bound (P : Int → ax_Mem → Prop) (pc : Nat) (ls : List (Nat × ax_V)) (st : List ax_V) (M : ax_Mem) : Prop := ax_J shM yM_bound bM_bound 3 (some .int) 5 P pc ls st M
abbrev kM_bound (as : List ax_V) (M : ax_Mem) (P : Int → ax_Mem → Prop) : Prop := ax_C shM yM_bound bM_bound 3 (some .int) 5 as M P
abbrev yM_layPart : MethodName := ⟨"RowsIntoPlaneModel", "layPart", "(II)V"⟩
abbrev bM_layPart : ByteArray := prog_11_method_50_code
abbrev jM_layPart (P : Int → ax_Mem → Prop) (pc : Nat) (ls : List (Nat × ax_V)) (st : List ax_V) (M : ax_Mem) : Prop := ax_J shM yM_layPart bM_layPart 4 none 1 P pc ls st M
abbrev kM_layPart (as : List ax_V) (M : ax_Mem) (P : Int → ax_Mem → Prop) : Prop := ax_C shM yM_layPart bM_layPart 4 none 1 as M P
abbrev yM_doorsOf : MethodName := ⟨"RowsIntoPlaneModel", "doorsOf", "(I)I"⟩
abbrev bM_doorsOf : ByteArray := prog_11_method_51_code
abbrev jM_doorsOf (P : Int → ax_Mem → Prop) (pc : Nat) (ls : List (Nat × ax_V)) (st : List ax_V) (M : ax_Mem) : Prop := ax_J shM yM_doorsOf bM_doorsOf 5 (some .int) 5 P pc ls st M
abbrev kM_doorsOf (as : List ax_V) (M : ax_Mem) (P : Int → ax_Mem → Prop) : Prop := ax_C shM yM_doorsOf bM_doorsOf 5 (some .int) 5 as M P
abbrev yM_doors : MethodName := ⟨"RowsIntoPlaneModel", "doors", "(I)I"⟩
abbrev bM_doors : ByteArray := prog_11_method_52_code
abbrev jM_doors (P : Int → ax_Mem → Prop) (pc : Nat) (ls : List (Nat × ax_V)) (st : List ax_V) (M : ax_Mem) : Prop := ax_J shM yM_doors bM_doors 2 (some .int) 6 P pc ls st M
abbrev kM_doors (as : List ax_V) (M : ax_Mem) (P : Int → ax_Mem → Prop) : Prop := ax_C shM yM_doors bM_doors 2 (some .int) 6 as M P
abbrev yM_draw : MethodName := ⟨"RowsIntoPlaneModel", "draw", "(I)I"⟩
abbrev bM_draw : ByteArray := prog_11_method_53_code
abbrev jM_draw (P : Int → ax_Mem → Prop) (pc : Nat) (ls : List (Nat × ax_V)) (st : List ax_V) (M : ax_Mem) : Prop := ax_J shM yM_draw bM_draw 2 (some .int) 0 P pc ls st M
abbrev kM_draw (as : List ax_V) (M : ax_Mem) (P : Int → ax_Mem → Prop) : Prop := ax_C shM yM_draw bM_draw 2 (some .int) 0 as M P
abbrev yM_mixedOf : MethodName := ⟨"RowsIntoPlaneModel", "mixedOf", "(III)I"⟩
abbrev bM_mixedOf : ByteArray := prog_11_method_54_code
abbrev jM_mixedOf (P : Int → ax_Mem → Prop) (pc : Nat) (ls : List (Nat × ax_V)) (st : List ax_V) (M : ax_Mem) : Prop := ax_J shM yM_mixedOf bM_mixedOf 8 (some .int) 5 P pc ls st M
abbrev kM_mixedOf (as : List ax_V) (M : ax_Mem) (P : Int → ax_Mem → Prop) : Prop := ax_C shM yM_mixedOf bM_mixedOf 8 (some .int) 5 as M P
abbrev yM_mixed : MethodName := ⟨"RowsIntoPlaneModel", "mixed", "(III)I"⟩
abbrev bM_mixed : ByteArray := prog_11_method_55_code
abbrev jM_mixed (P : Int → ax_Mem → Prop) (pc : Nat) (ls : List (Nat × ax_V)) (st : List ax_V) (M : ax_Mem) : Prop := ax_J shM yM_mixed bM_mixed 4 (some .int) 6 P pc ls st M
abbrev kM_mixed (as : List ax_V) (M : ax_Mem) (P : Int → ax_Mem → Prop) : Prop := ax_C shM yM_mixed bM_mixed 4 (some .int) 6 as M P
abbrev yM_mayGo : MethodName := ⟨"RowsIntoPlaneModel", "mayGo", "(III)Z"⟩
abbrev bM_mayGo : ByteArray := prog_11_method_56_code
abbrev jM_mayGo (P : Int → ax_Mem → Prop) (pc : Nat) (ls : List (Nat × ax_V)) (st : List ax_V) (M : ax_Mem) : Prop := ax_J shM yM_mayGo bM_mayGo 4 (some .boolean) 1 P pc ls st M
abbrev kM_mayGo (as : List ax_V) (M : ax_Mem) (P : Int → ax_Mem → Prop) : Prop := ax_C shM yM_mayGo bM_mayGo 4 (some .boolean) 1 as M P
abbrev yM_lowestOf : MethodName := ⟨"RowsIntoPlaneModel", "lowestOf", "(I)I"⟩
abbrev bM_lowestOf : ByteArray := prog_11_method_57_code
abbrev jM_lowestOf (P : Int → ax_Mem → Prop) (pc : Nat) (ls : List (Nat × ax_V)) (st : List ax_V) (M : ax_Mem) : Prop := ax_J shM yM_lowestOf bM_lowestOf 5 (some .int) 1 P pc ls st M
abbrev kM_lowestOf (as : List ax_V) (M : ax_Mem) (P : Int → ax_Mem → Prop) : Prop := ax_C shM yM_lowestOf bM_lowestOf 5 (some .int) 1 as M P
abbrev yM_getUp : MethodName := ⟨"RowsIntoPlaneModel", "getUp", "(I)V"⟩
abbrev bM_getUp : ByteArray := prog_11_method_58_code
abbrev jM_getUp (P : Int → ax_Mem → Prop) (pc : Nat) (ls : List (Nat × ax_V)) (st : List ax_V) (M : ax_Mem) : Prop := ax_J shM yM_getUp bM_getUp 8 none 2 P pc ls st M
abbrev kM_getUp (as : List ax_V) (M : ax_Mem) (P : Int → ax_Mem → Prop) : Prop := ax_C shM yM_getUp bM_getUp 8 none 2 as M P
abbrev yM_goOut : MethodName := ⟨"RowsIntoPlaneModel", "goOut", "(I)I"⟩
abbrev bM_goOut : ByteArray := prog_11_method_59_code
abbrev jM_goOut (P : Int → ax_Mem → Prop) (pc : Nat) (ls : List (Nat × ax_V)) (st : List ax_V) (M : ax_Mem) : Prop := ax_J shM yM_goOut bM_goOut 6 (some .int) 3 P pc ls st M
abbrev kM_goOut (as : List ax_V) (M : ax_Mem) (P : Int → ax_Mem → Prop) : Prop := ax_C shM yM_goOut bM_goOut 6 (some .int) 3 as M P
abbrev yM_out : MethodName := ⟨"RowsIntoPlaneModel", "out", "(I)I"⟩
abbrev bM_out : ByteArray := prog_11_method_60_code
abbrev jM_out (P : Int → ax_Mem → Prop) (pc : Nat) (ls : List (Nat × ax_V)) (st : List ax_V) (M : ax_Mem) : Prop := ax_J shM yM_out bM_out 2 (some .int) 4 P pc ls st M
abbrev kM_out (as : List ax_V) (M : ax_Mem) (P : Int → ax_Mem → Prop) : Prop := ax_C shM yM_out bM_out 2 (some .int) 4 as M P
abbrev yM_outOf : MethodName := ⟨"RowsIntoPlaneModel", "outOf", "(II)I"⟩
abbrev bM_outOf : ByteArray := prog_11_method_61_code
abbrev jM_outOf (P : Int → ax_Mem → Prop) (pc : Nat) (ls : List (Nat × ax_V)) (st : List ax_V) (M : ax_Mem) : Prop := ax_J shM yM_outOf bM_outOf 4 (some .int) 4 P pc ls st M
abbrev kM_outOf (as : List ax_V) (M : ax_Mem) (P : Int → ax_Mem → Prop) : Prop := ax_C shM yM_outOf bM_outOf 4 (some .int) 4 as M P
abbrev yM_missed : MethodName := ⟨"RowsIntoPlaneModel", "missed", "(I)I"⟩
abbrev bM_missed : ByteArray := prog_11_method_62_code
abbrev jM_missed (P : Int → ax_Mem → Prop) (pc : Nat) (ls : List (Nat × ax_V)) (st : List ax_V) (M : ax_Mem) : Prop := ax_J shM yM_missed bM_missed 5 (some .int) 4 P pc ls st M
abbrev kM_missed (as : List ax_V) (M : ax_Mem) (P : Int → ax_Mem → Prop) : Prop := ax_C shM yM_missed bM_missed 5 (some .int) 4 as M P
abbrev yM_stay : MethodName := ⟨"RowsIntoPlaneModel", "stay", "(III)I"⟩
abbrev bM_stay : ByteArray := prog_11_method_63_code
abbrev jM_stay (P : Int → ax_Mem → Prop) (pc : Nat) (ls : List (Nat × ax_V)) (st : List ax_V) (M : ax_Mem) : Prop := ax_J shM yM_stay bM_stay 7 (some .int) 1 P pc ls st M
abbrev kM_stay (as : List ax_V) (M : ax_Mem) (P : Int → ax_Mem → Prop) : Prop := ax_C shM yM_stay bM_stay 7 (some .int) 1 as M P
abbrev yM_image : MethodName := ⟨"RowsIntoPlaneModel", "image", "()I"⟩
abbrev bM_image : ByteArray := prog_11_method_64_code
abbrev jM_image (P : Int → ax_Mem → Prop) (pc : Nat) (ls : List (Nat × ax_V)) (st : List ax_V) (M : ax_Mem) : Prop := ax_J shM yM_image bM_image 2 (some .int) 1 P pc ls st M
abbrev kM_image (as : List ax_V) (M : ax_Mem) (P : Int → ax_Mem → Prop) : Prop := ax_C shM yM_image bM_image 2 (some .int) 1 as M P
abbrev yM_restore : MethodName := ⟨"RowsIntoPlaneModel", "restore", "()I"⟩
abbrev bM_restore : ByteArray := prog_11_method_65_code
abbrev jM_restore (P : Int → ax_Mem → Prop) (pc : Nat) (ls : List (Nat × ax_V)) (st : List ax_V) (M : ax_Mem) : Prop := ax_J shM yM_restore bM_restore 2 (some .int) 0 P pc ls st M
abbrev kM_restore (as : List ax_V) (M : ax_Mem) (P : Int → ax_Mem → Prop) : Prop := ax_C shM yM_restore bM_restore 2 (some .int) 0 as M P
abbrev yM_bagsOfAll : MethodName := ⟨"RowsIntoPlaneModel", "bagsOfAll", "()I"⟩
abbrev bM_bagsOfAll : ByteArray := prog_11_method_66_code
abbrev jM_bagsOfAll (P : Int → ax_Mem → Prop) (pc : Nat) (ls : List (Nat × ax_V)) (st : List ax_V) (M : ax_Mem) : Prop := ax_J shM yM_bagsOfAll bM_bagsOfAll 3 (some .int) 0 P pc ls st M
abbrev kM_bagsOfAll (as : List ax_V) (M : ax_Mem) (P : Int → ax_Mem → Prop) : Prop := ax_C shM yM_bagsOfAll bM_bagsOfAll 3 (some .int) 0 as M P
abbrev yM_countOf : MethodName := ⟨"RowsIntoPlaneModel", "countOf", "(I)I"⟩
abbrev bM_countOf : ByteArray := prog_11_method_67_code
abbrev jM_countOf (P : Int → ax_Mem → Prop) (pc : Nat) (ls : List (Nat × ax_V)) (st : List ax_V) (M : ax_Mem) : Prop := ax_J shM yM_countOf bM_countOf 2 (some .int) 1 P pc ls st M
abbrev kM_countOf (as : List ax_V) (M : ax_Mem) (P : Int → ax_Mem → Prop) : Prop := ax_C shM yM_countOf bM_countOf 2 (some .int) 1 as M P
abbrev yM_count : MethodName := ⟨"RowsIntoPlaneModel", "count", "(I)I"⟩
abbrev bM_count : ByteArray := prog_11_method_68_code
abbrev jM_count (P : Int → ax_Mem → Prop) (pc : Nat) (ls : List (Nat × ax_V)) (st : List ax_V) (M : ax_Mem) : Prop := ax_J shM yM_count bM_count 2 (some .int) 2 P pc ls st M
abbrev kM_count (as : List ax_V) (M : ax_Mem) (P : Int → ax_Mem → Prop) : Prop := ax_C shM yM_count bM_count 2 (some .int) 2 as M P
abbrev yM_say : MethodName := ⟨"RowsIntoPlaneModel", "say", "(J)V"⟩
abbrev bM_say : ByteArray := prog_11_method_69_code
abbrev jM_say (P : Int → ax_Mem → Prop) (pc : Nat) (ls : List (Nat × ax_V)) (st : List ax_V) (M : ax_Mem) : Prop := ax_J shM yM_say bM_say 3 none 0 P pc ls st M
abbrev kM_say (as : List ax_V) (M : ax_Mem) (P : Int → ax_Mem → Prop) : Prop := ax_C shM yM_say bM_say 3 none 0 as M P
abbrev yM_sayCalls : MethodName := ⟨"RowsIntoPlaneModel", "sayCalls", "()V"⟩
abbrev bM_sayCalls : ByteArray := prog_11_method_70_code
abbrev jM_sayCalls (P : Int → ax_Mem → Prop) (pc : Nat) (ls : List (Nat × ax_V)) (st : List ax_V) (M : ax_Mem) : Prop := ax_J shM yM_sayCalls bM_sayCalls 3 none 7 P pc ls st M
abbrev kM_sayCalls (as : List ax_V) (M : ax_Mem) (P : Int → ax_Mem → Prop) : Prop := ax_C shM yM_sayCalls bM_sayCalls 3 none 7 as M P
abbrev yM_digest : MethodName := ⟨"RowsIntoPlaneModel", "digest", "()J"⟩
abbrev bM_digest : ByteArray := prog_11_method_71_code
abbrev jM_digest (P : Int → ax_Mem → Prop) (pc : Nat) (ls : List (Nat × ax_V)) (st : List ax_V) (M : ax_Mem) : Prop := ax_J shM yM_digest bM_digest 2 (some .long) 8 P pc ls st M
abbrev kM_digest (as : List ax_V) (M : ax_Mem) (P : Int → ax_Mem → Prop) : Prop := ax_C shM yM_digest bM_digest 2 (some .long) 8 as M P
end
section
/-! links by their places in the tables (by program gen2.py) -/
theorem fB_9 : ax_FL "RowsIntoPlane$Boarding" 9 0 1 := ⟨(rn_0, tb_0, 16), rfl, by decide, ax_mem 254 (by decide +kernel) (by decide +kernel), wi_0⟩
theorem fB_15 : ax_FL "RowsIntoPlane$Boarding" 15 0 2 := ⟨(rn_0, tb_0, 16), rfl, by decide, ax_mem 255 (by decide +kernel) (by decide +kernel), wi_0⟩
theorem fB_18 : ax_FL "RowsIntoPlane$Boarding" 18 0 3 := ⟨(rn_0, tb_0, 16), rfl, by decide, ax_mem 256 (by decide +kernel) (by decide +kernel), wi_0⟩
theorem fB_21 : ax_FL "RowsIntoPlane$Boarding" 21 0 4 := ⟨(rn_0, tb_0, 16), rfl, by decide, ax_mem 257 (by decide +kernel) (by decide +kernel), wi_0⟩
theorem fB_24 : ax_FL "RowsIntoPlane$Boarding" 24 0 5 := ⟨(rn_0, tb_0, 16), rfl, by decide, ax_mem 258 (by decide +kernel) (by decide +kernel), wi_0⟩
theorem fB_27 : ax_FL "RowsIntoPlane$Boarding" 27 0 6 := ⟨(rn_0, tb_0, 16), rfl, by decide, ax_mem 259 (by decide +kernel) (by decide +kernel), wi_0⟩
theorem fB_30 : ax_FL "RowsIntoPlane$Boarding" 30 0 7 := ⟨(rn_0, tb_0, 16), rfl, by decide, ax_mem 260 (by decide +kernel) (by decide +kernel), wi_0⟩
theorem fB_35 : ax_FL "RowsIntoPlane$Boarding" 35 0 8 := ⟨(rn_0, tb_0, 16), rfl, by decide, ax_mem 261 (by decide +kernel) (by decide +kernel), wi_0⟩
theorem fB_38 : ax_FL "RowsIntoPlane$Boarding" 38 0 9 := ⟨(rn_0, tb_0, 16), rfl, by decide, ax_mem 262 (by decide +kernel) (by decide +kernel), wi_0⟩
theorem fB_41 : ax_FL "RowsIntoPlane$Boarding" 41 0 0 := ⟨(rn_0, tb_0, 16), rfl, by decide, ax_mem 253 (by decide +kernel) (by decide +kernel), wi_0⟩
theorem fB_45 : ax_FL "RowsIntoPlane$Boarding" 45 1 0 := ⟨(rn_1, tb_1, 4), rfl, by decide, ax_mem 90 (by decide +kernel) (by decide +kernel), wi_1⟩
theorem fB_51 : ax_FL "RowsIntoPlane$Boarding" 51 1 2 := ⟨(rn_1, tb_1, 4), rfl, by decide, ax_mem 94 (by decide +kernel) (by decide +kernel), wi_1⟩
theorem fB_58 : ax_FL "RowsIntoPlane$Boarding" 58 7 7 := ⟨(rn_7, tb_7, 8), rfl, by decide, ax_mem 146 (by decide +kernel) (by decide +kernel), wi_7⟩
theorem fB_63 : ax_FL "RowsIntoPlane$Boarding" 63 7 2 := ⟨(rn_7, tb_7, 8), rfl, by decide, ax_mem 121 (by decide +kernel) (by decide +kernel), wi_7⟩
theorem fB_72 : ax_FL "RowsIntoPlane$Boarding" 72 0 10 := ⟨(rn_0, tb_0, 16), rfl, by decide, ax_mem 264 (by decide +kernel) (by decide +kernel), wi_0⟩
theorem fB_73 : ax_FL "RowsIntoPlane$Boarding" 73 0 11 := ⟨(rn_0, tb_0, 16), rfl, by decide, ax_mem 265 (by decide +kernel) (by decide +kernel), wi_0⟩
theorem fB_74 : ax_FL "RowsIntoPlane$Boarding" 74 7 5 := ⟨(rn_7, tb_7, 8), rfl, by decide, ax_mem 139 (by decide +kernel) (by decide +kernel), wi_7⟩
theorem fB_85 : ax_FL "RowsIntoPlane$Boarding" 85 0 13 := ⟨(rn_0, tb_0, 16), rfl, by decide, ax_mem 267 (by decide +kernel) (by decide +kernel), wi_0⟩
theorem fB_88 : ax_FL "RowsIntoPlane$Boarding" 88 0 12 := ⟨(rn_0, tb_0, 16), rfl, by decide, ax_mem 266 (by decide +kernel) (by decide +kernel), wi_0⟩
theorem fB_99 : ax_FL "RowsIntoPlane$Boarding" 99 0 14 := ⟨(rn_0, tb_0, 16), rfl, by decide, ax_mem 268 (by decide +kernel) (by decide +kernel), wi_0⟩
theorem fB_102 : ax_FL "RowsIntoPlane$Boarding" 102 0 15 := ⟨(rn_0, tb_0, 16), rfl, by decide, ax_mem 269 (by decide +kernel) (by decide +kernel), wi_0⟩
theorem fB_105 : ax_FL "RowsIntoPlane$Boarding" 105 5 1 := ⟨(rn_5, tb_5, 2), rfl, by decide, ax_mem 223 (by decide +kernel) (by decide +kernel), wi_5⟩
theorem fB_108 : ax_FL "RowsIntoPlane$Boarding" 108 5 0 := ⟨(rn_5, tb_5, 2), rfl, by decide, ax_mem 219 (by decide +kernel) (by decide +kernel), wi_5⟩
theorem fB_127 : ax_FL "RowsIntoPlane$Boarding" 127 7 3 := ⟨(rn_7, tb_7, 8), rfl, by decide, ax_mem 129 (by decide +kernel) (by decide +kernel), wi_7⟩
theorem fB_130 : ax_FL "RowsIntoPlane$Boarding" 130 7 4 := ⟨(rn_7, tb_7, 8), rfl, by decide, ax_mem 134 (by decide +kernel) (by decide +kernel), wi_7⟩
theorem fC_7 : ax_FL "RowsIntoPlane$Cabin" 7 1 0 := ⟨(rn_1, tb_1, 4), rfl, by decide, ax_mem 89 (by decide +kernel) (by decide +kernel), wi_1⟩
theorem fC_13 : ax_FL "RowsIntoPlane$Cabin" 13 1 1 := ⟨(rn_1, tb_1, 4), rfl, by decide, ax_mem 93 (by decide +kernel) (by decide +kernel), wi_1⟩
theorem fC_19 : ax_FL "RowsIntoPlane$Cabin" 19 1 3 := ⟨(rn_1, tb_1, 4), rfl, by decide, ax_mem 97 (by decide +kernel) (by decide +kernel), wi_1⟩
theorem fK_9 : ax_FL "RowsIntoPlane$Call" 9 2 0 := ⟨(rn_2, tb_2, 3), rfl, by decide, ax_mem 235 (by decide +kernel) (by decide +kernel), wi_2⟩
theorem fK_15 : ax_FL "RowsIntoPlane$Call" 15 2 1 := ⟨(rn_2, tb_2, 3), rfl, by decide, ax_mem 236 (by decide +kernel) (by decide +kernel), wi_2⟩
theorem fK_19 : ax_FL "RowsIntoPlane$Call" 19 2 2 := ⟨(rn_2, tb_2, 3), rfl, by decide, ax_mem 237 (by decide +kernel) (by decide +kernel), wi_2⟩
theorem fK_23 : ax_FL "RowsIntoPlane$Call" 23 6 1 := ⟨(rn_6, tb_6, 3), rfl, by decide, ax_mem 197 (by decide +kernel) (by decide +kernel), wi_6⟩
theorem fK_26 : ax_FL "RowsIntoPlane$Call" 26 6 0 := ⟨(rn_6, tb_6, 3), rfl, by decide, ax_mem 195 (by decide +kernel) (by decide +kernel), wi_6⟩
theorem fK_29 : ax_FL "RowsIntoPlane$Call" 29 5 1 := ⟨(rn_5, tb_5, 2), rfl, by decide, ax_mem 222 (by decide +kernel) (by decide +kernel), wi_5⟩
theorem fK_32 : ax_FL "RowsIntoPlane$Call" 32 7 7 := ⟨(rn_7, tb_7, 8), rfl, by decide, ax_mem 149 (by decide +kernel) (by decide +kernel), wi_7⟩
theorem fK_35 : ax_FL "RowsIntoPlane$Call" 35 5 0 := ⟨(rn_5, tb_5, 2), rfl, by decide, ax_mem 218 (by decide +kernel) (by decide +kernel), wi_5⟩
theorem fK_46 : ax_FL "RowsIntoPlane$Call" 46 7 0 := ⟨(rn_7, tb_7, 8), rfl, by decide, ax_mem 115 (by decide +kernel) (by decide +kernel), wi_7⟩
theorem fK_53 : ax_FL "RowsIntoPlane$Call" 53 7 1 := ⟨(rn_7, tb_7, 8), rfl, by decide, ax_mem 118 (by decide +kernel) (by decide +kernel), wi_7⟩
theorem fK_73 : ax_FL "RowsIntoPlane$Call" 73 1 0 := ⟨(rn_1, tb_1, 4), rfl, by decide, ax_mem 91 (by decide +kernel) (by decide +kernel), wi_1⟩
theorem fK_78 : ax_FL "RowsIntoPlane$Call" 78 7 2 := ⟨(rn_7, tb_7, 8), rfl, by decide, ax_mem 124 (by decide +kernel) (by decide +kernel), wi_7⟩
theorem fK_81 : ax_FL "RowsIntoPlane$Call" 81 7 4 := ⟨(rn_7, tb_7, 8), rfl, by decide, ax_mem 133 (by decide +kernel) (by decide +kernel), wi_7⟩
theorem fK_84 : ax_FL "RowsIntoPlane$Call" 84 7 3 := ⟨(rn_7, tb_7, 8), rfl, by decide, ax_mem 127 (by decide +kernel) (by decide +kernel), wi_7⟩
theorem fK_87 : ax_FL "RowsIntoPlane$Call" 87 7 5 := ⟨(rn_7, tb_7, 8), rfl, by decide, ax_mem 140 (by decide +kernel) (by decide +kernel), wi_7⟩
theorem fI_9 : ax_FL "RowsIntoPlane$Image" 9 3 0 := ⟨(rn_3, tb_3, 4), rfl, by decide, ax_mem 174 (by decide +kernel) (by decide +kernel), wi_3⟩
theorem fI_15 : ax_FL "RowsIntoPlane$Image" 15 3 1 := ⟨(rn_3, tb_3, 4), rfl, by decide, ax_mem 175 (by decide +kernel) (by decide +kernel), wi_3⟩
theorem fI_22 : ax_FL "RowsIntoPlane$Image" 22 7 7 := ⟨(rn_7, tb_7, 8), rfl, by decide, ax_mem 145 (by decide +kernel) (by decide +kernel), wi_7⟩
theorem fI_28 : ax_FL "RowsIntoPlane$Image" 28 3 2 := ⟨(rn_3, tb_3, 4), rfl, by decide, ax_mem 176 (by decide +kernel) (by decide +kernel), wi_3⟩
theorem fI_29 : ax_FL "RowsIntoPlane$Image" 29 7 5 := ⟨(rn_7, tb_7, 8), rfl, by decide, ax_mem 136 (by decide +kernel) (by decide +kernel), wi_7⟩
theorem fI_36 : ax_FL "RowsIntoPlane$Image" 36 7 6 := ⟨(rn_7, tb_7, 8), rfl, by decide, ax_mem 142 (by decide +kernel) (by decide +kernel), wi_7⟩
theorem fL_9 : ax_FL "RowsIntoPlane$Leaving" 9 4 1 := ⟨(rn_4, tb_4, 9), rfl, by decide, ax_mem 311 (by decide +kernel) (by decide +kernel), wi_4⟩
theorem fL_15 : ax_FL "RowsIntoPlane$Leaving" 15 4 2 := ⟨(rn_4, tb_4, 9), rfl, by decide, ax_mem 312 (by decide +kernel) (by decide +kernel), wi_4⟩
theorem fL_18 : ax_FL "RowsIntoPlane$Leaving" 18 4 3 := ⟨(rn_4, tb_4, 9), rfl, by decide, ax_mem 313 (by decide +kernel) (by decide +kernel), wi_4⟩
theorem fL_22 : ax_FL "RowsIntoPlane$Leaving" 22 4 4 := ⟨(rn_4, tb_4, 9), rfl, by decide, ax_mem 314 (by decide +kernel) (by decide +kernel), wi_4⟩
theorem fL_25 : ax_FL "RowsIntoPlane$Leaving" 25 4 0 := ⟨(rn_4, tb_4, 9), rfl, by decide, ax_mem 310 (by decide +kernel) (by decide +kernel), wi_4⟩
theorem fL_35 : ax_FL "RowsIntoPlane$Leaving" 35 4 5 := ⟨(rn_4, tb_4, 9), rfl, by decide, ax_mem 316 (by decide +kernel) (by decide +kernel), wi_4⟩
theorem fL_39 : ax_FL "RowsIntoPlane$Leaving" 39 4 6 := ⟨(rn_4, tb_4, 9), rfl, by decide, ax_mem 317 (by decide +kernel) (by decide +kernel), wi_4⟩
theorem fL_42 : ax_FL "RowsIntoPlane$Leaving" 42 4 7 := ⟨(rn_4, tb_4, 9), rfl, by decide, ax_mem 318 (by decide +kernel) (by decide +kernel), wi_4⟩
theorem fL_48 : ax_FL "RowsIntoPlane$Leaving" 48 7 7 := ⟨(rn_7, tb_7, 8), rfl, by decide, ax_mem 148 (by decide +kernel) (by decide +kernel), wi_7⟩
theorem fL_67 : ax_FL "RowsIntoPlane$Leaving" 67 7 5 := ⟨(rn_7, tb_7, 8), rfl, by decide, ax_mem 138 (by decide +kernel) (by decide +kernel), wi_7⟩
theorem fL_74 : ax_FL "RowsIntoPlane$Leaving" 74 7 4 := ⟨(rn_7, tb_7, 8), rfl, by decide, ax_mem 132 (by decide +kernel) (by decide +kernel), wi_7⟩
theorem fL_77 : ax_FL "RowsIntoPlane$Leaving" 77 7 2 := ⟨(rn_7, tb_7, 8), rfl, by decide, ax_mem 123 (by decide +kernel) (by decide +kernel), wi_7⟩
theorem fL_84 : ax_FL "RowsIntoPlane$Leaving" 84 7 3 := ⟨(rn_7, tb_7, 8), rfl, by decide, ax_mem 128 (by decide +kernel) (by decide +kernel), wi_7⟩
theorem fN_9 : ax_FL "RowsIntoPlane$Line" 9 5 0 := ⟨(rn_5, tb_5, 2), rfl, by decide, ax_mem 217 (by decide +kernel) (by decide +kernel), wi_5⟩
theorem fN_21 : ax_FL "RowsIntoPlane$Line" 21 5 1 := ⟨(rn_5, tb_5, 2), rfl, by decide, ax_mem 221 (by decide +kernel) (by decide +kernel), wi_5⟩
theorem fG_9 : ax_FL "RowsIntoPlane$Page" 9 6 0 := ⟨(rn_6, tb_6, 3), rfl, by decide, ax_mem 194 (by decide +kernel) (by decide +kernel), wi_6⟩
theorem fG_21 : ax_FL "RowsIntoPlane$Page" 21 6 1 := ⟨(rn_6, tb_6, 3), rfl, by decide, ax_mem 198 (by decide +kernel) (by decide +kernel), wi_6⟩
theorem fG_25 : ax_FL "RowsIntoPlane$Page" 25 6 2 := ⟨(rn_6, tb_6, 3), rfl, by decide, ax_mem 200 (by decide +kernel) (by decide +kernel), wi_6⟩
theorem fE_9 : ax_FL "RowsIntoPlane$People" 9 7 0 := ⟨(rn_7, tb_7, 8), rfl, by decide, ax_mem 114 (by decide +kernel) (by decide +kernel), wi_7⟩
theorem fE_15 : ax_FL "RowsIntoPlane$People" 15 7 1 := ⟨(rn_7, tb_7, 8), rfl, by decide, ax_mem 117 (by decide +kernel) (by decide +kernel), wi_7⟩
theorem fE_18 : ax_FL "RowsIntoPlane$People" 18 7 2 := ⟨(rn_7, tb_7, 8), rfl, by decide, ax_mem 120 (by decide +kernel) (by decide +kernel), wi_7⟩
theorem fE_21 : ax_FL "RowsIntoPlane$People" 21 7 3 := ⟨(rn_7, tb_7, 8), rfl, by decide, ax_mem 125 (by decide +kernel) (by decide +kernel), wi_7⟩
theorem fE_24 : ax_FL "RowsIntoPlane$People" 24 7 4 := ⟨(rn_7, tb_7, 8), rfl, by decide, ax_mem 130 (by decide +kernel) (by decide +kernel), wi_7⟩
theorem fE_27 : ax_FL "RowsIntoPlane$People" 27 7 5 := ⟨(rn_7, tb_7, 8), rfl, by decide, ax_mem 135 (by decide +kernel) (by decide +kernel), wi_7⟩
theorem fE_30 : ax_FL "RowsIntoPlane$People" 30 7 6 := ⟨(rn_7, tb_7, 8), rfl, by decide, ax_mem 141 (by decide +kernel) (by decide +kernel), wi_7⟩
theorem fE_33 : ax_FL "RowsIntoPlane$People" 33 7 7 := ⟨(rn_7, tb_7, 8), rfl, by decide, ax_mem 144 (by decide +kernel) (by decide +kernel), wi_7⟩
theorem fX_10 : ax_FL "RowsIntoPlane" 10 8 0 := ⟨(rn_8, tb_8, 11), rfl, by decide, ax_mem 341 (by decide +kernel) (by decide +kernel), wi_8⟩
theorem fX_19 : ax_FL "RowsIntoPlane" 19 8 1 := ⟨(rn_8, tb_8, 11), rfl, by decide, ax_mem 342 (by decide +kernel) (by decide +kernel), wi_8⟩
theorem fX_26 : ax_FL "RowsIntoPlane" 26 8 2 := ⟨(rn_8, tb_8, 11), rfl, by decide, ax_mem 343 (by decide +kernel) (by decide +kernel), wi_8⟩
theorem fX_33 : ax_FL "RowsIntoPlane" 33 8 3 := ⟨(rn_8, tb_8, 11), rfl, by decide, ax_mem 344 (by decide +kernel) (by decide +kernel), wi_8⟩
theorem fX_39 : ax_FL "RowsIntoPlane" 39 8 4 := ⟨(rn_8, tb_8, 11), rfl, by decide, ax_mem 345 (by decide +kernel) (by decide +kernel), wi_8⟩
theorem fX_46 : ax_FL "RowsIntoPlane" 46 8 5 := ⟨(rn_8, tb_8, 11), rfl, by decide, ax_mem 346 (by decide +kernel) (by decide +kernel), wi_8⟩
theorem fX_50 : ax_FL "RowsIntoPlane" 50 8 6 := ⟨(rn_8, tb_8, 11), rfl, by decide, ax_mem 347 (by decide +kernel) (by decide +kernel), wi_8⟩
theorem fX_59 : ax_FL "RowsIntoPlane" 59 8 7 := ⟨(rn_8, tb_8, 11), rfl, by decide, ax_mem 348 (by decide +kernel) (by decide +kernel), wi_8⟩
theorem fX_66 : ax_FL "RowsIntoPlane" 66 8 8 := ⟨(rn_8, tb_8, 11), rfl, by decide, ax_mem 349 (by decide +kernel) (by decide +kernel), wi_8⟩
theorem fX_78 : ax_FL "RowsIntoPlane" 78 7 7 := ⟨(rn_7, tb_7, 8), rfl, by decide, ax_mem 147 (by decide +kernel) (by decide +kernel), wi_7⟩
theorem fX_82 : ax_FL "RowsIntoPlane" 82 3 3 := ⟨(rn_3, tb_3, 4), rfl, by decide, ax_mem 178 (by decide +kernel) (by decide +kernel), wi_3⟩
theorem fX_104 : ax_FL "RowsIntoPlane" 104 7 0 := ⟨(rn_7, tb_7, 8), rfl, by decide, ax_mem 116 (by decide +kernel) (by decide +kernel), wi_7⟩
theorem fX_108 : ax_FL "RowsIntoPlane" 108 7 1 := ⟨(rn_7, tb_7, 8), rfl, by decide, ax_mem 119 (by decide +kernel) (by decide +kernel), wi_7⟩
theorem fX_111 : ax_FL "RowsIntoPlane" 111 7 2 := ⟨(rn_7, tb_7, 8), rfl, by decide, ax_mem 122 (by decide +kernel) (by decide +kernel), wi_7⟩
theorem fX_114 : ax_FL "RowsIntoPlane" 114 7 3 := ⟨(rn_7, tb_7, 8), rfl, by decide, ax_mem 126 (by decide +kernel) (by decide +kernel), wi_7⟩
theorem fX_117 : ax_FL "RowsIntoPlane" 117 7 4 := ⟨(rn_7, tb_7, 8), rfl, by decide, ax_mem 131 (by decide +kernel) (by decide +kernel), wi_7⟩
theorem fX_120 : ax_FL "RowsIntoPlane" 120 7 5 := ⟨(rn_7, tb_7, 8), rfl, by decide, ax_mem 137 (by decide +kernel) (by decide +kernel), wi_7⟩
theorem fX_123 : ax_FL "RowsIntoPlane" 123 7 6 := ⟨(rn_7, tb_7, 8), rfl, by decide, ax_mem 143 (by decide +kernel) (by decide +kernel), wi_7⟩
theorem fX_138 : ax_FL "RowsIntoPlane" 138 6 1 := ⟨(rn_6, tb_6, 3), rfl, by decide, ax_mem 199 (by decide +kernel) (by decide +kernel), wi_6⟩
theorem fX_149 : ax_FL "RowsIntoPlane" 149 8 9 := ⟨(rn_8, tb_8, 11), rfl, by decide, ax_mem 350 (by decide +kernel) (by decide +kernel), wi_8⟩
theorem fX_164 : ax_FL "RowsIntoPlane" 164 5 1 := ⟨(rn_5, tb_5, 2), rfl, by decide, ax_mem 224 (by decide +kernel) (by decide +kernel), wi_5⟩
theorem fX_165 : ax_FL "RowsIntoPlane" 165 5 0 := ⟨(rn_5, tb_5, 2), rfl, by decide, ax_mem 220 (by decide +kernel) (by decide +kernel), wi_5⟩
theorem fX_179 : ax_FL "RowsIntoPlane" 179 1 0 := ⟨(rn_1, tb_1, 4), rfl, by decide, ax_mem 92 (by decide +kernel) (by decide +kernel), wi_1⟩
theorem fX_182 : ax_FL "RowsIntoPlane" 182 0 9 := ⟨(rn_0, tb_0, 16), rfl, by decide, ax_mem 263 (by decide +kernel) (by decide +kernel), wi_0⟩
theorem fX_185 : ax_FL "RowsIntoPlane" 185 0 15 := ⟨(rn_0, tb_0, 16), rfl, by decide, ax_mem 270 (by decide +kernel) (by decide +kernel), wi_0⟩
theorem fX_188 : ax_FL "RowsIntoPlane" 188 8 10 := ⟨(rn_8, tb_8, 11), rfl, by decide, ax_mem 351 (by decide +kernel) (by decide +kernel), wi_8⟩
theorem fX_235 : ax_FL "RowsIntoPlane" 235 4 8 := ⟨(rn_4, tb_4, 9), rfl, by decide, ax_mem 320 (by decide +kernel) (by decide +kernel), wi_4⟩
theorem fX_236 : ax_FL "RowsIntoPlane" 236 4 4 := ⟨(rn_4, tb_4, 9), rfl, by decide, ax_mem 315 (by decide +kernel) (by decide +kernel), wi_4⟩
theorem fX_248 : ax_FL "RowsIntoPlane" 248 1 2 := ⟨(rn_1, tb_1, 4), rfl, by decide, ax_mem 96 (by decide +kernel) (by decide +kernel), wi_1⟩
theorem fX_251 : ax_FL "RowsIntoPlane" 251 1 3 := ⟨(rn_1, tb_1, 4), rfl, by decide, ax_mem 98 (by decide +kernel) (by decide +kernel), wi_1⟩
theorem fX_275 : ax_FL "RowsIntoPlane" 275 6 0 := ⟨(rn_6, tb_6, 3), rfl, by decide, ax_mem 196 (by decide +kernel) (by decide +kernel), wi_6⟩
theorem fM_7 : ax_FL "RowsIntoPlaneModel" 7 9 5 := ⟨(rn_9, tb_9, 37), rfl, by decide, ax_mem 778 (by decide +kernel) (by decide +kernel), wi_9⟩
theorem fM_13 : ax_FL "RowsIntoPlaneModel" 13 9 6 := ⟨(rn_9, tb_9, 37), rfl, by decide, ax_mem 779 (by decide +kernel) (by decide +kernel), wi_9⟩
theorem fM_16 : ax_FL "RowsIntoPlaneModel" 16 9 9 := ⟨(rn_9, tb_9, 37), rfl, by decide, ax_mem 782 (by decide +kernel) (by decide +kernel), wi_9⟩
theorem fM_19 : ax_FL "RowsIntoPlaneModel" 19 9 12 := ⟨(rn_9, tb_9, 37), rfl, by decide, ax_mem 785 (by decide +kernel) (by decide +kernel), wi_9⟩
theorem fM_22 : ax_FL "RowsIntoPlaneModel" 22 9 14 := ⟨(rn_9, tb_9, 37), rfl, by decide, ax_mem 787 (by decide +kernel) (by decide +kernel), wi_9⟩
theorem fM_25 : ax_FL "RowsIntoPlaneModel" 25 9 15 := ⟨(rn_9, tb_9, 37), rfl, by decide, ax_mem 788 (by decide +kernel) (by decide +kernel), wi_9⟩
theorem fM_28 : ax_FL "RowsIntoPlaneModel" 28 9 16 := ⟨(rn_9, tb_9, 37), rfl, by decide, ax_mem 789 (by decide +kernel) (by decide +kernel), wi_9⟩
theorem fM_31 : ax_FL "RowsIntoPlaneModel" 31 9 18 := ⟨(rn_9, tb_9, 37), rfl, by decide, ax_mem 791 (by decide +kernel) (by decide +kernel), wi_9⟩
theorem fM_34 : ax_FL "RowsIntoPlaneModel" 34 9 19 := ⟨(rn_9, tb_9, 37), rfl, by decide, ax_mem 792 (by decide +kernel) (by decide +kernel), wi_9⟩
theorem fM_37 : ax_FL "RowsIntoPlaneModel" 37 9 20 := ⟨(rn_9, tb_9, 37), rfl, by decide, ax_mem 793 (by decide +kernel) (by decide +kernel), wi_9⟩
theorem fM_40 : ax_FL "RowsIntoPlaneModel" 40 9 21 := ⟨(rn_9, tb_9, 37), rfl, by decide, ax_mem 794 (by decide +kernel) (by decide +kernel), wi_9⟩
theorem fM_43 : ax_FL "RowsIntoPlaneModel" 43 9 22 := ⟨(rn_9, tb_9, 37), rfl, by decide, ax_mem 795 (by decide +kernel) (by decide +kernel), wi_9⟩
theorem fM_46 : ax_FL "RowsIntoPlaneModel" 46 9 23 := ⟨(rn_9, tb_9, 37), rfl, by decide, ax_mem 796 (by decide +kernel) (by decide +kernel), wi_9⟩
theorem fM_49 : ax_FL "RowsIntoPlaneModel" 49 9 28 := ⟨(rn_9, tb_9, 37), rfl, by decide, ax_mem 801 (by decide +kernel) (by decide +kernel), wi_9⟩
theorem fM_52 : ax_FL "RowsIntoPlaneModel" 52 9 29 := ⟨(rn_9, tb_9, 37), rfl, by decide, ax_mem 802 (by decide +kernel) (by decide +kernel), wi_9⟩
theorem fM_55 : ax_FL "RowsIntoPlaneModel" 55 9 31 := ⟨(rn_9, tb_9, 37), rfl, by decide, ax_mem 804 (by decide +kernel) (by decide +kernel), wi_9⟩
theorem fM_58 : ax_FL "RowsIntoPlaneModel" 58 9 32 := ⟨(rn_9, tb_9, 37), rfl, by decide, ax_mem 805 (by decide +kernel) (by decide +kernel), wi_9⟩
theorem fM_61 : ax_FL "RowsIntoPlaneModel" 61 9 35 := ⟨(rn_9, tb_9, 37), rfl, by decide, ax_mem 808 (by decide +kernel) (by decide +kernel), wi_9⟩
theorem fM_64 : ax_FL "RowsIntoPlaneModel" 64 9 33 := ⟨(rn_9, tb_9, 37), rfl, by decide, ax_mem 806 (by decide +kernel) (by decide +kernel), wi_9⟩
theorem fM_80 : ax_FL "RowsIntoPlaneModel" 80 9 0 := ⟨(rn_9, tb_9, 37), rfl, by decide, ax_mem 773 (by decide +kernel) (by decide +kernel), wi_9⟩
theorem fM_83 : ax_FL "RowsIntoPlaneModel" 83 9 1 := ⟨(rn_9, tb_9, 37), rfl, by decide, ax_mem 774 (by decide +kernel) (by decide +kernel), wi_9⟩
theorem fM_86 : ax_FL "RowsIntoPlaneModel" 86 9 2 := ⟨(rn_9, tb_9, 37), rfl, by decide, ax_mem 775 (by decide +kernel) (by decide +kernel), wi_9⟩
theorem fM_89 : ax_FL "RowsIntoPlaneModel" 89 9 4 := ⟨(rn_9, tb_9, 37), rfl, by decide, ax_mem 777 (by decide +kernel) (by decide +kernel), wi_9⟩
theorem fM_92 : ax_FL "RowsIntoPlaneModel" 92 9 3 := ⟨(rn_9, tb_9, 37), rfl, by decide, ax_mem 776 (by decide +kernel) (by decide +kernel), wi_9⟩
theorem fM_113 : ax_FL "RowsIntoPlaneModel" 113 9 7 := ⟨(rn_9, tb_9, 37), rfl, by decide, ax_mem 780 (by decide +kernel) (by decide +kernel), wi_9⟩
theorem fM_116 : ax_FL "RowsIntoPlaneModel" 116 9 10 := ⟨(rn_9, tb_9, 37), rfl, by decide, ax_mem 783 (by decide +kernel) (by decide +kernel), wi_9⟩
theorem fM_119 : ax_FL "RowsIntoPlaneModel" 119 9 11 := ⟨(rn_9, tb_9, 37), rfl, by decide, ax_mem 784 (by decide +kernel) (by decide +kernel), wi_9⟩
theorem fM_136 : ax_FL "RowsIntoPlaneModel" 136 9 8 := ⟨(rn_9, tb_9, 37), rfl, by decide, ax_mem 781 (by decide +kernel) (by decide +kernel), wi_9⟩
theorem fM_139 : ax_FL "RowsIntoPlaneModel" 139 9 13 := ⟨(rn_9, tb_9, 37), rfl, by decide, ax_mem 786 (by decide +kernel) (by decide +kernel), wi_9⟩
theorem fM_156 : ax_FL "RowsIntoPlaneModel" 156 9 17 := ⟨(rn_9, tb_9, 37), rfl, by decide, ax_mem 790 (by decide +kernel) (by decide +kernel), wi_9⟩
theorem fM_184 : ax_FL "RowsIntoPlaneModel" 184 9 24 := ⟨(rn_9, tb_9, 37), rfl, by decide, ax_mem 797 (by decide +kernel) (by decide +kernel), wi_9⟩
theorem fM_187 : ax_FL "RowsIntoPlaneModel" 187 9 26 := ⟨(rn_9, tb_9, 37), rfl, by decide, ax_mem 799 (by decide +kernel) (by decide +kernel), wi_9⟩
theorem fM_197 : ax_FL "RowsIntoPlaneModel" 197 9 25 := ⟨(rn_9, tb_9, 37), rfl, by decide, ax_mem 798 (by decide +kernel) (by decide +kernel), wi_9⟩
theorem fM_228 : ax_FL "RowsIntoPlaneModel" 228 9 27 := ⟨(rn_9, tb_9, 37), rfl, by decide, ax_mem 800 (by decide +kernel) (by decide +kernel), wi_9⟩
theorem fM_245 : ax_FL "RowsIntoPlaneModel" 245 9 30 := ⟨(rn_9, tb_9, 37), rfl, by decide, ax_mem 803 (by decide +kernel) (by decide +kernel), wi_9⟩
theorem fM_275 : ax_FL "RowsIntoPlaneModel" 275 9 34 := ⟨(rn_9, tb_9, 37), rfl, by decide, ax_mem 807 (by decide +kernel) (by decide +kernel), wi_9⟩
theorem fM_286 : ax_FL "RowsIntoPlaneModel" 286 9 36 := ⟨(rn_9, tb_9, 37), rfl, by decide, ax_mem 809 (by decide +kernel) (by decide +kernel), wi_9⟩
theorem pB_72 : ax_FP "RowsIntoPlane$Boarding" 72 0 10 .int := ⟨(rn_0, tb_0, 16), rfl, by decide, ax_mem 264 (by decide +kernel) (by decide +kernel), wi_0, by decide +kernel, by decide +kernel, ⟨ft_0, fo_0⟩, nm_0⟩
theorem pB_73 : ax_FP "RowsIntoPlane$Boarding" 73 0 11 .int := ⟨(rn_0, tb_0, 16), rfl, by decide, ax_mem 265 (by decide +kernel) (by decide +kernel), wi_0, by decide +kernel, by decide +kernel, ⟨ft_0, fo_0⟩, nm_0⟩
theorem pB_85 : ax_FP "RowsIntoPlane$Boarding" 85 0 13 .int := ⟨(rn_0, tb_0, 16), rfl, by decide, ax_mem 267 (by decide +kernel) (by decide +kernel), wi_0, by decide +kernel, by decide +kernel, ⟨ft_0, fo_0⟩, nm_0⟩
theorem pB_88 : ax_FP "RowsIntoPlane$Boarding" 88 0 12 .int := ⟨(rn_0, tb_0, 16), rfl, by decide, ax_mem 266 (by decide +kernel) (by decide +kernel), wi_0, by decide +kernel, by decide +kernel, ⟨ft_0, fo_0⟩, nm_0⟩
theorem pB_99 : ax_FP "RowsIntoPlane$Boarding" 99 0 14 .int := ⟨(rn_0, tb_0, 16), rfl, by decide, ax_mem 268 (by decide +kernel) (by decide +kernel), wi_0, by decide +kernel, by decide +kernel, ⟨ft_0, fo_0⟩, nm_0⟩
theorem pB_102 : ax_FP "RowsIntoPlane$Boarding" 102 0 15 .int := ⟨(rn_0, tb_0, 16), rfl, by decide, ax_mem 269 (by decide +kernel) (by decide +kernel), wi_0, by decide +kernel, by decide +kernel, ⟨ft_0, fo_0⟩, nm_0⟩
theorem pC_7 : ax_FP "RowsIntoPlane$Cabin" 7 1 0 .int := ⟨(rn_1, tb_1, 4), rfl, by decide, ax_mem 89 (by decide +kernel) (by decide +kernel), wi_1, by decide +kernel, by decide +kernel, ⟨ft_1, fo_1⟩, nm_1⟩
theorem pC_13 : ax_FP "RowsIntoPlane$Cabin" 13 1 1 .int := ⟨(rn_1, tb_1, 4), rfl, by decide, ax_mem 93 (by decide +kernel) (by decide +kernel), wi_1, by decide +kernel, by decide +kernel, ⟨ft_1, fo_1⟩, nm_1⟩
theorem pC_16 : ax_FP "RowsIntoPlane$Cabin" 16 1 2 .int := ⟨(rn_1, tb_1, 4), rfl, by decide, ax_mem 95 (by decide +kernel) (by decide +kernel), wi_1, by decide +kernel, by decide +kernel, ⟨ft_1, fo_1⟩, nm_1⟩
theorem pC_19 : ax_FP "RowsIntoPlane$Cabin" 19 1 3 .int := ⟨(rn_1, tb_1, 4), rfl, by decide, ax_mem 97 (by decide +kernel) (by decide +kernel), wi_1, by decide +kernel, by decide +kernel, ⟨ft_1, fo_1⟩, nm_1⟩
theorem pK_19 : ax_FP "RowsIntoPlane$Call" 19 2 2 .int := ⟨(rn_2, tb_2, 3), rfl, by decide, ax_mem 237 (by decide +kernel) (by decide +kernel), wi_2, by decide +kernel, by decide +kernel, ⟨ft_2, fo_2⟩, nm_2⟩
theorem pK_29 : ax_FP "RowsIntoPlane$Call" 29 5 1 .int := ⟨(rn_5, tb_5, 2), rfl, by decide, ax_mem 222 (by decide +kernel) (by decide +kernel), wi_5, by decide +kernel, by decide +kernel, ⟨ft_5, fo_5⟩, nm_5⟩
theorem pI_18 : ax_FP "RowsIntoPlane$Image" 18 3 3 .boolean := ⟨(rn_3, tb_3, 4), rfl, by decide, ax_mem 177 (by decide +kernel) (by decide +kernel), wi_3, by decide +kernel, by decide +kernel, ⟨ft_3, fo_3⟩, nm_3⟩
theorem pI_22 : ax_FP "RowsIntoPlane$Image" 22 7 7 .int := ⟨(rn_7, tb_7, 8), rfl, by decide, ax_mem 145 (by decide +kernel) (by decide +kernel), wi_7, by decide +kernel, by decide +kernel, ⟨ft_7, fo_7⟩, nm_7⟩
theorem pI_28 : ax_FP "RowsIntoPlane$Image" 28 3 2 .int := ⟨(rn_3, tb_3, 4), rfl, by decide, ax_mem 176 (by decide +kernel) (by decide +kernel), wi_3, by decide +kernel, by decide +kernel, ⟨ft_3, fo_3⟩, nm_3⟩
theorem pL_35 : ax_FP "RowsIntoPlane$Leaving" 35 4 5 .int := ⟨(rn_4, tb_4, 9), rfl, by decide, ax_mem 316 (by decide +kernel) (by decide +kernel), wi_4, by decide +kernel, by decide +kernel, ⟨ft_4, fo_4⟩, nm_4⟩
theorem pL_39 : ax_FP "RowsIntoPlane$Leaving" 39 4 6 .int := ⟨(rn_4, tb_4, 9), rfl, by decide, ax_mem 317 (by decide +kernel) (by decide +kernel), wi_4, by decide +kernel, by decide +kernel, ⟨ft_4, fo_4⟩, nm_4⟩
theorem pL_42 : ax_FP "RowsIntoPlane$Leaving" 42 4 7 .int := ⟨(rn_4, tb_4, 9), rfl, by decide, ax_mem 318 (by decide +kernel) (by decide +kernel), wi_4, by decide +kernel, by decide +kernel, ⟨ft_4, fo_4⟩, nm_4⟩
theorem pL_45 : ax_FP "RowsIntoPlane$Leaving" 45 4 8 .int := ⟨(rn_4, tb_4, 9), rfl, by decide, ax_mem 319 (by decide +kernel) (by decide +kernel), wi_4, by decide +kernel, by decide +kernel, ⟨ft_4, fo_4⟩, nm_4⟩
theorem pN_21 : ax_FP "RowsIntoPlane$Line" 21 5 1 .int := ⟨(rn_5, tb_5, 2), rfl, by decide, ax_mem 221 (by decide +kernel) (by decide +kernel), wi_5, by decide +kernel, by decide +kernel, ⟨ft_5, fo_5⟩, nm_5⟩
theorem pG_21 : ax_FP "RowsIntoPlane$Page" 21 6 1 .int := ⟨(rn_6, tb_6, 3), rfl, by decide, ax_mem 198 (by decide +kernel) (by decide +kernel), wi_6, by decide +kernel, by decide +kernel, ⟨ft_6, fo_6⟩, nm_6⟩
theorem pG_25 : ax_FP "RowsIntoPlane$Page" 25 6 2 .int := ⟨(rn_6, tb_6, 3), rfl, by decide, ax_mem 200 (by decide +kernel) (by decide +kernel), wi_6, by decide +kernel, by decide +kernel, ⟨ft_6, fo_6⟩, nm_6⟩
theorem pX_78 : ax_FP "RowsIntoPlane" 78 7 7 .int := ⟨(rn_7, tb_7, 8), rfl, by decide, ax_mem 147 (by decide +kernel) (by decide +kernel), wi_7, by decide +kernel, by decide +kernel, ⟨ft_7, fo_7⟩, nm_7⟩
theorem pX_82 : ax_FP "RowsIntoPlane" 82 3 3 .boolean := ⟨(rn_3, tb_3, 4), rfl, by decide, ax_mem 178 (by decide +kernel) (by decide +kernel), wi_3, by decide +kernel, by decide +kernel, ⟨ft_3, fo_3⟩, nm_3⟩
theorem pX_138 : ax_FP "RowsIntoPlane" 138 6 1 .int := ⟨(rn_6, tb_6, 3), rfl, by decide, ax_mem 199 (by decide +kernel) (by decide +kernel), wi_6, by decide +kernel, by decide +kernel, ⟨ft_6, fo_6⟩, nm_6⟩
theorem pX_149 : ax_FP "RowsIntoPlane" 149 8 9 .int := ⟨(rn_8, tb_8, 11), rfl, by decide, ax_mem 350 (by decide +kernel) (by decide +kernel), wi_8, by decide +kernel, by decide +kernel, ⟨ft_8, fo_8⟩, nm_8⟩
theorem pX_188 : ax_FP "RowsIntoPlane" 188 8 10 .int := ⟨(rn_8, tb_8, 11), rfl, by decide, ax_mem 351 (by decide +kernel) (by decide +kernel), wi_8, by decide +kernel, by decide +kernel, ⟨ft_8, fo_8⟩, nm_8⟩
theorem pM_64 : ax_FP "RowsIntoPlaneModel" 64 9 33 .int := ⟨(rn_9, tb_9, 37), rfl, by decide, ax_mem 806 (by decide +kernel) (by decide +kernel), wi_9, by decide +kernel, by decide +kernel, ⟨ft_9, fo_9⟩, nm_9⟩
theorem pM_80 : ax_FP "RowsIntoPlaneModel" 80 9 0 .int := ⟨(rn_9, tb_9, 37), rfl, by decide, ax_mem 773 (by decide +kernel) (by decide +kernel), wi_9, by decide +kernel, by decide +kernel, ⟨ft_9, fo_9⟩, nm_9⟩
theorem pM_83 : ax_FP "RowsIntoPlaneModel" 83 9 1 .int := ⟨(rn_9, tb_9, 37), rfl, by decide, ax_mem 774 (by decide +kernel) (by decide +kernel), wi_9, by decide +kernel, by decide +kernel, ⟨ft_9, fo_9⟩, nm_9⟩
theorem pM_86 : ax_FP "RowsIntoPlaneModel" 86 9 2 .int := ⟨(rn_9, tb_9, 37), rfl, by decide, ax_mem 775 (by decide +kernel) (by decide +kernel), wi_9, by decide +kernel, by decide +kernel, ⟨ft_9, fo_9⟩, nm_9⟩
theorem pM_89 : ax_FP "RowsIntoPlaneModel" 89 9 4 .int := ⟨(rn_9, tb_9, 37), rfl, by decide, ax_mem 777 (by decide +kernel) (by decide +kernel), wi_9, by decide +kernel, by decide +kernel, ⟨ft_9, fo_9⟩, nm_9⟩
theorem pM_92 : ax_FP "RowsIntoPlaneModel" 92 9 3 .int := ⟨(rn_9, tb_9, 37), rfl, by decide, ax_mem 776 (by decide +kernel) (by decide +kernel), wi_9, by decide +kernel, by decide +kernel, ⟨ft_9, fo_9⟩, nm_9⟩
theorem pM_113 : ax_FP "RowsIntoPlaneModel" 113 9 7 .int := ⟨(rn_9, tb_9, 37), rfl, by decide, ax_mem 780 (by decide +kernel) (by decide +kernel), wi_9, by decide +kernel, by decide +kernel, ⟨ft_9, fo_9⟩, nm_9⟩
theorem pM_116 : ax_FP "RowsIntoPlaneModel" 116 9 10 .int := ⟨(rn_9, tb_9, 37), rfl, by decide, ax_mem 783 (by decide +kernel) (by decide +kernel), wi_9, by decide +kernel, by decide +kernel, ⟨ft_9, fo_9⟩, nm_9⟩
theorem pM_119 : ax_FP "RowsIntoPlaneModel" 119 9 11 .int := ⟨(rn_9, tb_9, 37), rfl, by decide, ax_mem 784 (by decide +kernel) (by decide +kernel), wi_9, by decide +kernel, by decide +kernel, ⟨ft_9, fo_9⟩, nm_9⟩
theorem pM_136 : ax_FP "RowsIntoPlaneModel" 136 9 8 .int := ⟨(rn_9, tb_9, 37), rfl, by decide, ax_mem 781 (by decide +kernel) (by decide +kernel), wi_9, by decide +kernel, by decide +kernel, ⟨ft_9, fo_9⟩, nm_9⟩
theorem pM_139 : ax_FP "RowsIntoPlaneModel" 139 9 13 .int := ⟨(rn_9, tb_9, 37), rfl, by decide, ax_mem 786 (by decide +kernel) (by decide +kernel), wi_9, by decide +kernel, by decide +kernel, ⟨ft_9, fo_9⟩, nm_9⟩
theorem pM_156 : ax_FP "RowsIntoPlaneModel" 156 9 17 .int := ⟨(rn_9, tb_9, 37), rfl, by decide, ax_mem 790 (by decide +kernel) (by decide +kernel), wi_9, by decide +kernel, by decide +kernel, ⟨ft_9, fo_9⟩, nm_9⟩
theorem pM_184 : ax_FP "RowsIntoPlaneModel" 184 9 24 .int := ⟨(rn_9, tb_9, 37), rfl, by decide, ax_mem 797 (by decide +kernel) (by decide +kernel), wi_9, by decide +kernel, by decide +kernel, ⟨ft_9, fo_9⟩, nm_9⟩
theorem pM_187 : ax_FP "RowsIntoPlaneModel" 187 9 26 .int := ⟨(rn_9, tb_9, 37), rfl, by decide, ax_mem 799 (by decide +kernel) (by decide +kernel), wi_9, by decide +kernel, by decide +kernel, ⟨ft_9, fo_9⟩, nm_9⟩
theorem pM_197 : ax_FP "RowsIntoPlaneModel" 197 9 25 .int := ⟨(rn_9, tb_9, 37), rfl, by decide, ax_mem 798 (by decide +kernel) (by decide +kernel), wi_9, by decide +kernel, by decide +kernel, ⟨ft_9, fo_9⟩, nm_9⟩
theorem pM_228 : ax_FP "RowsIntoPlaneModel" 228 9 27 .int := ⟨(rn_9, tb_9, 37), rfl, by decide, ax_mem 800 (by decide +kernel) (by decide +kernel), wi_9, by decide +kernel, by decide +kernel, ⟨ft_9, fo_9⟩, nm_9⟩
theorem pM_245 : ax_FP "RowsIntoPlaneModel" 245 9 30 .int := ⟨(rn_9, tb_9, 37), rfl, by decide, ax_mem 803 (by decide +kernel) (by decide +kernel), wi_9, by decide +kernel, by decide +kernel, ⟨ft_9, fo_9⟩, nm_9⟩
theorem pM_275 : ax_FP "RowsIntoPlaneModel" 275 9 34 .int := ⟨(rn_9, tb_9, 37), rfl, by decide, ax_mem 807 (by decide +kernel) (by decide +kernel), wi_9, by decide +kernel, by decide +kernel, ⟨ft_9, fo_9⟩, nm_9⟩
theorem pM_286 : ax_FP "RowsIntoPlaneModel" 286 9 36 .long := ⟨(rn_9, tb_9, 37), rfl, by decide, ax_mem 809 (by decide +kernel) (by decide +kernel), wi_9, by decide +kernel, by decide +kernel, ⟨ft_9, fo_9⟩, nm_9⟩
theorem nN_39 : Cond.constantLong "RowsIntoPlane$Line" 39 (Int64.ofInt 1103515245) ∈ ax_Ts := ax_mem 674 (by decide +kernel) (by decide +kernel)
theorem nN_41 : Cond.constantLong "RowsIntoPlane$Line" 41 (Int64.ofInt 12345) ∈ ax_Ts := ax_mem 675 (by decide +kernel) (by decide +kernel)
theorem nN_43 : Cond.constantLong "RowsIntoPlane$Line" 43 (Int64.ofInt 2147483648) ∈ ax_Ts := ax_mem 676 (by decide +kernel) (by decide +kernel)
theorem nN_45 : Cond.constantLong "RowsIntoPlane$Line" 45 (Int64.ofInt 65536) ∈ ax_Ts := ax_mem 677 (by decide +kernel) (by decide +kernel)
theorem nG_19 : Cond.constantLong "RowsIntoPlane$Page" 19 (Int64.ofInt 255) ∈ ax_Ts := ax_mem 441 (by decide +kernel) (by decide +kernel)
theorem nX_257 : Cond.constantLong "RowsIntoPlane" 257 (Int64.ofInt 523) ∈ ax_Ts := ax_mem 757 (by decide +kernel) (by decide +kernel)
theorem nX_259 : Cond.constantLong "RowsIntoPlane" 259 (Int64.ofInt 31) ∈ ax_Ts := ax_mem 758 (by decide +kernel) (by decide +kernel)
theorem nM_68 : Cond.constantLong "RowsIntoPlaneModel" 68 (Int64.ofInt 2) ∈ ax_Ts := ax_mem 889 (by decide +kernel) (by decide +kernel)
theorem nM_70 : Cond.constantLong "RowsIntoPlaneModel" 70 (Int64.ofInt 12) ∈ ax_Ts := ax_mem 890 (by decide +kernel) (by decide +kernel)
theorem nM_76 : Cond.constantLong "RowsIntoPlaneModel" 76 (Int64.ofInt 3) ∈ ax_Ts := ax_mem 894 (by decide +kernel) (by decide +kernel)
theorem nM_78 : Cond.constantLong "RowsIntoPlaneModel" 78 (Int64.ofInt 6) ∈ ax_Ts := ax_mem 895 (by decide +kernel) (by decide +kernel)
theorem nM_103 : Cond.constantLong "RowsIntoPlaneModel" 103 (Int64.ofInt 999) ∈ ax_Ts := ax_mem 908 (by decide +kernel) (by decide +kernel)
theorem nM_109 : Cond.constantLong "RowsIntoPlaneModel" 109 (Int64.ofInt 5) ∈ ax_Ts := ax_mem 925 (by decide +kernel) (by decide +kernel)
theorem nM_111 : Cond.constantLong "RowsIntoPlaneModel" 111 (Int64.ofInt 255) ∈ ax_Ts := ax_mem 930 (by decide +kernel) (by decide +kernel)
theorem nM_122 : Cond.constantLong "RowsIntoPlaneModel" 122 (Int64.ofInt 49) ∈ ax_Ts := ax_mem 947 (by decide +kernel) (by decide +kernel)
theorem nM_124 : Cond.constantLong "RowsIntoPlaneModel" 124 (Int64.ofInt 57) ∈ ax_Ts := ax_mem 948 (by decide +kernel) (by decide +kernel)
theorem nM_172 : Cond.constantLong "RowsIntoPlaneModel" 172 (Int64.ofInt 11) ∈ ax_Ts := ax_mem 964 (by decide +kernel) (by decide +kernel)
theorem nM_219 : Cond.constantLong "RowsIntoPlaneModel" 219 (Int64.ofInt 4) ∈ ax_Ts := ax_mem 1044 (by decide +kernel) (by decide +kernel)
theorem nM_221 : Cond.constant "RowsIntoPlaneModel" 221 (Int32.ofInt 1000000) ∈ ax_Ts := ax_mem 1057 (by decide +kernel) (by decide +kernel)
theorem nM_243 : Cond.constantLong "RowsIntoPlaneModel" 243 (Int64.ofInt 1103515245) ∈ ax_Ts := ax_mem 1111 (by decide +kernel) (by decide +kernel)
theorem nM_248 : Cond.constantLong "RowsIntoPlaneModel" 248 (Int64.ofInt 12345) ∈ ax_Ts := ax_mem 1112 (by decide +kernel) (by decide +kernel)
theorem nM_250 : Cond.constantLong "RowsIntoPlaneModel" 250 (Int64.ofInt 2147483647) ∈ ax_Ts := ax_mem 1113 (by decide +kernel) (by decide +kernel)
theorem nM_252 : Cond.constant "RowsIntoPlaneModel" 252 (Int32.ofInt 65536) ∈ ax_Ts := ax_mem 1114 (by decide +kernel) (by decide +kernel)
theorem nM_256 : Cond.constantLong "RowsIntoPlaneModel" 256 (Int64.ofInt 9) ∈ ax_Ts := ax_mem 1102 (by decide +kernel) (by decide +kernel)
theorem nM_273 : Cond.constantLong "RowsIntoPlaneModel" 273 (Int64.ofInt 99) ∈ ax_Ts := ax_mem 1147 (by decide +kernel) (by decide +kernel)
theorem nM_284 : Cond.constantLong "RowsIntoPlaneModel" 284 (Int64.ofInt 31) ∈ ax_Ts := ax_mem 1177 (by decide +kernel) (by decide +kernel)
theorem nM_294 : Cond.constantLong "RowsIntoPlaneModel" 294 (Int64.ofInt 523) ∈ ax_Ts := ax_mem 1172 (by decide +kernel) (by decide +kernel)
theorem wB_openWhole : Cond.code yB_openWhole bB_openWhole 4 none ∈ ax_Ts := ax_mem 539 (by decide +kernel) (by decide +kernel)
theorem wvB_openWhole : Cond.instanceMethod yB_openWhole ∈ ax_Ts ∧ Cond.selects yB_openWhole.cls yB_openWhole yB_openWhole ∈ ax_Ts ∧ Cond.initialized yB_openWhole.cls ∈ ax_Ts := ⟨ax_mem 537 (by decide +kernel) (by decide +kernel), ax_mem 538 (by decide +kernel) (by decide +kernel), ax_mem 70 (by decide +kernel) (by decide +kernel)⟩
theorem wB_openFront : Cond.code yB_openFront bB_openFront 3 none ∈ ax_Ts := ax_mem 655 (by decide +kernel) (by decide +kernel)
theorem wvB_openFront : Cond.instanceMethod yB_openFront ∈ ax_Ts ∧ Cond.selects yB_openFront.cls yB_openFront yB_openFront ∈ ax_Ts ∧ Cond.initialized yB_openFront.cls ∈ ax_Ts := ⟨ax_mem 653 (by decide +kernel) (by decide +kernel), ax_mem 654 (by decide +kernel) (by decide +kernel), ax_mem 70 (by decide +kernel) (by decide +kernel)⟩
theorem wB_openBack : Cond.code yB_openBack bB_openBack 4 none ∈ ax_Ts := ax_mem 664 (by decide +kernel) (by decide +kernel)
theorem wvB_openBack : Cond.instanceMethod yB_openBack ∈ ax_Ts ∧ Cond.selects yB_openBack.cls yB_openBack yB_openBack ∈ ax_Ts ∧ Cond.initialized yB_openBack.cls ∈ ax_Ts := ⟨ax_mem 662 (by decide +kernel) (by decide +kernel), ax_mem 663 (by decide +kernel) (by decide +kernel), ax_mem 70 (by decide +kernel) (by decide +kernel)⟩
theorem wB_open : Cond.code yB_open bB_open 5 none ∈ ax_Ts := ax_mem 543 (by decide +kernel) (by decide +kernel)
theorem wvB_open : Cond.instanceMethod yB_open ∈ ax_Ts ∧ Cond.selects yB_open.cls yB_open yB_open ∈ ax_Ts ∧ Cond.initialized yB_open.cls ∈ ax_Ts := ⟨ax_mem 542 (by decide +kernel) (by decide +kernel), ax_mem 7 (by decide +kernel) (by decide +kernel), ax_mem 70 (by decide +kernel) (by decide +kernel)⟩
theorem wB_isThrough : Cond.code yB_isThrough bB_isThrough 3 (some .boolean) ∈ ax_Ts := ax_mem 619 (by decide +kernel) (by decide +kernel)
theorem wvB_isThrough : Cond.instanceMethod yB_isThrough ∈ ax_Ts ∧ Cond.selects yB_isThrough.cls yB_isThrough yB_isThrough ∈ ax_Ts ∧ Cond.initialized yB_isThrough.cls ∈ ax_Ts := ⟨ax_mem 617 (by decide +kernel) (by decide +kernel), ax_mem 618 (by decide +kernel) (by decide +kernel), ax_mem 70 (by decide +kernel) (by decide +kernel)⟩
theorem wB_run : Cond.code yB_run bB_run 6 none ∈ ax_Ts := ax_mem 548 (by decide +kernel) (by decide +kernel)
theorem wvB_run : Cond.instanceMethod yB_run ∈ ax_Ts ∧ Cond.selects yB_run.cls yB_run yB_run ∈ ax_Ts ∧ Cond.initialized yB_run.cls ∈ ax_Ts := ⟨ax_mem 546 (by decide +kernel) (by decide +kernel), ax_mem 547 (by decide +kernel) (by decide +kernel), ax_mem 70 (by decide +kernel) (by decide +kernel)⟩
theorem wB_begin : Cond.code yB_begin bB_begin 5 none ∈ ax_Ts := ax_mem 552 (by decide +kernel) (by decide +kernel)
theorem wvB_begin : Cond.instanceMethod yB_begin ∈ ax_Ts ∧ Cond.selects yB_begin.cls yB_begin yB_begin ∈ ax_Ts ∧ Cond.initialized yB_begin.cls ∈ ax_Ts := ⟨ax_mem 551 (by decide +kernel) (by decide +kernel), ax_mem 8 (by decide +kernel) (by decide +kernel), ax_mem 70 (by decide +kernel) (by decide +kernel)⟩
theorem wB_goOn : Cond.code yB_goOn bB_goOn 4 none ∈ ax_Ts := ax_mem 556 (by decide +kernel) (by decide +kernel)
theorem wvB_goOn : Cond.instanceMethod yB_goOn ∈ ax_Ts ∧ Cond.selects yB_goOn.cls yB_goOn yB_goOn ∈ ax_Ts ∧ Cond.initialized yB_goOn.cls ∈ ax_Ts := ⟨ax_mem 555 (by decide +kernel) (by decide +kernel), ax_mem 9 (by decide +kernel) (by decide +kernel), ax_mem 70 (by decide +kernel) (by decide +kernel)⟩
theorem wB_sitIfReady : Cond.code yB_sitIfReady bB_sitIfReady 4 none ∈ ax_Ts := ax_mem 560 (by decide +kernel) (by decide +kernel)
theorem wvB_sitIfReady : Cond.instanceMethod yB_sitIfReady ∈ ax_Ts ∧ Cond.selects yB_sitIfReady.cls yB_sitIfReady yB_sitIfReady ∈ ax_Ts ∧ Cond.initialized yB_sitIfReady.cls ∈ ax_Ts := ⟨ax_mem 559 (by decide +kernel) (by decide +kernel), ax_mem 10 (by decide +kernel) (by decide +kernel), ax_mem 70 (by decide +kernel) (by decide +kernel)⟩
theorem wB_timeToSit : Cond.code yB_timeToSit bB_timeToSit 5 (some .int) ∈ ax_Ts := ax_mem 564 (by decide +kernel) (by decide +kernel)
theorem wvB_timeToSit : Cond.instanceMethod yB_timeToSit ∈ ax_Ts ∧ Cond.selects yB_timeToSit.cls yB_timeToSit yB_timeToSit ∈ ax_Ts ∧ Cond.initialized yB_timeToSit.cls ∈ ax_Ts := ⟨ax_mem 563 (by decide +kernel) (by decide +kernel), ax_mem 11 (by decide +kernel) (by decide +kernel), ax_mem 70 (by decide +kernel) (by decide +kernel)⟩
theorem wB_inTheWayOf : Cond.code yB_inTheWayOf bB_inTheWayOf 5 (some .int) ∈ ax_Ts := ax_mem 568 (by decide +kernel) (by decide +kernel)
theorem wvB_inTheWayOf : Cond.instanceMethod yB_inTheWayOf ∈ ax_Ts ∧ Cond.selects yB_inTheWayOf.cls yB_inTheWayOf yB_inTheWayOf ∈ ax_Ts ∧ Cond.initialized yB_inTheWayOf.cls ∈ ax_Ts := ⟨ax_mem 567 (by decide +kernel) (by decide +kernel), ax_mem 12 (by decide +kernel) (by decide +kernel), ax_mem 70 (by decide +kernel) (by decide +kernel)⟩
theorem wB_nearestBin : Cond.code yB_nearestBin bB_nearestBin 3 (some .int) ∈ ax_Ts := ax_mem 572 (by decide +kernel) (by decide +kernel)
theorem wvB_nearestBin : Cond.instanceMethod yB_nearestBin ∈ ax_Ts ∧ Cond.selects yB_nearestBin.cls yB_nearestBin yB_nearestBin ∈ ax_Ts ∧ Cond.initialized yB_nearestBin.cls ∈ ax_Ts := ⟨ax_mem 571 (by decide +kernel) (by decide +kernel), ax_mem 13 (by decide +kernel) (by decide +kernel), ax_mem 70 (by decide +kernel) (by decide +kernel)⟩
theorem wB_tell : Cond.code yB_tell bB_tell 4 (some .int) ∈ ax_Ts := ax_mem 579 (by decide +kernel) (by decide +kernel)
theorem wvB_tell : Cond.instanceMethod yB_tell ∈ ax_Ts ∧ Cond.selects yB_tell.cls yB_tell yB_tell ∈ ax_Ts ∧ Cond.initialized yB_tell.cls ∈ ax_Ts := ⟨ax_mem 577 (by decide +kernel) (by decide +kernel), ax_mem 578 (by decide +kernel) (by decide +kernel), ax_mem 70 (by decide +kernel) (by decide +kernel)⟩
theorem wB_tellOf : Cond.code yB_tellOf bB_tellOf 3 (some .int) ∈ ax_Ts := ax_mem 587 (by decide +kernel) (by decide +kernel)
theorem wvB_tellOf : Cond.instanceMethod yB_tellOf ∈ ax_Ts ∧ Cond.selects yB_tellOf.cls yB_tellOf yB_tellOf ∈ ax_Ts ∧ Cond.initialized yB_tellOf.cls ∈ ax_Ts := ⟨ax_mem 585 (by decide +kernel) (by decide +kernel), ax_mem 586 (by decide +kernel) (by decide +kernel), ax_mem 70 (by decide +kernel) (by decide +kernel)⟩
theorem wC_build : Cond.code yC_build bC_build 4 none ∈ ax_Ts := ax_mem 385 (by decide +kernel) (by decide +kernel)
theorem wvC_build : Cond.instanceMethod yC_build ∈ ax_Ts ∧ Cond.selects yC_build.cls yC_build yC_build ∈ ax_Ts ∧ Cond.initialized yC_build.cls ∈ ax_Ts := ⟨ax_mem 383 (by decide +kernel) (by decide +kernel), ax_mem 384 (by decide +kernel) (by decide +kernel), ax_mem 64 (by decide +kernel) (by decide +kernel)⟩
theorem wC_isMissing : Cond.code yC_isMissing bC_isMissing 1 (some .boolean) ∈ ax_Ts := ax_mem 397 (by decide +kernel) (by decide +kernel)
theorem wvC_isMissing : Cond.instanceMethod yC_isMissing ∈ ax_Ts ∧ Cond.selects yC_isMissing.cls yC_isMissing yC_isMissing ∈ ax_Ts ∧ Cond.initialized yC_isMissing.cls ∈ ax_Ts := ⟨ax_mem 395 (by decide +kernel) (by decide +kernel), ax_mem 396 (by decide +kernel) (by decide +kernel), ax_mem 64 (by decide +kernel) (by decide +kernel)⟩
theorem wC_seats : Cond.code yC_seats bC_seats 1 (some .int) ∈ ax_Ts := ax_mem 389 (by decide +kernel) (by decide +kernel)
theorem wvC_seats : Cond.instanceMethod yC_seats ∈ ax_Ts ∧ Cond.selects yC_seats.cls yC_seats yC_seats ∈ ax_Ts ∧ Cond.initialized yC_seats.cls ∈ ax_Ts := ⟨ax_mem 387 (by decide +kernel) (by decide +kernel), ax_mem 388 (by decide +kernel) (by decide +kernel), ax_mem 64 (by decide +kernel) (by decide +kernel)⟩
theorem wC_hasSeat : Cond.code yC_hasSeat bC_hasSeat 4 (some .boolean) ∈ ax_Ts := ax_mem 405 (by decide +kernel) (by decide +kernel)
theorem wvC_hasSeat : Cond.instanceMethod yC_hasSeat ∈ ax_Ts ∧ Cond.selects yC_hasSeat.cls yC_hasSeat yC_hasSeat ∈ ax_Ts ∧ Cond.initialized yC_hasSeat.cls ∈ ax_Ts := ⟨ax_mem 403 (by decide +kernel) (by decide +kernel), ax_mem 404 (by decide +kernel) (by decide +kernel), ax_mem 64 (by decide +kernel) (by decide +kernel)⟩
theorem wC_frontRows : Cond.code yC_frontRows bC_frontRows 1 (some .int) ∈ ax_Ts := ax_mem 660 (by decide +kernel) (by decide +kernel)
theorem wvC_frontRows : Cond.instanceMethod yC_frontRows ∈ ax_Ts ∧ Cond.selects yC_frontRows.cls yC_frontRows yC_frontRows ∈ ax_Ts ∧ Cond.initialized yC_frontRows.cls ∈ ax_Ts := ⟨ax_mem 658 (by decide +kernel) (by decide +kernel), ax_mem 659 (by decide +kernel) (by decide +kernel), ax_mem 64 (by decide +kernel) (by decide +kernel)⟩
theorem wK_read : Cond.code yK_read bK_read 4 none ∈ ax_Ts := ax_mem 477 (by decide +kernel) (by decide +kernel)
theorem wvK_read : Cond.instanceMethod yK_read ∈ ax_Ts ∧ Cond.selects yK_read.cls yK_read yK_read ∈ ax_Ts ∧ Cond.initialized yK_read.cls ∈ ax_Ts := ⟨ax_mem 475 (by decide +kernel) (by decide +kernel), ax_mem 476 (by decide +kernel) (by decide +kernel), ax_mem 69 (by decide +kernel) (by decide +kernel)⟩
theorem wK_arrange : Cond.code yK_arrange bK_arrange 7 none ∈ ax_Ts := ax_mem 497 (by decide +kernel) (by decide +kernel)
theorem wvK_arrange : Cond.instanceMethod yK_arrange ∈ ax_Ts ∧ Cond.selects yK_arrange.cls yK_arrange yK_arrange ∈ ax_Ts ∧ Cond.initialized yK_arrange.cls ∈ ax_Ts := ⟨ax_mem 495 (by decide +kernel) (by decide +kernel), ax_mem 496 (by decide +kernel) (by decide +kernel), ax_mem 69 (by decide +kernel) (by decide +kernel)⟩
theorem wK_isAhead : Cond.code yK_isAhead bK_isAhead 11 (some .boolean) ∈ ax_Ts := ax_mem 501 (by decide +kernel) (by decide +kernel)
theorem wvK_isAhead : Cond.instanceMethod yK_isAhead ∈ ax_Ts ∧ Cond.selects yK_isAhead.cls yK_isAhead yK_isAhead ∈ ax_Ts ∧ Cond.initialized yK_isAhead.cls ∈ ax_Ts := ⟨ax_mem 500 (by decide +kernel) (by decide +kernel), ax_mem 4 (by decide +kernel) (by decide +kernel), ax_mem 69 (by decide +kernel) (by decide +kernel)⟩
theorem wK_rankOf : Cond.code yK_rankOf bK_rankOf 1 (some .int) ∈ ax_Ts := ax_mem 504 (by decide +kernel) (by decide +kernel)
theorem wvK_rankOf : Cond.static yK_rankOf ∈ ax_Ts ∧ Cond.initialized yK_rankOf.cls ∈ ax_Ts := ⟨ax_mem 503 (by decide +kernel) (by decide +kernel), ax_mem 69 (by decide +kernel) (by decide +kernel)⟩
theorem wK_valueOf : Cond.code yK_valueOf bK_valueOf 7 (some .int) ∈ ax_Ts := ax_mem 508 (by decide +kernel) (by decide +kernel)
theorem wvK_valueOf : Cond.instanceMethod yK_valueOf ∈ ax_Ts ∧ Cond.selects yK_valueOf.cls yK_valueOf yK_valueOf ∈ ax_Ts ∧ Cond.initialized yK_valueOf.cls ∈ ax_Ts := ⟨ax_mem 507 (by decide +kernel) (by decide +kernel), ax_mem 5 (by decide +kernel) (by decide +kernel), ax_mem 69 (by decide +kernel) (by decide +kernel)⟩
theorem wI_keep : Cond.code yI_keep bI_keep 2 none ∈ ax_Ts := ax_mem 735 (by decide +kernel) (by decide +kernel)
theorem wvI_keep : Cond.instanceMethod yI_keep ∈ ax_Ts ∧ Cond.selects yI_keep.cls yI_keep yI_keep ∈ ax_Ts ∧ Cond.initialized yI_keep.cls ∈ ax_Ts := ⟨ax_mem 733 (by decide +kernel) (by decide +kernel), ax_mem 734 (by decide +kernel) (by decide +kernel), ax_mem 66 (by decide +kernel) (by decide +kernel)⟩
theorem wI_giveBack : Cond.code yI_giveBack bI_giveBack 2 none ∈ ax_Ts := ax_mem 744 (by decide +kernel) (by decide +kernel)
theorem wvI_giveBack : Cond.instanceMethod yI_giveBack ∈ ax_Ts ∧ Cond.selects yI_giveBack.cls yI_giveBack yI_giveBack ∈ ax_Ts ∧ Cond.initialized yI_giveBack.cls ∈ ax_Ts := ⟨ax_mem 742 (by decide +kernel) (by decide +kernel), ax_mem 743 (by decide +kernel) (by decide +kernel), ax_mem 66 (by decide +kernel) (by decide +kernel)⟩
theorem wL_run : Cond.code yL_run bL_run 4 none ∈ ax_Ts := ax_mem 686 (by decide +kernel) (by decide +kernel)
theorem wvL_run : Cond.instanceMethod yL_run ∈ ax_Ts ∧ Cond.selects yL_run.cls yL_run yL_run ∈ ax_Ts ∧ Cond.initialized yL_run.cls ∈ ax_Ts := ⟨ax_mem 684 (by decide +kernel) (by decide +kernel), ax_mem 685 (by decide +kernel) (by decide +kernel), ax_mem 71 (by decide +kernel) (by decide +kernel)⟩
theorem wL_goOn : Cond.code yL_goOn bL_goOn 4 none ∈ ax_Ts := ax_mem 691 (by decide +kernel) (by decide +kernel)
theorem wvL_goOn : Cond.instanceMethod yL_goOn ∈ ax_Ts ∧ Cond.selects yL_goOn.cls yL_goOn yL_goOn ∈ ax_Ts ∧ Cond.initialized yL_goOn.cls ∈ ax_Ts := ⟨ax_mem 690 (by decide +kernel) (by decide +kernel), ax_mem 16 (by decide +kernel) (by decide +kernel), ax_mem 71 (by decide +kernel) (by decide +kernel)⟩
theorem wL_getUp : Cond.code yL_getUp bL_getUp 4 none ∈ ax_Ts := ax_mem 695 (by decide +kernel) (by decide +kernel)
theorem wvL_getUp : Cond.instanceMethod yL_getUp ∈ ax_Ts ∧ Cond.selects yL_getUp.cls yL_getUp yL_getUp ∈ ax_Ts ∧ Cond.initialized yL_getUp.cls ∈ ax_Ts := ⟨ax_mem 694 (by decide +kernel) (by decide +kernel), ax_mem 17 (by decide +kernel) (by decide +kernel), ax_mem 71 (by decide +kernel) (by decide +kernel)⟩
theorem wL_leastTurn : Cond.code yL_leastTurn bL_leastTurn 3 (some .int) ∈ ax_Ts := ax_mem 699 (by decide +kernel) (by decide +kernel)
theorem wvL_leastTurn : Cond.instanceMethod yL_leastTurn ∈ ax_Ts ∧ Cond.selects yL_leastTurn.cls yL_leastTurn yL_leastTurn ∈ ax_Ts ∧ Cond.initialized yL_leastTurn.cls ∈ ax_Ts := ⟨ax_mem 698 (by decide +kernel) (by decide +kernel), ax_mem 18 (by decide +kernel) (by decide +kernel), ax_mem 71 (by decide +kernel) (by decide +kernel)⟩
theorem wL_turnOf : Cond.code yL_turnOf bL_turnOf 2 (some .int) ∈ ax_Ts := ax_mem 703 (by decide +kernel) (by decide +kernel)
theorem wvL_turnOf : Cond.instanceMethod yL_turnOf ∈ ax_Ts ∧ Cond.selects yL_turnOf.cls yL_turnOf yL_turnOf ∈ ax_Ts ∧ Cond.initialized yL_turnOf.cls ∈ ax_Ts := ⟨ax_mem 702 (by decide +kernel) (by decide +kernel), ax_mem 19 (by decide +kernel) (by decide +kernel), ax_mem 71 (by decide +kernel) (by decide +kernel)⟩
theorem wL_nextOf : Cond.code yL_nextOf bL_nextOf 5 (some .int) ∈ ax_Ts := ax_mem 707 (by decide +kernel) (by decide +kernel)
theorem wvL_nextOf : Cond.instanceMethod yL_nextOf ∈ ax_Ts ∧ Cond.selects yL_nextOf.cls yL_nextOf yL_nextOf ∈ ax_Ts ∧ Cond.initialized yL_nextOf.cls ∈ ax_Ts := ⟨ax_mem 706 (by decide +kernel) (by decide +kernel), ax_mem 20 (by decide +kernel) (by decide +kernel), ax_mem 71 (by decide +kernel) (by decide +kernel)⟩
theorem wL_isNearer : Cond.code yL_isNearer bL_isNearer 3 (some .boolean) ∈ ax_Ts := ax_mem 711 (by decide +kernel) (by decide +kernel)
theorem wvL_isNearer : Cond.instanceMethod yL_isNearer ∈ ax_Ts ∧ Cond.selects yL_isNearer.cls yL_isNearer yL_isNearer ∈ ax_Ts ∧ Cond.initialized yL_isNearer.cls ∈ ax_Ts := ⟨ax_mem 710 (by decide +kernel) (by decide +kernel), ax_mem 21 (by decide +kernel) (by decide +kernel), ax_mem 71 (by decide +kernel) (by decide +kernel)⟩
theorem wN_byNumber : Cond.code yN_byNumber bN_byNumber 3 none ∈ ax_Ts := ax_mem 607 (by decide +kernel) (by decide +kernel)
theorem wvN_byNumber : Cond.instanceMethod yN_byNumber ∈ ax_Ts ∧ Cond.selects yN_byNumber.cls yN_byNumber yN_byNumber ∈ ax_Ts ∧ Cond.initialized yN_byNumber.cls ∈ ax_Ts := ⟨ax_mem 605 (by decide +kernel) (by decide +kernel), ax_mem 606 (by decide +kernel) (by decide +kernel), ax_mem 68 (by decide +kernel) (by decide +kernel)⟩
theorem wN_copy : Cond.code yN_copy bN_copy 2 none ∈ ax_Ts := ax_mem 612 (by decide +kernel) (by decide +kernel)
theorem wvN_copy : Cond.instanceMethod yN_copy ∈ ax_Ts ∧ Cond.selects yN_copy.cls yN_copy yN_copy ∈ ax_Ts ∧ Cond.initialized yN_copy.cls ∈ ax_Ts := ⟨ax_mem 610 (by decide +kernel) (by decide +kernel), ax_mem 611 (by decide +kernel) (by decide +kernel), ax_mem 68 (by decide +kernel) (by decide +kernel)⟩
theorem wN_placeOf : Cond.code yN_placeOf bN_placeOf 3 (some .int) ∈ ax_Ts := ax_mem 526 (by decide +kernel) (by decide +kernel)
theorem wvN_placeOf : Cond.instanceMethod yN_placeOf ∈ ax_Ts ∧ Cond.selects yN_placeOf.cls yN_placeOf yN_placeOf ∈ ax_Ts ∧ Cond.initialized yN_placeOf.cls ∈ ax_Ts := ⟨ax_mem 524 (by decide +kernel) (by decide +kernel), ax_mem 525 (by decide +kernel) (by decide +kernel), ax_mem 68 (by decide +kernel) (by decide +kernel)⟩
theorem wN_takeOut : Cond.code yN_takeOut bN_takeOut 4 none ∈ ax_Ts := ax_mem 522 (by decide +kernel) (by decide +kernel)
theorem wvN_takeOut : Cond.instanceMethod yN_takeOut ∈ ax_Ts ∧ Cond.selects yN_takeOut.cls yN_takeOut yN_takeOut ∈ ax_Ts ∧ Cond.initialized yN_takeOut.cls ∈ ax_Ts := ⟨ax_mem 520 (by decide +kernel) (by decide +kernel), ax_mem 521 (by decide +kernel) (by decide +kernel), ax_mem 68 (by decide +kernel) (by decide +kernel)⟩
theorem wN_putIn : Cond.code yN_putIn bN_putIn 4 none ∈ ax_Ts := ax_mem 518 (by decide +kernel) (by decide +kernel)
theorem wvN_putIn : Cond.instanceMethod yN_putIn ∈ ax_Ts ∧ Cond.selects yN_putIn.cls yN_putIn yN_putIn ∈ ax_Ts ∧ Cond.initialized yN_putIn.cls ∈ ax_Ts := ⟨ax_mem 516 (by decide +kernel) (by decide +kernel), ax_mem 517 (by decide +kernel) (by decide +kernel), ax_mem 68 (by decide +kernel) (by decide +kernel)⟩
theorem wN_exchange : Cond.code yN_exchange bN_exchange 4 none ∈ ax_Ts := ax_mem 628 (by decide +kernel) (by decide +kernel)
theorem wvN_exchange : Cond.instanceMethod yN_exchange ∈ ax_Ts ∧ Cond.selects yN_exchange.cls yN_exchange yN_exchange ∈ ax_Ts ∧ Cond.initialized yN_exchange.cls ∈ ax_Ts := ⟨ax_mem 626 (by decide +kernel) (by decide +kernel), ax_mem 627 (by decide +kernel) (by decide +kernel), ax_mem 68 (by decide +kernel) (by decide +kernel)⟩
theorem wN_goToNext : Cond.code yN_goToNext bN_goToNext 5 (some .boolean) ∈ ax_Ts := ax_mem 624 (by decide +kernel) (by decide +kernel)
theorem wvN_goToNext : Cond.instanceMethod yN_goToNext ∈ ax_Ts ∧ Cond.selects yN_goToNext.cls yN_goToNext yN_goToNext ∈ ax_Ts ∧ Cond.initialized yN_goToNext.cls ∈ ax_Ts := ⟨ax_mem 622 (by decide +kernel) (by decide +kernel), ax_mem 623 (by decide +kernel) (by decide +kernel), ax_mem 68 (by decide +kernel) (by decide +kernel)⟩
theorem wN_mix : Cond.code yN_mix bN_mix 5 (some .int) ∈ ax_Ts := ax_mem 673 (by decide +kernel) (by decide +kernel)
theorem wvN_mix : Cond.instanceMethod yN_mix ∈ ax_Ts ∧ Cond.selects yN_mix.cls yN_mix yN_mix ∈ ax_Ts ∧ Cond.initialized yN_mix.cls ∈ ax_Ts := ⟨ax_mem 671 (by decide +kernel) (by decide +kernel), ax_mem 672 (by decide +kernel) (by decide +kernel), ax_mem 68 (by decide +kernel) (by decide +kernel)⟩
theorem wG_lettersIn : Cond.code yG_lettersIn bG_lettersIn 6 (some .int) ∈ ax_Ts := ax_mem 437 (by decide +kernel) (by decide +kernel)
theorem wvG_lettersIn : Cond.static yG_lettersIn ∈ ax_Ts ∧ Cond.initialized yG_lettersIn.cls ∈ ax_Ts := ⟨ax_mem 436 (by decide +kernel) (by decide +kernel), ax_mem 67 (by decide +kernel) (by decide +kernel)⟩
theorem wG_codeIn : Cond.code yG_codeIn bG_codeIn 3 (some .int) ∈ ax_Ts := ax_mem 440 (by decide +kernel) (by decide +kernel)
theorem wvG_codeIn : Cond.static yG_codeIn ∈ ax_Ts ∧ Cond.initialized yG_codeIn.cls ∈ ax_Ts := ⟨ax_mem 439 (by decide +kernel) (by decide +kernel), ax_mem 67 (by decide +kernel) (by decide +kernel)⟩
theorem wG_write : Cond.code yG_write bG_write 5 none ∈ ax_Ts := ax_mem 445 (by decide +kernel) (by decide +kernel)
theorem wvG_write : Cond.instanceMethod yG_write ∈ ax_Ts ∧ Cond.selects yG_write.cls yG_write yG_write ∈ ax_Ts ∧ Cond.initialized yG_write.cls ∈ ax_Ts := ⟨ax_mem 443 (by decide +kernel) (by decide +kernel), ax_mem 444 (by decide +kernel) (by decide +kernel), ax_mem 67 (by decide +kernel) (by decide +kernel)⟩
theorem wG_firstFault : Cond.code yG_firstFault bG_firstFault 3 (some .int) ∈ ax_Ts := ax_mem 457 (by decide +kernel) (by decide +kernel)
theorem wvG_firstFault : Cond.instanceMethod yG_firstFault ∈ ax_Ts ∧ Cond.selects yG_firstFault.cls yG_firstFault yG_firstFault ∈ ax_Ts ∧ Cond.initialized yG_firstFault.cls ∈ ax_Ts := ⟨ax_mem 455 (by decide +kernel) (by decide +kernel), ax_mem 456 (by decide +kernel) (by decide +kernel), ax_mem 67 (by decide +kernel) (by decide +kernel)⟩
theorem wG_isCall : Cond.code yG_isCall bG_isCall 1 (some .boolean) ∈ ax_Ts := ax_mem 472 (by decide +kernel) (by decide +kernel)
theorem wvG_isCall : Cond.instanceMethod yG_isCall ∈ ax_Ts ∧ Cond.selects yG_isCall.cls yG_isCall yG_isCall ∈ ax_Ts ∧ Cond.initialized yG_isCall.cls ∈ ax_Ts := ⟨ax_mem 470 (by decide +kernel) (by decide +kernel), ax_mem 471 (by decide +kernel) (by decide +kernel), ax_mem 67 (by decide +kernel) (by decide +kernel)⟩
theorem wG_dueBehind : Cond.code yG_dueBehind bG_dueBehind 3 (some .int) ∈ ax_Ts := ax_mem 461 (by decide +kernel) (by decide +kernel)
theorem wvG_dueBehind : Cond.instanceMethod yG_dueBehind ∈ ax_Ts ∧ Cond.selects yG_dueBehind.cls yG_dueBehind yG_dueBehind ∈ ax_Ts ∧ Cond.initialized yG_dueBehind.cls ∈ ax_Ts := ⟨ax_mem 460 (by decide +kernel) (by decide +kernel), ax_mem 0 (by decide +kernel) (by decide +kernel), ax_mem 67 (by decide +kernel) (by decide +kernel)⟩
theorem wG_dueBehindKey : Cond.code yG_dueBehindKey bG_dueBehindKey 1 (some .int) ∈ ax_Ts := ax_mem 464 (by decide +kernel) (by decide +kernel)
theorem wvG_dueBehindKey : Cond.static yG_dueBehindKey ∈ ax_Ts ∧ Cond.initialized yG_dueBehindKey.cls ∈ ax_Ts := ⟨ax_mem 463 (by decide +kernel) (by decide +kernel), ax_mem 67 (by decide +kernel) (by decide +kernel)⟩
theorem wE_has : Cond.code yE_has bE_has 2 (some .boolean) ∈ ax_Ts := ax_mem 401 (by decide +kernel) (by decide +kernel)
theorem wvE_has : Cond.instanceMethod yE_has ∈ ax_Ts ∧ Cond.selects yE_has.cls yE_has yE_has ∈ ax_Ts ∧ Cond.initialized yE_has.cls ∈ ax_Ts := ⟨ax_mem 399 (by decide +kernel) (by decide +kernel), ax_mem 400 (by decide +kernel) (by decide +kernel), ax_mem 65 (by decide +kernel) (by decide +kernel)⟩
theorem wE_haveSeat : Cond.code yE_haveSeat bE_haveSeat 5 (some .boolean) ∈ ax_Ts := ax_mem 410 (by decide +kernel) (by decide +kernel)
theorem wvE_haveSeat : Cond.instanceMethod yE_haveSeat ∈ ax_Ts ∧ Cond.selects yE_haveSeat.cls yE_haveSeat yE_haveSeat ∈ ax_Ts ∧ Cond.initialized yE_haveSeat.cls ∈ ax_Ts := ⟨ax_mem 408 (by decide +kernel) (by decide +kernel), ax_mem 409 (by decide +kernel) (by decide +kernel), ax_mem 65 (by decide +kernel) (by decide +kernel)⟩
theorem wE_isA : Cond.code yE_isA bE_isA 3 (some .boolean) ∈ ax_Ts := ax_mem 418 (by decide +kernel) (by decide +kernel)
theorem wvE_isA : Cond.instanceMethod yE_isA ∈ ax_Ts ∧ Cond.selects yE_isA.cls yE_isA yE_isA ∈ ax_Ts ∧ Cond.initialized yE_isA.cls ∈ ax_Ts := ⟨ax_mem 416 (by decide +kernel) (by decide +kernel), ax_mem 417 (by decide +kernel) (by decide +kernel), ax_mem 65 (by decide +kernel) (by decide +kernel)⟩
theorem wE_tell : Cond.code yE_tell bE_tell 3 (some .int) ∈ ax_Ts := ax_mem 426 (by decide +kernel) (by decide +kernel)
theorem wvE_tell : Cond.instanceMethod yE_tell ∈ ax_Ts ∧ Cond.selects yE_tell.cls yE_tell yE_tell ∈ ax_Ts ∧ Cond.initialized yE_tell.cls ∈ ax_Ts := ⟨ax_mem 424 (by decide +kernel) (by decide +kernel), ax_mem 425 (by decide +kernel) (by decide +kernel), ax_mem 65 (by decide +kernel) (by decide +kernel)⟩
theorem wE_thatStayFor : Cond.code yE_thatStayFor bE_thatStayFor 4 (some .int) ∈ ax_Ts := ax_mem 727 (by decide +kernel) (by decide +kernel)
theorem wvE_thatStayFor : Cond.instanceMethod yE_thatStayFor ∈ ax_Ts ∧ Cond.selects yE_thatStayFor.cls yE_thatStayFor yE_thatStayFor ∈ ax_Ts ∧ Cond.initialized yE_thatStayFor.cls ∈ ax_Ts := ⟨ax_mem 725 (by decide +kernel) (by decide +kernel), ax_mem 726 (by decide +kernel) (by decide +kernel), ax_mem 65 (by decide +kernel) (by decide +kernel)⟩
theorem wE_bagsOfAll : Cond.code yE_bagsOfAll bE_bagsOfAll 3 (some .int) ∈ ax_Ts := ax_mem 752 (by decide +kernel) (by decide +kernel)
theorem wvE_bagsOfAll : Cond.instanceMethod yE_bagsOfAll ∈ ax_Ts ∧ Cond.selects yE_bagsOfAll.cls yE_bagsOfAll yE_bagsOfAll ∈ ax_Ts ∧ Cond.initialized yE_bagsOfAll.cls ∈ ax_Ts := ⟨ax_mem 750 (by decide +kernel) (by decide +kernel), ax_mem 751 (by decide +kernel) (by decide +kernel), ax_mem 65 (by decide +kernel) (by decide +kernel)⟩
theorem wX_cabin : Cond.code yX_cabin bX_cabin 4 (some .int) ∈ ax_Ts := ax_mem 378 (by decide +kernel) (by decide +kernel)
theorem wvX_cabin : Cond.instanceMethod yX_cabin ∈ ax_Ts ∧ Cond.selects yX_cabin.cls yX_cabin yX_cabin ∈ ax_Ts ∧ Cond.initialized yX_cabin.cls ∈ ax_Ts := ⟨ax_mem 376 (by decide +kernel) (by decide +kernel), ax_mem 377 (by decide +kernel) (by decide +kernel), ax_mem 63 (by decide +kernel) (by decide +kernel)⟩
theorem wX_person : Cond.code yX_person bX_person 9 (some .int) ∈ ax_Ts := ax_mem 393 (by decide +kernel) (by decide +kernel)
theorem wvX_person : Cond.instanceMethod yX_person ∈ ax_Ts ∧ Cond.selects yX_person.cls yX_person yX_person ∈ ax_Ts ∧ Cond.initialized yX_person.cls ∈ ax_Ts := ⟨ax_mem 391 (by decide +kernel) (by decide +kernel), ax_mem 392 (by decide +kernel) (by decide +kernel), ax_mem 63 (by decide +kernel) (by decide +kernel)⟩
theorem wX_as : Cond.code yX_as bX_as 3 (some .int) ∈ ax_Ts := ax_mem 414 (by decide +kernel) (by decide +kernel)
theorem wvX_as : Cond.instanceMethod yX_as ∈ ax_Ts ∧ Cond.selects yX_as.cls yX_as yX_as ∈ ax_Ts ∧ Cond.initialized yX_as.cls ∈ ax_Ts := ⟨ax_mem 412 (by decide +kernel) (by decide +kernel), ax_mem 413 (by decide +kernel) (by decide +kernel), ax_mem 63 (by decide +kernel) (by decide +kernel)⟩
theorem wX_about : Cond.code yX_about bX_about 3 (some .int) ∈ ax_Ts := ax_mem 422 (by decide +kernel) (by decide +kernel)
theorem wvX_about : Cond.instanceMethod yX_about ∈ ax_Ts ∧ Cond.selects yX_about.cls yX_about yX_about ∈ ax_Ts ∧ Cond.initialized yX_about.cls ∈ ax_Ts := ⟨ax_mem 420 (by decide +kernel) (by decide +kernel), ax_mem 421 (by decide +kernel) (by decide +kernel), ax_mem 63 (by decide +kernel) (by decide +kernel)⟩
theorem wX_change : Cond.code yX_change bX_change 5 (some .int) ∈ ax_Ts := ax_mem 430 (by decide +kernel) (by decide +kernel)
theorem wvX_change : Cond.instanceMethod yX_change ∈ ax_Ts ∧ Cond.selects yX_change.cls yX_change yX_change ∈ ax_Ts ∧ Cond.initialized yX_change.cls ∈ ax_Ts := ⟨ax_mem 428 (by decide +kernel) (by decide +kernel), ax_mem 429 (by decide +kernel) (by decide +kernel), ax_mem 63 (by decide +kernel) (by decide +kernel)⟩
theorem wX_letters : Cond.code yX_letters bX_letters 4 (some .int) ∈ ax_Ts := ax_mem 434 (by decide +kernel) (by decide +kernel)
theorem wvX_letters : Cond.instanceMethod yX_letters ∈ ax_Ts ∧ Cond.selects yX_letters.cls yX_letters yX_letters ∈ ax_Ts ∧ Cond.initialized yX_letters.cls ∈ ax_Ts := ⟨ax_mem 432 (by decide +kernel) (by decide +kernel), ax_mem 433 (by decide +kernel) (by decide +kernel), ax_mem 63 (by decide +kernel) (by decide +kernel)⟩
theorem wX_blank : Cond.code yX_blank bX_blank 2 (some .int) ∈ ax_Ts := ax_mem 449 (by decide +kernel) (by decide +kernel)
theorem wvX_blank : Cond.instanceMethod yX_blank ∈ ax_Ts ∧ Cond.selects yX_blank.cls yX_blank yX_blank ∈ ax_Ts ∧ Cond.initialized yX_blank.cls ∈ ax_Ts := ⟨ax_mem 447 (by decide +kernel) (by decide +kernel), ax_mem 448 (by decide +kernel) (by decide +kernel), ax_mem 63 (by decide +kernel) (by decide +kernel)⟩
theorem wX_fault : Cond.code yX_fault bX_fault 1 (some .int) ∈ ax_Ts := ax_mem 453 (by decide +kernel) (by decide +kernel)
theorem wvX_fault : Cond.instanceMethod yX_fault ∈ ax_Ts ∧ Cond.selects yX_fault.cls yX_fault yX_fault ∈ ax_Ts ∧ Cond.initialized yX_fault.cls ∈ ax_Ts := ⟨ax_mem 451 (by decide +kernel) (by decide +kernel), ax_mem 452 (by decide +kernel) (by decide +kernel), ax_mem 63 (by decide +kernel) (by decide +kernel)⟩
theorem wX_call : Cond.code yX_call bX_call 1 (some .int) ∈ ax_Ts := ax_mem 468 (by decide +kernel) (by decide +kernel)
theorem wvX_call : Cond.instanceMethod yX_call ∈ ax_Ts ∧ Cond.selects yX_call.cls yX_call yX_call ∈ ax_Ts ∧ Cond.initialized yX_call.cls ∈ ax_Ts := ⟨ax_mem 466 (by decide +kernel) (by decide +kernel), ax_mem 467 (by decide +kernel) (by decide +kernel), ax_mem 63 (by decide +kernel) (by decide +kernel)⟩
theorem wX_order : Cond.code yX_order bX_order 4 (some .int) ∈ ax_Ts := ax_mem 481 (by decide +kernel) (by decide +kernel)
theorem wvX_order : Cond.instanceMethod yX_order ∈ ax_Ts ∧ Cond.selects yX_order.cls yX_order yX_order ∈ ax_Ts ∧ Cond.initialized yX_order.cls ∈ ax_Ts := ⟨ax_mem 479 (by decide +kernel) (by decide +kernel), ax_mem 480 (by decide +kernel) (by decide +kernel), ax_mem 63 (by decide +kernel) (by decide +kernel)⟩
theorem wX_board : Cond.code yX_board bX_board 4 (some .int) ∈ ax_Ts := ax_mem 531 (by decide +kernel) (by decide +kernel)
theorem wvX_board : Cond.instanceMethod yX_board ∈ ax_Ts ∧ Cond.selects yX_board.cls yX_board yX_board ∈ ax_Ts ∧ Cond.initialized yX_board.cls ∈ ax_Ts := ⟨ax_mem 529 (by decide +kernel) (by decide +kernel), ax_mem 530 (by decide +kernel) (by decide +kernel), ax_mem 63 (by decide +kernel) (by decide +kernel)⟩
theorem wX_sits : Cond.code yX_sits bX_sits 4 (some .int) ∈ ax_Ts := ax_mem 583 (by decide +kernel) (by decide +kernel)
theorem wvX_sits : Cond.instanceMethod yX_sits ∈ ax_Ts ∧ Cond.selects yX_sits.cls yX_sits yX_sits ∈ ax_Ts ∧ Cond.initialized yX_sits.cls ∈ ax_Ts := ⟨ax_mem 581 (by decide +kernel) (by decide +kernel), ax_mem 582 (by decide +kernel) (by decide +kernel), ax_mem 63 (by decide +kernel) (by decide +kernel)⟩
theorem wX_stands : Cond.code yX_stands bX_stands 5 (some .int) ∈ ax_Ts := ax_mem 591 (by decide +kernel) (by decide +kernel)
theorem wvX_stands : Cond.instanceMethod yX_stands ∈ ax_Ts ∧ Cond.selects yX_stands.cls yX_stands yX_stands ∈ ax_Ts ∧ Cond.initialized yX_stands.cls ∈ ax_Ts := ⟨ax_mem 589 (by decide +kernel) (by decide +kernel), ax_mem 590 (by decide +kernel) (by decide +kernel), ax_mem 63 (by decide +kernel) (by decide +kernel)⟩
theorem wX_least : Cond.code yX_least bX_least 4 (some .int) ∈ ax_Ts := ax_mem 595 (by decide +kernel) (by decide +kernel)
theorem wvX_least : Cond.instanceMethod yX_least ∈ ax_Ts ∧ Cond.selects yX_least.cls yX_least yX_least ∈ ax_Ts ∧ Cond.initialized yX_least.cls ∈ ax_Ts := ⟨ax_mem 593 (by decide +kernel) (by decide +kernel), ax_mem 594 (by decide +kernel) (by decide +kernel), ax_mem 63 (by decide +kernel) (by decide +kernel)⟩
theorem wX_bestOrder : Cond.code yX_bestOrder bX_bestOrder 3 (some .int) ∈ ax_Ts := ax_mem 599 (by decide +kernel) (by decide +kernel)
theorem wvX_bestOrder : Cond.instanceMethod yX_bestOrder ∈ ax_Ts ∧ Cond.selects yX_bestOrder.cls yX_bestOrder yX_bestOrder ∈ ax_Ts ∧ Cond.initialized yX_bestOrder.cls ∈ ax_Ts := ⟨ax_mem 597 (by decide +kernel) (by decide +kernel), ax_mem 598 (by decide +kernel) (by decide +kernel), ax_mem 63 (by decide +kernel) (by decide +kernel)⟩
theorem wX_swap : Cond.code yX_swap bX_swap 7 (some .int) ∈ ax_Ts := ax_mem 632 (by decide +kernel) (by decide +kernel)
theorem wvX_swap : Cond.instanceMethod yX_swap ∈ ax_Ts ∧ Cond.selects yX_swap.cls yX_swap yX_swap ∈ ax_Ts ∧ Cond.initialized yX_swap.cls ∈ ax_Ts := ⟨ax_mem 630 (by decide +kernel) (by decide +kernel), ax_mem 631 (by decide +kernel) (by decide +kernel), ax_mem 63 (by decide +kernel) (by decide +kernel)⟩
theorem wX_later : Cond.code yX_later bX_later 3 (some .int) ∈ ax_Ts := ax_mem 637 (by decide +kernel) (by decide +kernel)
theorem wvX_later : Cond.instanceMethod yX_later ∈ ax_Ts ∧ Cond.selects yX_later.cls yX_later yX_later ∈ ax_Ts ∧ Cond.initialized yX_later.cls ∈ ax_Ts := ⟨ax_mem 635 (by decide +kernel) (by decide +kernel), ax_mem 636 (by decide +kernel) (by decide +kernel), ax_mem 63 (by decide +kernel) (by decide +kernel)⟩
theorem wX_bound : Cond.code yX_bound bX_bound 4 (some .int) ∈ ax_Ts := ax_mem 643 (by decide +kernel) (by decide +kernel)
theorem wvX_bound : Cond.instanceMethod yX_bound ∈ ax_Ts ∧ Cond.selects yX_bound.cls yX_bound yX_bound ∈ ax_Ts ∧ Cond.initialized yX_bound.cls ∈ ax_Ts := ⟨ax_mem 641 (by decide +kernel) (by decide +kernel), ax_mem 642 (by decide +kernel) (by decide +kernel), ax_mem 63 (by decide +kernel) (by decide +kernel)⟩
theorem wX_doors : Cond.code yX_doors bX_doors 3 (some .int) ∈ ax_Ts := ax_mem 647 (by decide +kernel) (by decide +kernel)
theorem wvX_doors : Cond.instanceMethod yX_doors ∈ ax_Ts ∧ Cond.selects yX_doors.cls yX_doors yX_doors ∈ ax_Ts ∧ Cond.initialized yX_doors.cls ∈ ax_Ts := ⟨ax_mem 645 (by decide +kernel) (by decide +kernel), ax_mem 646 (by decide +kernel) (by decide +kernel), ax_mem 63 (by decide +kernel) (by decide +kernel)⟩
theorem wX_mixed : Cond.code yX_mixed bX_mixed 8 (some .int) ∈ ax_Ts := ax_mem 669 (by decide +kernel) (by decide +kernel)
theorem wvX_mixed : Cond.instanceMethod yX_mixed ∈ ax_Ts ∧ Cond.selects yX_mixed.cls yX_mixed yX_mixed ∈ ax_Ts ∧ Cond.initialized yX_mixed.cls ∈ ax_Ts := ⟨ax_mem 667 (by decide +kernel) (by decide +kernel), ax_mem 668 (by decide +kernel) (by decide +kernel), ax_mem 63 (by decide +kernel) (by decide +kernel)⟩
theorem wX_out : Cond.code yX_out bX_out 2 (some .int) ∈ ax_Ts := ax_mem 682 (by decide +kernel) (by decide +kernel)
theorem wvX_out : Cond.instanceMethod yX_out ∈ ax_Ts ∧ Cond.selects yX_out.cls yX_out yX_out ∈ ax_Ts ∧ Cond.initialized yX_out.cls ∈ ax_Ts := ⟨ax_mem 680 (by decide +kernel) (by decide +kernel), ax_mem 681 (by decide +kernel) (by decide +kernel), ax_mem 63 (by decide +kernel) (by decide +kernel)⟩
theorem wX_outOf : Cond.code yX_outOf bX_outOf 3 (some .int) ∈ ax_Ts := ax_mem 715 (by decide +kernel) (by decide +kernel)
theorem wvX_outOf : Cond.instanceMethod yX_outOf ∈ ax_Ts ∧ Cond.selects yX_outOf.cls yX_outOf yX_outOf ∈ ax_Ts ∧ Cond.initialized yX_outOf.cls ∈ ax_Ts := ⟨ax_mem 713 (by decide +kernel) (by decide +kernel), ax_mem 714 (by decide +kernel) (by decide +kernel), ax_mem 63 (by decide +kernel) (by decide +kernel)⟩
theorem wX_missed : Cond.code yX_missed bX_missed 4 (some .int) ∈ ax_Ts := ax_mem 719 (by decide +kernel) (by decide +kernel)
theorem wvX_missed : Cond.instanceMethod yX_missed ∈ ax_Ts ∧ Cond.selects yX_missed.cls yX_missed yX_missed ∈ ax_Ts ∧ Cond.initialized yX_missed.cls ∈ ax_Ts := ⟨ax_mem 717 (by decide +kernel) (by decide +kernel), ax_mem 718 (by decide +kernel) (by decide +kernel), ax_mem 63 (by decide +kernel) (by decide +kernel)⟩
theorem wX_stay : Cond.code yX_stay bX_stay 5 (some .int) ∈ ax_Ts := ax_mem 723 (by decide +kernel) (by decide +kernel)
theorem wvX_stay : Cond.instanceMethod yX_stay ∈ ax_Ts ∧ Cond.selects yX_stay.cls yX_stay yX_stay ∈ ax_Ts ∧ Cond.initialized yX_stay.cls ∈ ax_Ts := ⟨ax_mem 721 (by decide +kernel) (by decide +kernel), ax_mem 722 (by decide +kernel) (by decide +kernel), ax_mem 63 (by decide +kernel) (by decide +kernel)⟩
theorem wX_image : Cond.code yX_image bX_image 1 (some .int) ∈ ax_Ts := ax_mem 731 (by decide +kernel) (by decide +kernel)
theorem wvX_image : Cond.instanceMethod yX_image ∈ ax_Ts ∧ Cond.selects yX_image.cls yX_image yX_image ∈ ax_Ts ∧ Cond.initialized yX_image.cls ∈ ax_Ts := ⟨ax_mem 729 (by decide +kernel) (by decide +kernel), ax_mem 730 (by decide +kernel) (by decide +kernel), ax_mem 63 (by decide +kernel) (by decide +kernel)⟩
theorem wX_restore : Cond.code yX_restore bX_restore 1 (some .int) ∈ ax_Ts := ax_mem 740 (by decide +kernel) (by decide +kernel)
theorem wvX_restore : Cond.instanceMethod yX_restore ∈ ax_Ts ∧ Cond.selects yX_restore.cls yX_restore yX_restore ∈ ax_Ts ∧ Cond.initialized yX_restore.cls ∈ ax_Ts := ⟨ax_mem 738 (by decide +kernel) (by decide +kernel), ax_mem 739 (by decide +kernel) (by decide +kernel), ax_mem 63 (by decide +kernel) (by decide +kernel)⟩
theorem wX_count : Cond.code yX_count bX_count 2 (some .int) ∈ ax_Ts := ax_mem 748 (by decide +kernel) (by decide +kernel)
theorem wvX_count : Cond.instanceMethod yX_count ∈ ax_Ts ∧ Cond.selects yX_count.cls yX_count yX_count ∈ ax_Ts ∧ Cond.initialized yX_count.cls ∈ ax_Ts := ⟨ax_mem 746 (by decide +kernel) (by decide +kernel), ax_mem 747 (by decide +kernel) (by decide +kernel), ax_mem 63 (by decide +kernel) (by decide +kernel)⟩
theorem wX_digest : Cond.code yX_digest bX_digest 5 (some .long) ∈ ax_Ts := ax_mem 756 (by decide +kernel) (by decide +kernel)
theorem wvX_digest : Cond.instanceMethod yX_digest ∈ ax_Ts ∧ Cond.selects yX_digest.cls yX_digest yX_digest ∈ ax_Ts ∧ Cond.initialized yX_digest.cls ∈ ax_Ts := ⟨ax_mem 754 (by decide +kernel) (by decide +kernel), ax_mem 755 (by decide +kernel) (by decide +kernel), ax_mem 63 (by decide +kernel) (by decide +kernel)⟩
theorem wX_outside : Cond.code yX_outside bX_outside 3 (some .boolean) ∈ ax_Ts := ax_mem 381 (by decide +kernel) (by decide +kernel)
theorem wvX_outside : Cond.static yX_outside ∈ ax_Ts ∧ Cond.initialized yX_outside.cls ∈ ax_Ts := ⟨ax_mem 380 (by decide +kernel) (by decide +kernel), ax_mem 63 (by decide +kernel) (by decide +kernel)⟩
theorem wX_hasCall : Cond.code yX_hasCall bX_hasCall 2 (some .boolean) ∈ ax_Ts := ax_mem 489 (by decide +kernel) (by decide +kernel)
theorem wvX_hasCall : Cond.instanceMethod yX_hasCall ∈ ax_Ts ∧ Cond.selects yX_hasCall.cls yX_hasCall yX_hasCall ∈ ax_Ts ∧ Cond.initialized yX_hasCall.cls ∈ ax_Ts := ⟨ax_mem 488 (by decide +kernel) (by decide +kernel), ax_mem 2 (by decide +kernel) (by decide +kernel), ax_mem 63 (by decide +kernel) (by decide +kernel)⟩
theorem wX_refusalOf : Cond.code yX_refusalOf bX_refusalOf 2 (some .int) ∈ ax_Ts := ax_mem 485 (by decide +kernel) (by decide +kernel)
theorem wvX_refusalOf : Cond.instanceMethod yX_refusalOf ∈ ax_Ts ∧ Cond.selects yX_refusalOf.cls yX_refusalOf yX_refusalOf ∈ ax_Ts ∧ Cond.initialized yX_refusalOf.cls ∈ ax_Ts := ⟨ax_mem 484 (by decide +kernel) (by decide +kernel), ax_mem 1 (by decide +kernel) (by decide +kernel), ax_mem 63 (by decide +kernel) (by decide +kernel)⟩
theorem wX_lineUp : Cond.code yX_lineUp bX_lineUp 3 none ∈ ax_Ts := ax_mem 493 (by decide +kernel) (by decide +kernel)
theorem wvX_lineUp : Cond.instanceMethod yX_lineUp ∈ ax_Ts ∧ Cond.selects yX_lineUp.cls yX_lineUp yX_lineUp ∈ ax_Ts ∧ Cond.initialized yX_lineUp.cls ∈ ax_Ts := ⟨ax_mem 492 (by decide +kernel) (by decide +kernel), ax_mem 3 (by decide +kernel) (by decide +kernel), ax_mem 63 (by decide +kernel) (by decide +kernel)⟩
theorem wX_boardBy : Cond.code yX_boardBy bX_boardBy 4 none ∈ ax_Ts := ax_mem 535 (by decide +kernel) (by decide +kernel)
theorem wvX_boardBy : Cond.instanceMethod yX_boardBy ∈ ax_Ts ∧ Cond.selects yX_boardBy.cls yX_boardBy yX_boardBy ∈ ax_Ts ∧ Cond.initialized yX_boardBy.cls ∈ ax_Ts := ⟨ax_mem 534 (by decide +kernel) (by decide +kernel), ax_mem 6 (by decide +kernel) (by decide +kernel), ax_mem 63 (by decide +kernel) (by decide +kernel)⟩
theorem wX_findBest : Cond.code yX_findBest bX_findBest 3 (some .int) ∈ ax_Ts := ax_mem 603 (by decide +kernel) (by decide +kernel)
theorem wvX_findBest : Cond.instanceMethod yX_findBest ∈ ax_Ts ∧ Cond.selects yX_findBest.cls yX_findBest yX_findBest ∈ ax_Ts ∧ Cond.initialized yX_findBest.cls ∈ ax_Ts := ⟨ax_mem 602 (by decide +kernel) (by decide +kernel), ax_mem 14 (by decide +kernel) (by decide +kernel), ax_mem 63 (by decide +kernel) (by decide +kernel)⟩
theorem wX_secondsByDoors : Cond.code yX_secondsByDoors bX_secondsByDoors 3 (some .int) ∈ ax_Ts := ax_mem 651 (by decide +kernel) (by decide +kernel)
theorem wvX_secondsByDoors : Cond.instanceMethod yX_secondsByDoors ∈ ax_Ts ∧ Cond.selects yX_secondsByDoors.cls yX_secondsByDoors yX_secondsByDoors ∈ ax_Ts ∧ Cond.initialized yX_secondsByDoors.cls ∈ ax_Ts := ⟨ax_mem 650 (by decide +kernel) (by decide +kernel), ax_mem 15 (by decide +kernel) (by decide +kernel), ax_mem 63 (by decide +kernel) (by decide +kernel)⟩
theorem wX_withCall : Cond.code yX_withCall bX_withCall 7 (some .long) ∈ ax_Ts := ax_mem 762 (by decide +kernel) (by decide +kernel)
theorem wvX_withCall : Cond.instanceMethod yX_withCall ∈ ax_Ts ∧ Cond.selects yX_withCall.cls yX_withCall yX_withCall ∈ ax_Ts ∧ Cond.initialized yX_withCall.cls ∈ ax_Ts := ⟨ax_mem 761 (by decide +kernel) (by decide +kernel), ax_mem 22 (by decide +kernel) (by decide +kernel), ax_mem 63 (by decide +kernel) (by decide +kernel)⟩
theorem wM_in : Cond.code yM_in bM_in 6 (some .boolean) ∈ ax_Ts := ax_mem 893 (by decide +kernel) (by decide +kernel)
theorem wvM_in : Cond.static yM_in ∈ ax_Ts ∧ Cond.initialized yM_in.cls ∈ ax_Ts := ⟨ax_mem 892 (by decide +kernel) (by decide +kernel), ax_mem 72 (by decide +kernel) (by decide +kernel)⟩
theorem wM_cabin : Cond.code yM_cabin bM_cabin 4 (some .int) ∈ ax_Ts := ax_mem 888 (by decide +kernel) (by decide +kernel)
theorem wvM_cabin : Cond.instanceMethod yM_cabin ∈ ax_Ts ∧ Cond.selects yM_cabin.cls yM_cabin yM_cabin ∈ ax_Ts ∧ Cond.initialized yM_cabin.cls ∈ ax_Ts := ⟨ax_mem 886 (by decide +kernel) (by decide +kernel), ax_mem 887 (by decide +kernel) (by decide +kernel), ax_mem 72 (by decide +kernel) (by decide +kernel)⟩
theorem wM_lacks : Cond.code yM_lacks bM_lacks 1 (some .boolean) ∈ ax_Ts := ax_mem 903 (by decide +kernel) (by decide +kernel)
theorem wvM_lacks : Cond.instanceMethod yM_lacks ∈ ax_Ts ∧ Cond.selects yM_lacks.cls yM_lacks yM_lacks ∈ ax_Ts ∧ Cond.initialized yM_lacks.cls ∈ ax_Ts := ⟨ax_mem 902 (by decide +kernel) (by decide +kernel), ax_mem 23 (by decide +kernel) (by decide +kernel), ax_mem 72 (by decide +kernel) (by decide +kernel)⟩
theorem wM_isPerson : Cond.code yM_isPerson bM_isPerson 2 (some .boolean) ∈ ax_Ts := ax_mem 907 (by decide +kernel) (by decide +kernel)
theorem wvM_isPerson : Cond.instanceMethod yM_isPerson ∈ ax_Ts ∧ Cond.selects yM_isPerson.cls yM_isPerson yM_isPerson ∈ ax_Ts ∧ Cond.initialized yM_isPerson.cls ∈ ax_Ts := ⟨ax_mem 906 (by decide +kernel) (by decide +kernel), ax_mem 24 (by decide +kernel) (by decide +kernel), ax_mem 72 (by decide +kernel) (by decide +kernel)⟩
theorem wM_isTaken : Cond.code yM_isTaken bM_isTaken 6 (some .boolean) ∈ ax_Ts := ax_mem 912 (by decide +kernel) (by decide +kernel)
theorem wvM_isTaken : Cond.instanceMethod yM_isTaken ∈ ax_Ts ∧ Cond.selects yM_isTaken.cls yM_isTaken yM_isTaken ∈ ax_Ts ∧ Cond.initialized yM_isTaken.cls ∈ ax_Ts := ⟨ax_mem 911 (by decide +kernel) (by decide +kernel), ax_mem 25 (by decide +kernel) (by decide +kernel), ax_mem 72 (by decide +kernel) (by decide +kernel)⟩
theorem wM_person : Cond.code yM_person bM_person 11 (some .int) ∈ ax_Ts := ax_mem 899 (by decide +kernel) (by decide +kernel)
theorem wvM_person : Cond.instanceMethod yM_person ∈ ax_Ts ∧ Cond.selects yM_person.cls yM_person yM_person ∈ ax_Ts ∧ Cond.initialized yM_person.cls ∈ ax_Ts := ⟨ax_mem 897 (by decide +kernel) (by decide +kernel), ax_mem 898 (by decide +kernel) (by decide +kernel), ax_mem 72 (by decide +kernel) (by decide +kernel)⟩
theorem wM_as : Cond.code yM_as bM_as 5 (some .int) ∈ ax_Ts := ax_mem 916 (by decide +kernel) (by decide +kernel)
theorem wvM_as : Cond.instanceMethod yM_as ∈ ax_Ts ∧ Cond.selects yM_as.cls yM_as yM_as ∈ ax_Ts ∧ Cond.initialized yM_as.cls ∈ ax_Ts := ⟨ax_mem 914 (by decide +kernel) (by decide +kernel), ax_mem 915 (by decide +kernel) (by decide +kernel), ax_mem 72 (by decide +kernel) (by decide +kernel)⟩
theorem wM_about : Cond.code yM_about bM_about 3 (some .int) ∈ ax_Ts := ax_mem 920 (by decide +kernel) (by decide +kernel)
theorem wvM_about : Cond.instanceMethod yM_about ∈ ax_Ts ∧ Cond.selects yM_about.cls yM_about yM_about ∈ ax_Ts ∧ Cond.initialized yM_about.cls ∈ ax_Ts := ⟨ax_mem 918 (by decide +kernel) (by decide +kernel), ax_mem 919 (by decide +kernel) (by decide +kernel), ax_mem 72 (by decide +kernel) (by decide +kernel)⟩
theorem wM_change : Cond.code yM_change bM_change 5 (some .int) ∈ ax_Ts := ax_mem 924 (by decide +kernel) (by decide +kernel)
theorem wvM_change : Cond.instanceMethod yM_change ∈ ax_Ts ∧ Cond.selects yM_change.cls yM_change yM_change ∈ ax_Ts ∧ Cond.initialized yM_change.cls ∈ ax_Ts := ⟨ax_mem 922 (by decide +kernel) (by decide +kernel), ax_mem 923 (by decide +kernel) (by decide +kernel), ax_mem 72 (by decide +kernel) (by decide +kernel)⟩
theorem wM_letters : Cond.code yM_letters bM_letters 9 (some .int) ∈ ax_Ts := ax_mem 929 (by decide +kernel) (by decide +kernel)
theorem wvM_letters : Cond.instanceMethod yM_letters ∈ ax_Ts ∧ Cond.selects yM_letters.cls yM_letters yM_letters ∈ ax_Ts ∧ Cond.initialized yM_letters.cls ∈ ax_Ts := ⟨ax_mem 927 (by decide +kernel) (by decide +kernel), ax_mem 928 (by decide +kernel) (by decide +kernel), ax_mem 72 (by decide +kernel) (by decide +kernel)⟩
theorem wM_blank : Cond.code yM_blank bM_blank 2 (some .int) ∈ ax_Ts := ax_mem 934 (by decide +kernel) (by decide +kernel)
theorem wvM_blank : Cond.instanceMethod yM_blank ∈ ax_Ts ∧ Cond.selects yM_blank.cls yM_blank yM_blank ∈ ax_Ts ∧ Cond.initialized yM_blank.cls ∈ ax_Ts := ⟨ax_mem 932 (by decide +kernel) (by decide +kernel), ax_mem 933 (by decide +kernel) (by decide +kernel), ax_mem 72 (by decide +kernel) (by decide +kernel)⟩
theorem wM_isKey : Cond.code yM_isKey bM_isKey 1 (some .boolean) ∈ ax_Ts := ax_mem 951 (by decide +kernel) (by decide +kernel)
theorem wvM_isKey : Cond.static yM_isKey ∈ ax_Ts ∧ Cond.initialized yM_isKey.cls ∈ ax_Ts := ⟨ax_mem 950 (by decide +kernel) (by decide +kernel), ax_mem 72 (by decide +kernel) (by decide +kernel)⟩
theorem wM_go : Cond.code yM_go bM_go 2 (some .boolean) ∈ ax_Ts := ax_mem 946 (by decide +kernel) (by decide +kernel)
theorem wvM_go : Cond.instanceMethod yM_go ∈ ax_Ts ∧ Cond.selects yM_go.cls yM_go yM_go ∈ ax_Ts ∧ Cond.initialized yM_go.cls ∈ ax_Ts := ⟨ax_mem 945 (by decide +kernel) (by decide +kernel), ax_mem 27 (by decide +kernel) (by decide +kernel), ax_mem 72 (by decide +kernel) (by decide +kernel)⟩
theorem wM_faultOf : Cond.code yM_faultOf bM_faultOf 2 (some .int) ∈ ax_Ts := ax_mem 942 (by decide +kernel) (by decide +kernel)
theorem wvM_faultOf : Cond.instanceMethod yM_faultOf ∈ ax_Ts ∧ Cond.selects yM_faultOf.cls yM_faultOf yM_faultOf ∈ ax_Ts ∧ Cond.initialized yM_faultOf.cls ∈ ax_Ts := ⟨ax_mem 941 (by decide +kernel) (by decide +kernel), ax_mem 26 (by decide +kernel) (by decide +kernel), ax_mem 72 (by decide +kernel) (by decide +kernel)⟩
theorem wM_fault : Cond.code yM_fault bM_fault 1 (some .int) ∈ ax_Ts := ax_mem 938 (by decide +kernel) (by decide +kernel)
theorem wvM_fault : Cond.instanceMethod yM_fault ∈ ax_Ts ∧ Cond.selects yM_fault.cls yM_fault yM_fault ∈ ax_Ts ∧ Cond.initialized yM_fault.cls ∈ ax_Ts := ⟨ax_mem 936 (by decide +kernel) (by decide +kernel), ax_mem 937 (by decide +kernel) (by decide +kernel), ax_mem 72 (by decide +kernel) (by decide +kernel)⟩
theorem wM_call : Cond.code yM_call bM_call 2 (some .int) ∈ ax_Ts := ax_mem 955 (by decide +kernel) (by decide +kernel)
theorem wvM_call : Cond.instanceMethod yM_call ∈ ax_Ts ∧ Cond.selects yM_call.cls yM_call yM_call ∈ ax_Ts ∧ Cond.initialized yM_call.cls ∈ ax_Ts := ⟨ax_mem 953 (by decide +kernel) (by decide +kernel), ax_mem 954 (by decide +kernel) (by decide +kernel), ax_mem 72 (by decide +kernel) (by decide +kernel)⟩
theorem wM_isCall : Cond.code yM_isCall bM_isCall 2 (some .boolean) ∈ ax_Ts := ax_mem 963 (by decide +kernel) (by decide +kernel)
theorem wvM_isCall : Cond.instanceMethod yM_isCall ∈ ax_Ts ∧ Cond.selects yM_isCall.cls yM_isCall yM_isCall ∈ ax_Ts ∧ Cond.initialized yM_isCall.cls ∈ ax_Ts := ⟨ax_mem 962 (by decide +kernel) (by decide +kernel), ax_mem 28 (by decide +kernel) (by decide +kernel), ax_mem 72 (by decide +kernel) (by decide +kernel)⟩
theorem wM_sideOf : Cond.code yM_sideOf bM_sideOf 2 (some .int) ∈ ax_Ts := ax_mem 991 (by decide +kernel) (by decide +kernel)
theorem wvM_sideOf : Cond.instanceMethod yM_sideOf ∈ ax_Ts ∧ Cond.selects yM_sideOf.cls yM_sideOf yM_sideOf ∈ ax_Ts ∧ Cond.initialized yM_sideOf.cls ∈ ax_Ts := ⟨ax_mem 990 (by decide +kernel) (by decide +kernel), ax_mem 34 (by decide +kernel) (by decide +kernel), ax_mem 72 (by decide +kernel) (by decide +kernel)⟩
theorem wM_depthOf : Cond.code yM_depthOf bM_depthOf 2 (some .int) ∈ ax_Ts := ax_mem 987 (by decide +kernel) (by decide +kernel)
theorem wvM_depthOf : Cond.instanceMethod yM_depthOf ∈ ax_Ts ∧ Cond.selects yM_depthOf.cls yM_depthOf yM_depthOf ∈ ax_Ts ∧ Cond.initialized yM_depthOf.cls ∈ ax_Ts := ⟨ax_mem 986 (by decide +kernel) (by decide +kernel), ax_mem 33 (by decide +kernel) (by decide +kernel), ax_mem 72 (by decide +kernel) (by decide +kernel)⟩
theorem wM_layPeople : Cond.code yM_layPeople bM_layPeople 3 none ∈ ax_Ts := ax_mem 968 (by decide +kernel) (by decide +kernel)
theorem wvM_layPeople : Cond.instanceMethod yM_layPeople ∈ ax_Ts ∧ Cond.selects yM_layPeople.cls yM_layPeople yM_layPeople ∈ ax_Ts ∧ Cond.initialized yM_layPeople.cls ∈ ax_Ts := ⟨ax_mem 967 (by decide +kernel) (by decide +kernel), ax_mem 29 (by decide +kernel) (by decide +kernel), ax_mem 72 (by decide +kernel) (by decide +kernel)⟩
theorem wM_valueOf : Cond.code yM_valueOf bM_valueOf 4 (some .int) ∈ ax_Ts := ax_mem 983 (by decide +kernel) (by decide +kernel)
theorem wvM_valueOf : Cond.instanceMethod yM_valueOf ∈ ax_Ts ∧ Cond.selects yM_valueOf.cls yM_valueOf yM_valueOf ∈ ax_Ts ∧ Cond.initialized yM_valueOf.cls ∈ ax_Ts := ⟨ax_mem 982 (by decide +kernel) (by decide +kernel), ax_mem 32 (by decide +kernel) (by decide +kernel), ax_mem 72 (by decide +kernel) (by decide +kernel)⟩
theorem wM_rank : Cond.code yM_rank bM_rank 1 (some .int) ∈ ax_Ts := ax_mem 979 (by decide +kernel) (by decide +kernel)
theorem wvM_rank : Cond.static yM_rank ∈ ax_Ts ∧ Cond.initialized yM_rank.cls ∈ ax_Ts := ⟨ax_mem 978 (by decide +kernel) (by decide +kernel), ax_mem 72 (by decide +kernel) (by decide +kernel)⟩
theorem wM_isAhead : Cond.code yM_isAhead bM_isAhead 8 (some .boolean) ∈ ax_Ts := ax_mem 976 (by decide +kernel) (by decide +kernel)
theorem wvM_isAhead : Cond.instanceMethod yM_isAhead ∈ ax_Ts ∧ Cond.selects yM_isAhead.cls yM_isAhead yM_isAhead ∈ ax_Ts ∧ Cond.initialized yM_isAhead.cls ∈ ax_Ts := ⟨ax_mem 975 (by decide +kernel) (by decide +kernel), ax_mem 31 (by decide +kernel) (by decide +kernel), ax_mem 72 (by decide +kernel) (by decide +kernel)⟩
theorem wM_placeOf : Cond.code yM_placeOf bM_placeOf 3 (some .int) ∈ ax_Ts := ax_mem 999 (by decide +kernel) (by decide +kernel)
theorem wvM_placeOf : Cond.instanceMethod yM_placeOf ∈ ax_Ts ∧ Cond.selects yM_placeOf.cls yM_placeOf yM_placeOf ∈ ax_Ts ∧ Cond.initialized yM_placeOf.cls ∈ ax_Ts := ⟨ax_mem 998 (by decide +kernel) (by decide +kernel), ax_mem 36 (by decide +kernel) (by decide +kernel), ax_mem 72 (by decide +kernel) (by decide +kernel)⟩
theorem wM_put : Cond.code yM_put bM_put 6 none ∈ ax_Ts := ax_mem 995 (by decide +kernel) (by decide +kernel)
theorem wvM_put : Cond.instanceMethod yM_put ∈ ax_Ts ∧ Cond.selects yM_put.cls yM_put yM_put ∈ ax_Ts ∧ Cond.initialized yM_put.cls ∈ ax_Ts := ⟨ax_mem 994 (by decide +kernel) (by decide +kernel), ax_mem 35 (by decide +kernel) (by decide +kernel), ax_mem 72 (by decide +kernel) (by decide +kernel)⟩
theorem wM_layOrder : Cond.code yM_layOrder bM_layOrder 4 none ∈ ax_Ts := ax_mem 972 (by decide +kernel) (by decide +kernel)
theorem wvM_layOrder : Cond.instanceMethod yM_layOrder ∈ ax_Ts ∧ Cond.selects yM_layOrder.cls yM_layOrder yM_layOrder ∈ ax_Ts ∧ Cond.initialized yM_layOrder.cls ∈ ax_Ts := ⟨ax_mem 971 (by decide +kernel) (by decide +kernel), ax_mem 30 (by decide +kernel) (by decide +kernel), ax_mem 72 (by decide +kernel) (by decide +kernel)⟩
theorem wM_everybody : Cond.code yM_everybody bM_everybody 1 (some .int) ∈ ax_Ts := ax_mem 1069 (by decide +kernel) (by decide +kernel)
theorem wvM_everybody : Cond.instanceMethod yM_everybody ∈ ax_Ts ∧ Cond.selects yM_everybody.cls yM_everybody yM_everybody ∈ ax_Ts ∧ Cond.initialized yM_everybody.cls ∈ ax_Ts := ⟨ax_mem 1068 (by decide +kernel) (by decide +kernel), ax_mem 48 (by decide +kernel) (by decide +kernel), ax_mem 72 (by decide +kernel) (by decide +kernel)⟩
theorem wM_order : Cond.code yM_order bM_order 3 (some .int) ∈ ax_Ts := ax_mem 959 (by decide +kernel) (by decide +kernel)
theorem wvM_order : Cond.instanceMethod yM_order ∈ ax_Ts ∧ Cond.selects yM_order.cls yM_order yM_order ∈ ax_Ts ∧ Cond.initialized yM_order.cls ∈ ax_Ts := ⟨ax_mem 957 (by decide +kernel) (by decide +kernel), ax_mem 958 (by decide +kernel) (by decide +kernel), ax_mem 72 (by decide +kernel) (by decide +kernel)⟩
theorem wM_nearestBin : Cond.code yM_nearestBin bM_nearestBin 3 (some .int) ∈ ax_Ts := ax_mem 1039 (by decide +kernel) (by decide +kernel)
theorem wvM_nearestBin : Cond.instanceMethod yM_nearestBin ∈ ax_Ts ∧ Cond.selects yM_nearestBin.cls yM_nearestBin yM_nearestBin ∈ ax_Ts ∧ Cond.initialized yM_nearestBin.cls ∈ ax_Ts := ⟨ax_mem 1038 (by decide +kernel) (by decide +kernel), ax_mem 45 (by decide +kernel) (by decide +kernel), ax_mem 72 (by decide +kernel) (by decide +kernel)⟩
theorem wM_begin : Cond.code yM_begin bM_begin 6 (some .int) ∈ ax_Ts := ax_mem 1035 (by decide +kernel) (by decide +kernel)
theorem wvM_begin : Cond.instanceMethod yM_begin ∈ ax_Ts ∧ Cond.selects yM_begin.cls yM_begin yM_begin ∈ ax_Ts ∧ Cond.initialized yM_begin.cls ∈ ax_Ts := ⟨ax_mem 1034 (by decide +kernel) (by decide +kernel), ax_mem 44 (by decide +kernel) (by decide +kernel), ax_mem 72 (by decide +kernel) (by decide +kernel)⟩
theorem wM_sit : Cond.code yM_sit bM_sit 4 none ∈ ax_Ts := ax_mem 1031 (by decide +kernel) (by decide +kernel)
theorem wvM_sit : Cond.instanceMethod yM_sit ∈ ax_Ts ∧ Cond.selects yM_sit.cls yM_sit yM_sit ∈ ax_Ts ∧ Cond.initialized yM_sit.cls ∈ ax_Ts := ⟨ax_mem 1030 (by decide +kernel) (by decide +kernel), ax_mem 43 (by decide +kernel) (by decide +kernel), ax_mem 72 (by decide +kernel) (by decide +kernel)⟩
theorem wM_goCell : Cond.code yM_goCell bM_goCell 4 none ∈ ax_Ts := ax_mem 1027 (by decide +kernel) (by decide +kernel)
theorem wvM_goCell : Cond.instanceMethod yM_goCell ∈ ax_Ts ∧ Cond.selects yM_goCell.cls yM_goCell yM_goCell ∈ ax_Ts ∧ Cond.initialized yM_goCell.cls ∈ ax_Ts := ⟨ax_mem 1026 (by decide +kernel) (by decide +kernel), ax_mem 42 (by decide +kernel) (by decide +kernel), ax_mem 72 (by decide +kernel) (by decide +kernel)⟩
theorem wM_beginBoard : Cond.code yM_beginBoard bM_beginBoard 2 none ∈ ax_Ts := ax_mem 1019 (by decide +kernel) (by decide +kernel)
theorem wvM_beginBoard : Cond.instanceMethod yM_beginBoard ∈ ax_Ts ∧ Cond.selects yM_beginBoard.cls yM_beginBoard yM_beginBoard ∈ ax_Ts ∧ Cond.initialized yM_beginBoard.cls ∈ ax_Ts := ⟨ax_mem 1018 (by decide +kernel) (by decide +kernel), ax_mem 40 (by decide +kernel) (by decide +kernel), ax_mem 72 (by decide +kernel) (by decide +kernel)⟩
theorem wM_goSecond : Cond.code yM_goSecond bM_goSecond 3 none ∈ ax_Ts := ax_mem 1023 (by decide +kernel) (by decide +kernel)
theorem wvM_goSecond : Cond.instanceMethod yM_goSecond ∈ ax_Ts ∧ Cond.selects yM_goSecond.cls yM_goSecond yM_goSecond ∈ ax_Ts ∧ Cond.initialized yM_goSecond.cls ∈ ax_Ts := ⟨ax_mem 1022 (by decide +kernel) (by decide +kernel), ax_mem 41 (by decide +kernel) (by decide +kernel), ax_mem 72 (by decide +kernel) (by decide +kernel)⟩
theorem wM_boardAll : Cond.code yM_boardAll bM_boardAll 2 (some .int) ∈ ax_Ts := ax_mem 1015 (by decide +kernel) (by decide +kernel)
theorem wvM_boardAll : Cond.instanceMethod yM_boardAll ∈ ax_Ts ∧ Cond.selects yM_boardAll.cls yM_boardAll yM_boardAll ∈ ax_Ts ∧ Cond.initialized yM_boardAll.cls ∈ ax_Ts := ⟨ax_mem 1014 (by decide +kernel) (by decide +kernel), ax_mem 39 (by decide +kernel) (by decide +kernel), ax_mem 72 (by decide +kernel) (by decide +kernel)⟩
theorem wM_boardBy : Cond.code yM_boardBy bM_boardBy 2 (some .int) ∈ ax_Ts := ax_mem 1011 (by decide +kernel) (by decide +kernel)
theorem wvM_boardBy : Cond.instanceMethod yM_boardBy ∈ ax_Ts ∧ Cond.selects yM_boardBy.cls yM_boardBy yM_boardBy ∈ ax_Ts ∧ Cond.initialized yM_boardBy.cls ∈ ax_Ts := ⟨ax_mem 1010 (by decide +kernel) (by decide +kernel), ax_mem 38 (by decide +kernel) (by decide +kernel), ax_mem 72 (by decide +kernel) (by decide +kernel)⟩
theorem wM_boardOf : Cond.code yM_boardOf bM_boardOf 6 (some .int) ∈ ax_Ts := ax_mem 1007 (by decide +kernel) (by decide +kernel)
theorem wvM_boardOf : Cond.instanceMethod yM_boardOf ∈ ax_Ts ∧ Cond.selects yM_boardOf.cls yM_boardOf yM_boardOf ∈ ax_Ts ∧ Cond.initialized yM_boardOf.cls ∈ ax_Ts := ⟨ax_mem 1006 (by decide +kernel) (by decide +kernel), ax_mem 37 (by decide +kernel) (by decide +kernel), ax_mem 72 (by decide +kernel) (by decide +kernel)⟩
theorem wM_board : Cond.code yM_board bM_board 3 (some .int) ∈ ax_Ts := ax_mem 1003 (by decide +kernel) (by decide +kernel)
theorem wvM_board : Cond.instanceMethod yM_board ∈ ax_Ts ∧ Cond.selects yM_board.cls yM_board yM_board ∈ ax_Ts ∧ Cond.initialized yM_board.cls ∈ ax_Ts := ⟨ax_mem 1001 (by decide +kernel) (by decide +kernel), ax_mem 1002 (by decide +kernel) (by decide +kernel), ax_mem 72 (by decide +kernel) (by decide +kernel)⟩
theorem wM_sits : Cond.code yM_sits bM_sits 5 (some .int) ∈ ax_Ts := ax_mem 1043 (by decide +kernel) (by decide +kernel)
theorem wvM_sits : Cond.instanceMethod yM_sits ∈ ax_Ts ∧ Cond.selects yM_sits.cls yM_sits yM_sits ∈ ax_Ts ∧ Cond.initialized yM_sits.cls ∈ ax_Ts := ⟨ax_mem 1041 (by decide +kernel) (by decide +kernel), ax_mem 1042 (by decide +kernel) (by decide +kernel), ax_mem 72 (by decide +kernel) (by decide +kernel)⟩
theorem wM_stands : Cond.code yM_stands bM_stands 5 (some .int) ∈ ax_Ts := ax_mem 1048 (by decide +kernel) (by decide +kernel)
theorem wvM_stands : Cond.instanceMethod yM_stands ∈ ax_Ts ∧ Cond.selects yM_stands.cls yM_stands yM_stands ∈ ax_Ts ∧ Cond.initialized yM_stands.cls ∈ ax_Ts := ⟨ax_mem 1046 (by decide +kernel) (by decide +kernel), ax_mem 1047 (by decide +kernel) (by decide +kernel), ax_mem 72 (by decide +kernel) (by decide +kernel)⟩
theorem wM_leastOf : Cond.code yM_leastOf bM_leastOf 5 (some .int) ∈ ax_Ts := ax_mem 1056 (by decide +kernel) (by decide +kernel)
theorem wvM_leastOf : Cond.instanceMethod yM_leastOf ∈ ax_Ts ∧ Cond.selects yM_leastOf.cls yM_leastOf yM_leastOf ∈ ax_Ts ∧ Cond.initialized yM_leastOf.cls ∈ ax_Ts := ⟨ax_mem 1055 (by decide +kernel) (by decide +kernel), ax_mem 46 (by decide +kernel) (by decide +kernel), ax_mem 72 (by decide +kernel) (by decide +kernel)⟩
theorem wM_least : Cond.code yM_least bM_least 1 (some .int) ∈ ax_Ts := ax_mem 1052 (by decide +kernel) (by decide +kernel)
theorem wvM_least : Cond.instanceMethod yM_least ∈ ax_Ts ∧ Cond.selects yM_least.cls yM_least yM_least ∈ ax_Ts ∧ Cond.initialized yM_least.cls ∈ ax_Ts := ⟨ax_mem 1050 (by decide +kernel) (by decide +kernel), ax_mem 1051 (by decide +kernel) (by decide +kernel), ax_mem 72 (by decide +kernel) (by decide +kernel)⟩
theorem wM_layNumber : Cond.code yM_layNumber bM_layNumber 5 (some .boolean) ∈ ax_Ts := ax_mem 1065 (by decide +kernel) (by decide +kernel)
theorem wvM_layNumber : Cond.instanceMethod yM_layNumber ∈ ax_Ts ∧ Cond.selects yM_layNumber.cls yM_layNumber yM_layNumber ∈ ax_Ts ∧ Cond.initialized yM_layNumber.cls ∈ ax_Ts := ⟨ax_mem 1064 (by decide +kernel) (by decide +kernel), ax_mem 47 (by decide +kernel) (by decide +kernel), ax_mem 72 (by decide +kernel) (by decide +kernel)⟩
theorem wM_bestOrder : Cond.code yM_bestOrder bM_bestOrder 7 (some .int) ∈ ax_Ts := ax_mem 1061 (by decide +kernel) (by decide +kernel)
theorem wvM_bestOrder : Cond.instanceMethod yM_bestOrder ∈ ax_Ts ∧ Cond.selects yM_bestOrder.cls yM_bestOrder yM_bestOrder ∈ ax_Ts ∧ Cond.initialized yM_bestOrder.cls ∈ ax_Ts := ⟨ax_mem 1059 (by decide +kernel) (by decide +kernel), ax_mem 1060 (by decide +kernel) (by decide +kernel), ax_mem 72 (by decide +kernel) (by decide +kernel)⟩
theorem wM_exchange : Cond.code yM_exchange bM_exchange 4 none ∈ ax_Ts := ax_mem 1077 (by decide +kernel) (by decide +kernel)
theorem wvM_exchange : Cond.instanceMethod yM_exchange ∈ ax_Ts ∧ Cond.selects yM_exchange.cls yM_exchange yM_exchange ∈ ax_Ts ∧ Cond.initialized yM_exchange.cls ∈ ax_Ts := ⟨ax_mem 1076 (by decide +kernel) (by decide +kernel), ax_mem 49 (by decide +kernel) (by decide +kernel), ax_mem 72 (by decide +kernel) (by decide +kernel)⟩
theorem wM_swap : Cond.code yM_swap bM_swap 7 (some .int) ∈ ax_Ts := ax_mem 1073 (by decide +kernel) (by decide +kernel)
theorem wvM_swap : Cond.instanceMethod yM_swap ∈ ax_Ts ∧ Cond.selects yM_swap.cls yM_swap yM_swap ∈ ax_Ts ∧ Cond.initialized yM_swap.cls ∈ ax_Ts := ⟨ax_mem 1071 (by decide +kernel) (by decide +kernel), ax_mem 1072 (by decide +kernel) (by decide +kernel), ax_mem 72 (by decide +kernel) (by decide +kernel)⟩
theorem wM_later : Cond.code yM_later bM_later 4 (some .int) ∈ ax_Ts := ax_mem 1081 (by decide +kernel) (by decide +kernel)
theorem wvM_later : Cond.instanceMethod yM_later ∈ ax_Ts ∧ Cond.selects yM_later.cls yM_later yM_later ∈ ax_Ts ∧ Cond.initialized yM_later.cls ∈ ax_Ts := ⟨ax_mem 1079 (by decide +kernel) (by decide +kernel), ax_mem 1080 (by decide +kernel) (by decide +kernel), ax_mem 72 (by decide +kernel) (by decide +kernel)⟩
theorem wM_bound : Cond.code yM_bound bM_bound 3 (some .int) ∈ ax_Ts := ax_mem 1085 (by decide +kernel) (by decide +kernel)
theorem wvM_bound : Cond.instanceMethod yM_bound ∈ ax_Ts ∧ Cond.selects yM_bound.cls yM_bound yM_bound ∈ ax_Ts ∧ Cond.initialized yM_bound.cls ∈ ax_Ts := ⟨ax_mem 1083 (by decide +kernel) (by decide +kernel), ax_mem 1084 (by decide +kernel) (by decide +kernel), ax_mem 72 (by decide +kernel) (by decide +kernel)⟩
theorem wM_layPart : Cond.code yM_layPart bM_layPart 4 none ∈ ax_Ts := ax_mem 1097 (by decide +kernel) (by decide +kernel)
theorem wvM_layPart : Cond.instanceMethod yM_layPart ∈ ax_Ts ∧ Cond.selects yM_layPart.cls yM_layPart yM_layPart ∈ ax_Ts ∧ Cond.initialized yM_layPart.cls ∈ ax_Ts := ⟨ax_mem 1096 (by decide +kernel) (by decide +kernel), ax_mem 51 (by decide +kernel) (by decide +kernel), ax_mem 72 (by decide +kernel) (by decide +kernel)⟩
theorem wM_doorsOf : Cond.code yM_doorsOf bM_doorsOf 5 (some .int) ∈ ax_Ts := ax_mem 1093 (by decide +kernel) (by decide +kernel)
theorem wvM_doorsOf : Cond.instanceMethod yM_doorsOf ∈ ax_Ts ∧ Cond.selects yM_doorsOf.cls yM_doorsOf yM_doorsOf ∈ ax_Ts ∧ Cond.initialized yM_doorsOf.cls ∈ ax_Ts := ⟨ax_mem 1092 (by decide +kernel) (by decide +kernel), ax_mem 50 (by decide +kernel) (by decide +kernel), ax_mem 72 (by decide +kernel) (by decide +kernel)⟩
theorem wM_doors : Cond.code yM_doors bM_doors 2 (some .int) ∈ ax_Ts := ax_mem 1089 (by decide +kernel) (by decide +kernel)
theorem wvM_doors : Cond.instanceMethod yM_doors ∈ ax_Ts ∧ Cond.selects yM_doors.cls yM_doors yM_doors ∈ ax_Ts ∧ Cond.initialized yM_doors.cls ∈ ax_Ts := ⟨ax_mem 1087 (by decide +kernel) (by decide +kernel), ax_mem 1088 (by decide +kernel) (by decide +kernel), ax_mem 72 (by decide +kernel) (by decide +kernel)⟩
theorem wM_draw : Cond.code yM_draw bM_draw 2 (some .int) ∈ ax_Ts := ax_mem 1110 (by decide +kernel) (by decide +kernel)
theorem wvM_draw : Cond.instanceMethod yM_draw ∈ ax_Ts ∧ Cond.selects yM_draw.cls yM_draw yM_draw ∈ ax_Ts ∧ Cond.initialized yM_draw.cls ∈ ax_Ts := ⟨ax_mem 1109 (by decide +kernel) (by decide +kernel), ax_mem 53 (by decide +kernel) (by decide +kernel), ax_mem 72 (by decide +kernel) (by decide +kernel)⟩
theorem wM_mixedOf : Cond.code yM_mixedOf bM_mixedOf 8 (some .int) ∈ ax_Ts := ax_mem 1106 (by decide +kernel) (by decide +kernel)
theorem wvM_mixedOf : Cond.instanceMethod yM_mixedOf ∈ ax_Ts ∧ Cond.selects yM_mixedOf.cls yM_mixedOf yM_mixedOf ∈ ax_Ts ∧ Cond.initialized yM_mixedOf.cls ∈ ax_Ts := ⟨ax_mem 1105 (by decide +kernel) (by decide +kernel), ax_mem 52 (by decide +kernel) (by decide +kernel), ax_mem 72 (by decide +kernel) (by decide +kernel)⟩
theorem wM_mixed : Cond.code yM_mixed bM_mixed 4 (some .int) ∈ ax_Ts := ax_mem 1101 (by decide +kernel) (by decide +kernel)
theorem wvM_mixed : Cond.instanceMethod yM_mixed ∈ ax_Ts ∧ Cond.selects yM_mixed.cls yM_mixed yM_mixed ∈ ax_Ts ∧ Cond.initialized yM_mixed.cls ∈ ax_Ts := ⟨ax_mem 1099 (by decide +kernel) (by decide +kernel), ax_mem 1100 (by decide +kernel) (by decide +kernel), ax_mem 72 (by decide +kernel) (by decide +kernel)⟩
theorem wM_mayGo : Cond.code yM_mayGo bM_mayGo 4 (some .boolean) ∈ ax_Ts := ax_mem 1134 (by decide +kernel) (by decide +kernel)
theorem wvM_mayGo : Cond.instanceMethod yM_mayGo ∈ ax_Ts ∧ Cond.selects yM_mayGo.cls yM_mayGo yM_mayGo ∈ ax_Ts ∧ Cond.initialized yM_mayGo.cls ∈ ax_Ts := ⟨ax_mem 1133 (by decide +kernel) (by decide +kernel), ax_mem 57 (by decide +kernel) (by decide +kernel), ax_mem 72 (by decide +kernel) (by decide +kernel)⟩
theorem wM_lowestOf : Cond.code yM_lowestOf bM_lowestOf 5 (some .int) ∈ ax_Ts := ax_mem 1130 (by decide +kernel) (by decide +kernel)
theorem wvM_lowestOf : Cond.instanceMethod yM_lowestOf ∈ ax_Ts ∧ Cond.selects yM_lowestOf.cls yM_lowestOf yM_lowestOf ∈ ax_Ts ∧ Cond.initialized yM_lowestOf.cls ∈ ax_Ts := ⟨ax_mem 1129 (by decide +kernel) (by decide +kernel), ax_mem 56 (by decide +kernel) (by decide +kernel), ax_mem 72 (by decide +kernel) (by decide +kernel)⟩
theorem wM_getUp : Cond.code yM_getUp bM_getUp 8 none ∈ ax_Ts := ax_mem 1126 (by decide +kernel) (by decide +kernel)
theorem wvM_getUp : Cond.instanceMethod yM_getUp ∈ ax_Ts ∧ Cond.selects yM_getUp.cls yM_getUp yM_getUp ∈ ax_Ts ∧ Cond.initialized yM_getUp.cls ∈ ax_Ts := ⟨ax_mem 1125 (by decide +kernel) (by decide +kernel), ax_mem 55 (by decide +kernel) (by decide +kernel), ax_mem 72 (by decide +kernel) (by decide +kernel)⟩
theorem wM_goOut : Cond.code yM_goOut bM_goOut 6 (some .int) ∈ ax_Ts := ax_mem 1122 (by decide +kernel) (by decide +kernel)
theorem wvM_goOut : Cond.instanceMethod yM_goOut ∈ ax_Ts ∧ Cond.selects yM_goOut.cls yM_goOut yM_goOut ∈ ax_Ts ∧ Cond.initialized yM_goOut.cls ∈ ax_Ts := ⟨ax_mem 1121 (by decide +kernel) (by decide +kernel), ax_mem 54 (by decide +kernel) (by decide +kernel), ax_mem 72 (by decide +kernel) (by decide +kernel)⟩
theorem wM_out : Cond.code yM_out bM_out 2 (some .int) ∈ ax_Ts := ax_mem 1118 (by decide +kernel) (by decide +kernel)
theorem wvM_out : Cond.instanceMethod yM_out ∈ ax_Ts ∧ Cond.selects yM_out.cls yM_out yM_out ∈ ax_Ts ∧ Cond.initialized yM_out.cls ∈ ax_Ts := ⟨ax_mem 1116 (by decide +kernel) (by decide +kernel), ax_mem 1117 (by decide +kernel) (by decide +kernel), ax_mem 72 (by decide +kernel) (by decide +kernel)⟩
theorem wM_outOf : Cond.code yM_outOf bM_outOf 4 (some .int) ∈ ax_Ts := ax_mem 1138 (by decide +kernel) (by decide +kernel)
theorem wvM_outOf : Cond.instanceMethod yM_outOf ∈ ax_Ts ∧ Cond.selects yM_outOf.cls yM_outOf yM_outOf ∈ ax_Ts ∧ Cond.initialized yM_outOf.cls ∈ ax_Ts := ⟨ax_mem 1136 (by decide +kernel) (by decide +kernel), ax_mem 1137 (by decide +kernel) (by decide +kernel), ax_mem 72 (by decide +kernel) (by decide +kernel)⟩
theorem wM_missed : Cond.code yM_missed bM_missed 5 (some .int) ∈ ax_Ts := ax_mem 1142 (by decide +kernel) (by decide +kernel)
theorem wvM_missed : Cond.instanceMethod yM_missed ∈ ax_Ts ∧ Cond.selects yM_missed.cls yM_missed yM_missed ∈ ax_Ts ∧ Cond.initialized yM_missed.cls ∈ ax_Ts := ⟨ax_mem 1140 (by decide +kernel) (by decide +kernel), ax_mem 1141 (by decide +kernel) (by decide +kernel), ax_mem 72 (by decide +kernel) (by decide +kernel)⟩
theorem wM_stay : Cond.code yM_stay bM_stay 7 (some .int) ∈ ax_Ts := ax_mem 1146 (by decide +kernel) (by decide +kernel)
theorem wvM_stay : Cond.instanceMethod yM_stay ∈ ax_Ts ∧ Cond.selects yM_stay.cls yM_stay yM_stay ∈ ax_Ts ∧ Cond.initialized yM_stay.cls ∈ ax_Ts := ⟨ax_mem 1144 (by decide +kernel) (by decide +kernel), ax_mem 1145 (by decide +kernel) (by decide +kernel), ax_mem 72 (by decide +kernel) (by decide +kernel)⟩
theorem wM_image : Cond.code yM_image bM_image 2 (some .int) ∈ ax_Ts := ax_mem 1151 (by decide +kernel) (by decide +kernel)
theorem wvM_image : Cond.instanceMethod yM_image ∈ ax_Ts ∧ Cond.selects yM_image.cls yM_image yM_image ∈ ax_Ts ∧ Cond.initialized yM_image.cls ∈ ax_Ts := ⟨ax_mem 1149 (by decide +kernel) (by decide +kernel), ax_mem 1150 (by decide +kernel) (by decide +kernel), ax_mem 72 (by decide +kernel) (by decide +kernel)⟩
theorem wM_restore : Cond.code yM_restore bM_restore 2 (some .int) ∈ ax_Ts := ax_mem 1155 (by decide +kernel) (by decide +kernel)
theorem wvM_restore : Cond.instanceMethod yM_restore ∈ ax_Ts ∧ Cond.selects yM_restore.cls yM_restore yM_restore ∈ ax_Ts ∧ Cond.initialized yM_restore.cls ∈ ax_Ts := ⟨ax_mem 1153 (by decide +kernel) (by decide +kernel), ax_mem 1154 (by decide +kernel) (by decide +kernel), ax_mem 72 (by decide +kernel) (by decide +kernel)⟩
theorem wM_bagsOfAll : Cond.code yM_bagsOfAll bM_bagsOfAll 3 (some .int) ∈ ax_Ts := ax_mem 1167 (by decide +kernel) (by decide +kernel)
theorem wvM_bagsOfAll : Cond.instanceMethod yM_bagsOfAll ∈ ax_Ts ∧ Cond.selects yM_bagsOfAll.cls yM_bagsOfAll yM_bagsOfAll ∈ ax_Ts ∧ Cond.initialized yM_bagsOfAll.cls ∈ ax_Ts := ⟨ax_mem 1166 (by decide +kernel) (by decide +kernel), ax_mem 59 (by decide +kernel) (by decide +kernel), ax_mem 72 (by decide +kernel) (by decide +kernel)⟩
theorem wM_countOf : Cond.code yM_countOf bM_countOf 2 (some .int) ∈ ax_Ts := ax_mem 1163 (by decide +kernel) (by decide +kernel)
theorem wvM_countOf : Cond.instanceMethod yM_countOf ∈ ax_Ts ∧ Cond.selects yM_countOf.cls yM_countOf yM_countOf ∈ ax_Ts ∧ Cond.initialized yM_countOf.cls ∈ ax_Ts := ⟨ax_mem 1162 (by decide +kernel) (by decide +kernel), ax_mem 58 (by decide +kernel) (by decide +kernel), ax_mem 72 (by decide +kernel) (by decide +kernel)⟩
theorem wM_count : Cond.code yM_count bM_count 2 (some .int) ∈ ax_Ts := ax_mem 1159 (by decide +kernel) (by decide +kernel)
theorem wvM_count : Cond.instanceMethod yM_count ∈ ax_Ts ∧ Cond.selects yM_count.cls yM_count yM_count ∈ ax_Ts ∧ Cond.initialized yM_count.cls ∈ ax_Ts := ⟨ax_mem 1157 (by decide +kernel) (by decide +kernel), ax_mem 1158 (by decide +kernel) (by decide +kernel), ax_mem 72 (by decide +kernel) (by decide +kernel)⟩
theorem wM_say : Cond.code yM_say bM_say 3 none ∈ ax_Ts := ax_mem 1176 (by decide +kernel) (by decide +kernel)
theorem wvM_say : Cond.instanceMethod yM_say ∈ ax_Ts ∧ Cond.selects yM_say.cls yM_say yM_say ∈ ax_Ts ∧ Cond.initialized yM_say.cls ∈ ax_Ts := ⟨ax_mem 1175 (by decide +kernel) (by decide +kernel), ax_mem 60 (by decide +kernel) (by decide +kernel), ax_mem 72 (by decide +kernel) (by decide +kernel)⟩
theorem wM_sayCalls : Cond.code yM_sayCalls bM_sayCalls 3 none ∈ ax_Ts := ax_mem 1181 (by decide +kernel) (by decide +kernel)
theorem wvM_sayCalls : Cond.instanceMethod yM_sayCalls ∈ ax_Ts ∧ Cond.selects yM_sayCalls.cls yM_sayCalls yM_sayCalls ∈ ax_Ts ∧ Cond.initialized yM_sayCalls.cls ∈ ax_Ts := ⟨ax_mem 1180 (by decide +kernel) (by decide +kernel), ax_mem 61 (by decide +kernel) (by decide +kernel), ax_mem 72 (by decide +kernel) (by decide +kernel)⟩
theorem wM_digest : Cond.code yM_digest bM_digest 2 (some .long) ∈ ax_Ts := ax_mem 1171 (by decide +kernel) (by decide +kernel)
theorem wvM_digest : Cond.instanceMethod yM_digest ∈ ax_Ts ∧ Cond.selects yM_digest.cls yM_digest yM_digest ∈ ax_Ts ∧ Cond.initialized yM_digest.cls ∈ ax_Ts := ⟨ax_mem 1169 (by decide +kernel) (by decide +kernel), ax_mem 1170 (by decide +kernel) (by decide +kernel), ax_mem 72 (by decide +kernel) (by decide +kernel)⟩
theorem lB_54 : ax_LV "RowsIntoPlane$Boarding" 54 yB_open bB_open 5 none 3 := ⟨ax_mem 540 (by decide +kernel) (by decide +kernel), wvB_open.1, wvB_open.2.1, wvB_open.2.2, wB_open, by decide, by decide, by decide +kernel, by decide⟩
theorem lB_64 : ax_LV "RowsIntoPlane$Boarding" 64 yB_openWhole bB_openWhole 4 none 2 := ⟨ax_mem 656 (by decide +kernel) (by decide +kernel), wvB_openWhole.1, wvB_openWhole.2.1, wvB_openWhole.2.2, wB_openWhole, by decide, by decide, by decide +kernel, by decide⟩
theorem lB_68 : ax_LV "RowsIntoPlane$Boarding" 68 yC_frontRows bC_frontRows 1 (some .int) 0 := ⟨ax_mem 657 (by decide +kernel) (by decide +kernel), wvC_frontRows.1, wvC_frontRows.2.1, wvC_frontRows.2.2, wC_frontRows, by decide, by decide, by decide +kernel, by decide⟩
theorem mB_75 : ax_MW "RowsIntoPlane$Boarding" 75 Lib.Math.min.name Lib.Math.min.code 2 := ⟨ax_mem 544 (by decide +kernel) (by decide +kernel), ax_mem 513 (by decide +kernel) (by decide +kernel), ax_mem 73 (by decide +kernel) (by decide +kernel), ax_mem 514 (by decide +kernel) (by decide +kernel)⟩
theorem lB_81 : ax_LV "RowsIntoPlane$Boarding" 81 yB_run bB_run 6 none 2 := ⟨ax_mem 620 (by decide +kernel) (by decide +kernel), wvB_run.1, wvB_run.2.1, wvB_run.2.2, wB_run, by decide, by decide, by decide +kernel, by decide⟩
theorem lB_91 : ax_LV "RowsIntoPlane$Boarding" 91 yB_begin bB_begin 5 none 1 := ⟨ax_mem 549 (by decide +kernel) (by decide +kernel), wvB_begin.1, wvB_begin.2.1, wvB_begin.2.2, wB_begin, by decide, by decide, by decide +kernel, by decide⟩
theorem lB_95 : ax_LV "RowsIntoPlane$Boarding" 95 yB_goOn bB_goOn 4 none 1 := ⟨ax_mem 553 (by decide +kernel) (by decide +kernel), wvB_goOn.1, wvB_goOn.2.1, wvB_goOn.2.2, wB_goOn, by decide, by decide, by decide +kernel, by decide⟩
theorem lB_111 : ax_LV "RowsIntoPlane$Boarding" 111 yB_sitIfReady bB_sitIfReady 4 none 3 := ⟨ax_mem 557 (by decide +kernel) (by decide +kernel), wvB_sitIfReady.1, wvB_sitIfReady.2.1, wvB_sitIfReady.2.2, wB_sitIfReady, by decide, by decide, by decide +kernel, by decide⟩
theorem lB_114 : ax_LV "RowsIntoPlane$Boarding" 114 yB_timeToSit bB_timeToSit 5 (some .int) 1 := ⟨ax_mem 561 (by decide +kernel) (by decide +kernel), wvB_timeToSit.1, wvB_timeToSit.2.1, wvB_timeToSit.2.2, wB_timeToSit, by decide, by decide, by decide +kernel, by decide⟩
theorem lB_118 : ax_LV "RowsIntoPlane$Boarding" 118 yB_inTheWayOf bB_inTheWayOf 5 (some .int) 1 := ⟨ax_mem 565 (by decide +kernel) (by decide +kernel), wvB_inTheWayOf.1, wvB_inTheWayOf.2.1, wvB_inTheWayOf.2.2, wB_inTheWayOf, by decide, by decide, by decide +kernel, by decide⟩
theorem lB_121 : ax_LV "RowsIntoPlane$Boarding" 121 yB_nearestBin bB_nearestBin 3 (some .int) 1 := ⟨ax_mem 569 (by decide +kernel) (by decide +kernel), wvB_nearestBin.1, wvB_nearestBin.2.1, wvB_nearestBin.2.2, wB_nearestBin, by decide, by decide, by decide +kernel, by decide⟩
theorem mB_124 : ax_MW "RowsIntoPlane$Boarding" 124 Lib.Math.abs.name Lib.Math.abs.code 1 := ⟨ax_mem 573 (by decide +kernel) (by decide +kernel), ax_mem 574 (by decide +kernel) (by decide +kernel), ax_mem 73 (by decide +kernel) (by decide +kernel), ax_mem 575 (by decide +kernel) (by decide +kernel)⟩
theorem lC_22 : ax_LN yX_outside bX_outside 3 (some .boolean) 3 := ⟨rfl, wvX_outside.1, wvX_outside.2, wX_outside, by decide, by decide, by decide +kernel, by decide⟩
theorem lK_38 : ax_LV "RowsIntoPlane$Call" 38 yK_isAhead bK_isAhead 11 (some .boolean) 5 := ⟨ax_mem 498 (by decide +kernel) (by decide +kernel), wvK_isAhead.1, wvK_isAhead.2.1, wvK_isAhead.2.2, wK_isAhead, by decide, by decide, by decide +kernel, by decide⟩
theorem lK_42 : ax_LV "RowsIntoPlane$Call" 42 yN_putIn bN_putIn 4 none 2 := ⟨ax_mem 515 (by decide +kernel) (by decide +kernel), wvN_putIn.1, wvN_putIn.2.1, wvN_putIn.2.2, wN_putIn, by decide, by decide, by decide +kernel, by decide⟩
theorem lK_49 : ax_LV "RowsIntoPlane$Call" 49 yN_takeOut bN_takeOut 4 none 1 := ⟨ax_mem 519 (by decide +kernel) (by decide +kernel), wvN_takeOut.1, wvN_takeOut.2.1, wvN_takeOut.2.2, wN_takeOut, by decide, by decide, by decide +kernel, by decide⟩
theorem lK_56 : ax_LV "RowsIntoPlane$Call" 56 yN_placeOf bN_placeOf 3 (some .int) 1 := ⟨ax_mem 527 (by decide +kernel) (by decide +kernel), wvN_placeOf.1, wvN_placeOf.2.1, wvN_placeOf.2.2, wN_placeOf, by decide, by decide, by decide +kernel, by decide⟩
theorem lK_60 : ax_LS "RowsIntoPlane$Call" 60 yK_rankOf bK_rankOf 1 (some .int) 1 := ⟨ax_mem 502 (by decide +kernel) (by decide +kernel), wvK_rankOf.1, wvK_rankOf.2, wK_rankOf, by decide, by decide, by decide +kernel, by decide⟩
theorem lK_63 : ax_LV "RowsIntoPlane$Call" 63 yK_valueOf bK_valueOf 7 (some .int) 5 := ⟨ax_mem 505 (by decide +kernel) (by decide +kernel), wvK_valueOf.1, wvK_valueOf.2.1, wvK_valueOf.2.2, wK_valueOf, by decide, by decide, by decide +kernel, by decide⟩
theorem mK_67 : ax_MW "RowsIntoPlane$Call" 67 Lib.Math.max.name Lib.Math.max.code 2 := ⟨ax_mem 509 (by decide +kernel) (by decide +kernel), ax_mem 510 (by decide +kernel) (by decide +kernel), ax_mem 73 (by decide +kernel) (by decide +kernel), ax_mem 511 (by decide +kernel) (by decide +kernel)⟩
theorem mK_90 : ax_MW "RowsIntoPlane$Call" 90 Lib.Math.min.name Lib.Math.min.code 2 := ⟨ax_mem 512 (by decide +kernel) (by decide +kernel), ax_mem 513 (by decide +kernel) (by decide +kernel), ax_mem 73 (by decide +kernel) (by decide +kernel), ax_mem 514 (by decide +kernel) (by decide +kernel)⟩
theorem mI_30 : ax_AW "RowsIntoPlane$Image" 30 := ⟨ax_mem 736 (by decide +kernel) (by decide +kernel), ax_mem 615 (by decide +kernel) (by decide +kernel), ax_mem 614 (by decide +kernel) (by decide +kernel), ax_mem 74 (by decide +kernel) (by decide +kernel)⟩
theorem mL_29 : ax_MW "RowsIntoPlane$Leaving" 29 Lib.Math.min.name Lib.Math.min.code 2 := ⟨ax_mem 687 (by decide +kernel) (by decide +kernel), ax_mem 513 (by decide +kernel) (by decide +kernel), ax_mem 73 (by decide +kernel) (by decide +kernel), ax_mem 514 (by decide +kernel) (by decide +kernel)⟩
theorem lL_53 : ax_LV "RowsIntoPlane$Leaving" 53 yL_goOn bL_goOn 4 none 1 := ⟨ax_mem 688 (by decide +kernel) (by decide +kernel), wvL_goOn.1, wvL_goOn.2.1, wvL_goOn.2.2, wL_goOn, by decide, by decide, by decide +kernel, by decide⟩
theorem lL_57 : ax_LV "RowsIntoPlane$Leaving" 57 yL_getUp bL_getUp 4 none 0 := ⟨ax_mem 692 (by decide +kernel) (by decide +kernel), wvL_getUp.1, wvL_getUp.2.1, wvL_getUp.2.2, wL_getUp, by decide, by decide, by decide +kernel, by decide⟩
theorem lL_60 : ax_LV "RowsIntoPlane$Leaving" 60 yL_leastTurn bL_leastTurn 3 (some .int) 0 := ⟨ax_mem 696 (by decide +kernel) (by decide +kernel), wvL_leastTurn.1, wvL_leastTurn.2.1, wvL_leastTurn.2.2, wL_leastTurn, by decide, by decide, by decide +kernel, by decide⟩
theorem lL_64 : ax_LV "RowsIntoPlane$Leaving" 64 yL_nextOf bL_nextOf 5 (some .int) 2 := ⟨ax_mem 704 (by decide +kernel) (by decide +kernel), wvL_nextOf.1, wvL_nextOf.2.1, wvL_nextOf.2.2, wL_nextOf, by decide, by decide, by decide +kernel, by decide⟩
theorem lL_70 : ax_LV "RowsIntoPlane$Leaving" 70 yL_turnOf bL_turnOf 2 (some .int) 1 := ⟨ax_mem 700 (by decide +kernel) (by decide +kernel), wvL_turnOf.1, wvL_turnOf.2.1, wvL_turnOf.2.2, wL_turnOf, by decide, by decide, by decide +kernel, by decide⟩
theorem lL_80 : ax_LV "RowsIntoPlane$Leaving" 80 yL_isNearer bL_isNearer 3 (some .boolean) 2 := ⟨ax_mem 708 (by decide +kernel) (by decide +kernel), wvL_isNearer.1, wvL_isNearer.2.1, wvL_isNearer.2.2, wL_isNearer, by decide, by decide, by decide +kernel, by decide⟩
theorem mN_15 : ax_MW "RowsIntoPlane$Line" 15 Lib.Math.min.name Lib.Math.min.code 2 := ⟨ax_mem 608 (by decide +kernel) (by decide +kernel), ax_mem 513 (by decide +kernel) (by decide +kernel), ax_mem 73 (by decide +kernel) (by decide +kernel), ax_mem 514 (by decide +kernel) (by decide +kernel)⟩
theorem mN_25 : ax_AW "RowsIntoPlane$Line" 25 := ⟨ax_mem 613 (by decide +kernel) (by decide +kernel), ax_mem 615 (by decide +kernel) (by decide +kernel), ax_mem 614 (by decide +kernel) (by decide +kernel), ax_mem 74 (by decide +kernel) (by decide +kernel)⟩
theorem lN_31 : ax_LV "RowsIntoPlane$Line" 31 yN_placeOf bN_placeOf 3 (some .int) 1 := ⟨ax_mem 523 (by decide +kernel) (by decide +kernel), wvN_placeOf.1, wvN_placeOf.2.1, wvN_placeOf.2.2, wN_placeOf, by decide, by decide, by decide +kernel, by decide⟩
theorem lN_35 : ax_LV "RowsIntoPlane$Line" 35 yN_exchange bN_exchange 4 none 2 := ⟨ax_mem 625 (by decide +kernel) (by decide +kernel), wvN_exchange.1, wvN_exchange.2.1, wvN_exchange.2.2, wN_exchange, by decide, by decide, by decide +kernel, by decide⟩
theorem lG_15 : ax_LS "RowsIntoPlane$Page" 15 yG_codeIn bG_codeIn 3 (some .int) 2 := ⟨ax_mem 438 (by decide +kernel) (by decide +kernel), wvG_codeIn.1, wvG_codeIn.2, wG_codeIn, by decide, by decide, by decide +kernel, by decide⟩
theorem lG_28 : ax_LV "RowsIntoPlane$Page" 28 yG_dueBehind bG_dueBehind 3 (some .int) 2 := ⟨ax_mem 458 (by decide +kernel) (by decide +kernel), wvG_dueBehind.1, wvG_dueBehind.2.1, wvG_dueBehind.2.2, wG_dueBehind, by decide, by decide, by decide +kernel, by decide⟩
theorem lG_32 : ax_LV "RowsIntoPlane$Page" 32 yG_firstFault bG_firstFault 3 (some .int) 0 := ⟨ax_mem 473 (by decide +kernel) (by decide +kernel), wvG_firstFault.1, wvG_firstFault.2.1, wvG_firstFault.2.2, wG_firstFault, by decide, by decide, by decide +kernel, by decide⟩
theorem lG_36 : ax_LS "RowsIntoPlane$Page" 36 yG_dueBehindKey bG_dueBehindKey 1 (some .int) 1 := ⟨ax_mem 462 (by decide +kernel) (by decide +kernel), wvG_dueBehindKey.1, wvG_dueBehindKey.2, wG_dueBehindKey, by decide, by decide, by decide +kernel, by decide⟩
theorem lX_70 : ax_LS "RowsIntoPlane" 70 yX_outside bX_outside 3 (some .boolean) 3 := ⟨ax_mem 379 (by decide +kernel) (by decide +kernel), wvX_outside.1, wvX_outside.2, wX_outside, by decide, by decide, by decide +kernel, by decide⟩
theorem lX_74 : ax_LV "RowsIntoPlane" 74 yC_build bC_build 4 none 3 := ⟨ax_mem 382 (by decide +kernel) (by decide +kernel), wvC_build.1, wvC_build.2.1, wvC_build.2.2, wC_build, by decide, by decide, by decide +kernel, by decide⟩
theorem lX_86 : ax_LV "RowsIntoPlane" 86 yC_seats bC_seats 1 (some .int) 0 := ⟨ax_mem 386 (by decide +kernel) (by decide +kernel), wvC_seats.1, wvC_seats.2.1, wvC_seats.2.2, wC_seats, by decide, by decide, by decide +kernel, by decide⟩
theorem lX_90 : ax_LV "RowsIntoPlane" 90 yC_isMissing bC_isMissing 1 (some .boolean) 0 := ⟨ax_mem 394 (by decide +kernel) (by decide +kernel), wvC_isMissing.1, wvC_isMissing.2.1, wvC_isMissing.2.2, wC_isMissing, by decide, by decide, by decide +kernel, by decide⟩
theorem lX_94 : ax_LV "RowsIntoPlane" 94 yE_has bE_has 2 (some .boolean) 1 := ⟨ax_mem 398 (by decide +kernel) (by decide +kernel), wvE_has.1, wvE_has.2.1, wvE_has.2.2, wE_has, by decide, by decide, by decide +kernel, by decide⟩
theorem lX_98 : ax_LV "RowsIntoPlane" 98 yC_hasSeat bC_hasSeat 4 (some .boolean) 3 := ⟨ax_mem 402 (by decide +kernel) (by decide +kernel), wvC_hasSeat.1, wvC_hasSeat.2.1, wvC_hasSeat.2.2, wC_hasSeat, by decide, by decide, by decide +kernel, by decide⟩
theorem lX_101 : ax_LV "RowsIntoPlane" 101 yE_haveSeat bE_haveSeat 5 (some .boolean) 3 := ⟨ax_mem 407 (by decide +kernel) (by decide +kernel), wvE_haveSeat.1, wvE_haveSeat.2.1, wvE_haveSeat.2.2, wE_haveSeat, by decide, by decide, by decide +kernel, by decide⟩
theorem lX_126 : ax_LV "RowsIntoPlane" 126 yE_isA bE_isA 3 (some .boolean) 2 := ⟨ax_mem 415 (by decide +kernel) (by decide +kernel), wvE_isA.1, wvE_isA.2.1, wvE_isA.2.2, wE_isA, by decide, by decide, by decide +kernel, by decide⟩
theorem lX_130 : ax_LV "RowsIntoPlane" 130 yE_tell bE_tell 3 (some .int) 2 := ⟨ax_mem 423 (by decide +kernel) (by decide +kernel), wvE_tell.1, wvE_tell.2.1, wvE_tell.2.2, wE_tell, by decide, by decide, by decide +kernel, by decide⟩
theorem lX_134 : ax_LS "RowsIntoPlane" 134 yG_lettersIn bG_lettersIn 6 (some .int) 1 := ⟨ax_mem 435 (by decide +kernel) (by decide +kernel), wvG_lettersIn.1, wvG_lettersIn.2, wG_lettersIn, by decide, by decide, by decide +kernel, by decide⟩
theorem lX_139 : ax_LV "RowsIntoPlane" 139 yG_write bG_write 5 none 2 := ⟨ax_mem 442 (by decide +kernel) (by decide +kernel), wvG_write.1, wvG_write.2.1, wvG_write.2.2, wG_write, by decide, by decide, by decide +kernel, by decide⟩
theorem lX_143 : ax_LV "RowsIntoPlane" 143 yG_firstFault bG_firstFault 3 (some .int) 0 := ⟨ax_mem 454 (by decide +kernel) (by decide +kernel), wvG_firstFault.1, wvG_firstFault.2.1, wvG_firstFault.2.2, wG_firstFault, by decide, by decide, by decide +kernel, by decide⟩
theorem lX_146 : ax_LV "RowsIntoPlane" 146 yG_isCall bG_isCall 1 (some .boolean) 0 := ⟨ax_mem 469 (by decide +kernel) (by decide +kernel), wvG_isCall.1, wvG_isCall.2.1, wvG_isCall.2.2, wG_isCall, by decide, by decide, by decide +kernel, by decide⟩
theorem lX_152 : ax_LV "RowsIntoPlane" 152 yK_read bK_read 4 none 1 := ⟨ax_mem 474 (by decide +kernel) (by decide +kernel), wvK_read.1, wvK_read.2.1, wvK_read.2.2, wK_read, by decide, by decide, by decide +kernel, by decide⟩
theorem lX_156 : ax_LV "RowsIntoPlane" 156 yX_refusalOf bX_refusalOf 2 (some .int) 1 := ⟨ax_mem 482 (by decide +kernel) (by decide +kernel), wvX_refusalOf.1, wvX_refusalOf.2.1, wvX_refusalOf.2.2, wX_refusalOf, by decide, by decide, by decide +kernel, by decide⟩
theorem lX_160 : ax_LV "RowsIntoPlane" 160 yX_lineUp bX_lineUp 3 none 2 := ⟨ax_mem 490 (by decide +kernel) (by decide +kernel), wvX_lineUp.1, wvX_lineUp.2.1, wvX_lineUp.2.2, wX_lineUp, by decide, by decide, by decide +kernel, by decide⟩
theorem lX_168 : ax_LV "RowsIntoPlane" 168 yX_boardBy bX_boardBy 4 none 3 := ⟨ax_mem 532 (by decide +kernel) (by decide +kernel), wvX_boardBy.1, wvX_boardBy.2.1, wvX_boardBy.2.2, wX_boardBy, by decide, by decide, by decide +kernel, by decide⟩
theorem lX_171 : ax_LV "RowsIntoPlane" 171 yB_tell bB_tell 4 (some .int) 1 := ⟨ax_mem 576 (by decide +kernel) (by decide +kernel), wvB_tell.1, wvB_tell.2.1, wvB_tell.2.2, wB_tell, by decide, by decide, by decide +kernel, by decide⟩
theorem lX_173 : ax_LV "RowsIntoPlane" 173 yX_hasCall bX_hasCall 2 (some .boolean) 1 := ⟨ax_mem 486 (by decide +kernel) (by decide +kernel), wvX_hasCall.1, wvX_hasCall.2.1, wvX_hasCall.2.2, wX_hasCall, by decide, by decide, by decide +kernel, by decide⟩
theorem lX_176 : ax_LV "RowsIntoPlane" 176 yB_tellOf bB_tellOf 3 (some .int) 2 := ⟨ax_mem 584 (by decide +kernel) (by decide +kernel), wvB_tellOf.1, wvB_tellOf.2.1, wvB_tellOf.2.2, wB_tellOf, by decide, by decide, by decide +kernel, by decide⟩
theorem lX_191 : ax_LV "RowsIntoPlane" 191 yX_findBest bX_findBest 3 (some .int) 0 := ⟨ax_mem 600 (by decide +kernel) (by decide +kernel), wvX_findBest.1, wvX_findBest.2.1, wvX_findBest.2.2, wX_findBest, by decide, by decide, by decide +kernel, by decide⟩
theorem lX_194 : ax_LV "RowsIntoPlane" 194 yN_exchange bN_exchange 4 none 2 := ⟨ax_mem 633 (by decide +kernel) (by decide +kernel), wvN_exchange.1, wvN_exchange.2.1, wvN_exchange.2.2, wN_exchange, by decide, by decide, by decide +kernel, by decide⟩
theorem lX_197 : ax_LV "RowsIntoPlane" 197 yB_isThrough bB_isThrough 3 (some .boolean) 2 := ⟨ax_mem 616 (by decide +kernel) (by decide +kernel), wvB_isThrough.1, wvB_isThrough.2.1, wvB_isThrough.2.2, wB_isThrough, by decide, by decide, by decide +kernel, by decide⟩
theorem lX_201 : ax_LV "RowsIntoPlane" 201 yN_takeOut bN_takeOut 4 none 1 := ⟨ax_mem 638 (by decide +kernel) (by decide +kernel), wvN_takeOut.1, wvN_takeOut.2.1, wvN_takeOut.2.2, wN_takeOut, by decide, by decide, by decide +kernel, by decide⟩
theorem lX_205 : ax_LV "RowsIntoPlane" 205 yN_putIn bN_putIn 4 none 2 := ⟨ax_mem 639 (by decide +kernel) (by decide +kernel), wvN_putIn.1, wvN_putIn.2.1, wvN_putIn.2.2, wN_putIn, by decide, by decide, by decide +kernel, by decide⟩
theorem lX_208 : ax_LV "RowsIntoPlane" 208 yB_openWhole bB_openWhole 4 none 2 := ⟨ax_mem 536 (by decide +kernel) (by decide +kernel), wvB_openWhole.1, wvB_openWhole.2.1, wvB_openWhole.2.2, wB_openWhole, by decide, by decide, by decide +kernel, by decide⟩
theorem lX_212 : ax_LV "RowsIntoPlane" 212 yB_run bB_run 6 none 2 := ⟨ax_mem 545 (by decide +kernel) (by decide +kernel), wvB_run.1, wvB_run.2.1, wvB_run.2.2, wB_run, by decide, by decide, by decide +kernel, by decide⟩
theorem lX_216 : ax_LV "RowsIntoPlane" 216 yX_secondsByDoors bX_secondsByDoors 3 (some .int) 1 := ⟨ax_mem 648 (by decide +kernel) (by decide +kernel), wvX_secondsByDoors.1, wvX_secondsByDoors.2.1, wvX_secondsByDoors.2.2, wX_secondsByDoors, by decide, by decide, by decide +kernel, by decide⟩
theorem lX_219 : ax_LV "RowsIntoPlane" 219 yN_byNumber bN_byNumber 3 none 1 := ⟨ax_mem 604 (by decide +kernel) (by decide +kernel), wvN_byNumber.1, wvN_byNumber.2.1, wvN_byNumber.2.2, wN_byNumber, by decide, by decide, by decide +kernel, by decide⟩
theorem lX_222 : ax_LV "RowsIntoPlane" 222 yN_mix bN_mix 5 (some .int) 1 := ⟨ax_mem 670 (by decide +kernel) (by decide +kernel), wvN_mix.1, wvN_mix.2.1, wvN_mix.2.2, wN_mix, by decide, by decide, by decide +kernel, by decide⟩
theorem mX_225 : ax_MW "RowsIntoPlane" 225 Lib.Math.min.name Lib.Math.min.code 2 := ⟨ax_mem 678 (by decide +kernel) (by decide +kernel), ax_mem 513 (by decide +kernel) (by decide +kernel), ax_mem 73 (by decide +kernel) (by decide +kernel), ax_mem 514 (by decide +kernel) (by decide +kernel)⟩
theorem mX_230 : ax_MW "RowsIntoPlane" 230 Lib.Math.max.name Lib.Math.max.code 2 := ⟨ax_mem 665 (by decide +kernel) (by decide +kernel), ax_mem 510 (by decide +kernel) (by decide +kernel), ax_mem 73 (by decide +kernel) (by decide +kernel), ax_mem 511 (by decide +kernel) (by decide +kernel)⟩
theorem lX_233 : ax_LV "RowsIntoPlane" 233 yL_run bL_run 4 none 2 := ⟨ax_mem 683 (by decide +kernel) (by decide +kernel), wvL_run.1, wvL_run.2.1, wvL_run.2.2, wL_run, by decide, by decide, by decide +kernel, by decide⟩
theorem lX_239 : ax_LV "RowsIntoPlane" 239 yE_thatStayFor bE_thatStayFor 4 (some .int) 1 := ⟨ax_mem 724 (by decide +kernel) (by decide +kernel), wvE_thatStayFor.1, wvE_thatStayFor.2.1, wvE_thatStayFor.2.2, wE_thatStayFor, by decide, by decide, by decide +kernel, by decide⟩
theorem lX_242 : ax_LV "RowsIntoPlane" 242 yI_keep bI_keep 2 none 1 := ⟨ax_mem 732 (by decide +kernel) (by decide +kernel), wvI_keep.1, wvI_keep.2.1, wvI_keep.2.2, wI_keep, by decide, by decide, by decide +kernel, by decide⟩
theorem lX_245 : ax_LV "RowsIntoPlane" 245 yI_giveBack bI_giveBack 2 none 1 := ⟨ax_mem 741 (by decide +kernel) (by decide +kernel), wvI_giveBack.1, wvI_giveBack.2.1, wvI_giveBack.2.2, wI_giveBack, by decide, by decide, by decide +kernel, by decide⟩
theorem lX_254 : ax_LV "RowsIntoPlane" 254 yE_bagsOfAll bE_bagsOfAll 3 (some .int) 0 := ⟨ax_mem 749 (by decide +kernel) (by decide +kernel), wvE_bagsOfAll.1, wvE_bagsOfAll.2.1, wvE_bagsOfAll.2.2, wE_bagsOfAll, by decide, by decide, by decide +kernel, by decide⟩
theorem lX_261 : ax_LV "RowsIntoPlane" 261 yX_withCall bX_withCall 7 (some .long) 2 := ⟨ax_mem 759 (by decide +kernel) (by decide +kernel), wvX_withCall.1, wvX_withCall.2.1, wvX_withCall.2.2, wX_withCall, by decide, by decide, by decide +kernel, by decide⟩
theorem lX_265 : ax_LV "RowsIntoPlane" 265 yX_out bX_out 2 (some .int) 1 := ⟨ax_mem 763 (by decide +kernel) (by decide +kernel), wvX_out.1, wvX_out.2.1, wvX_out.2.2, wX_out, by decide, by decide, by decide +kernel, by decide⟩
theorem lX_268 : ax_LV "RowsIntoPlane" 268 yX_least bX_least 4 (some .int) 0 := ⟨ax_mem 764 (by decide +kernel) (by decide +kernel), wvX_least.1, wvX_least.2.1, wvX_least.2.2, wX_least, by decide, by decide, by decide +kernel, by decide⟩
theorem lX_271 : ax_LV "RowsIntoPlane" 271 yX_mixed bX_mixed 8 (some .int) 3 := ⟨ax_mem 765 (by decide +kernel) (by decide +kernel), wvX_mixed.1, wvX_mixed.2.1, wvX_mixed.2.2, wX_mixed, by decide, by decide, by decide +kernel, by decide⟩
theorem lX_279 : ax_LV "RowsIntoPlane" 279 yX_count bX_count 2 (some .int) 1 := ⟨ax_mem 766 (by decide +kernel) (by decide +kernel), wvX_count.1, wvX_count.2.1, wvX_count.2.2, wX_count, by decide, by decide, by decide +kernel, by decide⟩
theorem lX_282 : ax_LV "RowsIntoPlane" 282 yK_arrange bK_arrange 7 none 4 := ⟨ax_mem 494 (by decide +kernel) (by decide +kernel), wvK_arrange.1, wvK_arrange.2.1, wvK_arrange.2.2, wK_arrange, by decide, by decide, by decide +kernel, by decide⟩
theorem lX_286 : ax_LV "RowsIntoPlane" 286 yN_copy bN_copy 2 none 1 := ⟨ax_mem 609 (by decide +kernel) (by decide +kernel), wvN_copy.1, wvN_copy.2.1, wvN_copy.2.2, wN_copy, by decide, by decide, by decide +kernel, by decide⟩
theorem lX_290 : ax_LV "RowsIntoPlane" 290 yN_goToNext bN_goToNext 5 (some .boolean) 0 := ⟨ax_mem 621 (by decide +kernel) (by decide +kernel), wvN_goToNext.1, wvN_goToNext.2.1, wvN_goToNext.2.2, wN_goToNext, by decide, by decide, by decide +kernel, by decide⟩
theorem lX_293 : ax_LV "RowsIntoPlane" 293 yB_openFront bB_openFront 3 none 2 := ⟨ax_mem 652 (by decide +kernel) (by decide +kernel), wvB_openFront.1, wvB_openFront.2.1, wvB_openFront.2.2, wB_openFront, by decide, by decide, by decide +kernel, by decide⟩
theorem lX_296 : ax_LV "RowsIntoPlane" 296 yB_openBack bB_openBack 4 none 2 := ⟨ax_mem 661 (by decide +kernel) (by decide +kernel), wvB_openBack.1, wvB_openBack.2.1, wvB_openBack.2.2, wB_openBack, by decide, by decide, by decide +kernel, by decide⟩
theorem lM_72 : ax_LS "RowsIntoPlaneModel" 72 yM_in bM_in 6 (some .boolean) 3 := ⟨ax_mem 891 (by decide +kernel) (by decide +kernel), wvM_in.1, wvM_in.2, wM_in, by decide, by decide, by decide +kernel, by decide⟩
theorem lM_95 : ax_LV "RowsIntoPlaneModel" 95 yM_lacks bM_lacks 1 (some .boolean) 0 := ⟨ax_mem 900 (by decide +kernel) (by decide +kernel), wvM_lacks.1, wvM_lacks.2.1, wvM_lacks.2.2, wM_lacks, by decide, by decide, by decide +kernel, by decide⟩
theorem lM_99 : ax_LV "RowsIntoPlaneModel" 99 yM_isPerson bM_isPerson 2 (some .boolean) 1 := ⟨ax_mem 904 (by decide +kernel) (by decide +kernel), wvM_isPerson.1, wvM_isPerson.2.1, wvM_isPerson.2.2, wM_isPerson, by decide, by decide, by decide +kernel, by decide⟩
theorem lM_105 : ax_LV "RowsIntoPlaneModel" 105 yM_isTaken bM_isTaken 6 (some .boolean) 3 := ⟨ax_mem 909 (by decide +kernel) (by decide +kernel), wvM_isTaken.1, wvM_isTaken.2.1, wvM_isTaken.2.2, wM_isTaken, by decide, by decide, by decide +kernel, by decide⟩
theorem lM_126 : ax_LS "RowsIntoPlaneModel" 126 yM_isKey bM_isKey 1 (some .boolean) 1 := ⟨ax_mem 949 (by decide +kernel) (by decide +kernel), wvM_isKey.1, wvM_isKey.2, wM_isKey, by decide, by decide, by decide +kernel, by decide⟩
theorem lM_129 : ax_LV "RowsIntoPlaneModel" 129 yM_go bM_go 2 (some .boolean) 1 := ⟨ax_mem 943 (by decide +kernel) (by decide +kernel), wvM_go.1, wvM_go.2.1, wvM_go.2.2, wM_go, by decide, by decide, by decide +kernel, by decide⟩
theorem lM_132 : ax_LV "RowsIntoPlaneModel" 132 yM_faultOf bM_faultOf 2 (some .int) 0 := ⟨ax_mem 939 (by decide +kernel) (by decide +kernel), wvM_faultOf.1, wvM_faultOf.2.1, wvM_faultOf.2.2, wM_faultOf, by decide, by decide, by decide +kernel, by decide⟩
theorem lM_142 : ax_LV "RowsIntoPlaneModel" 142 yM_depthOf bM_depthOf 2 (some .int) 1 := ⟨ax_mem 984 (by decide +kernel) (by decide +kernel), wvM_depthOf.1, wvM_depthOf.2.1, wvM_depthOf.2.2, wM_depthOf, by decide, by decide, by decide +kernel, by decide⟩
theorem lM_146 : ax_LV "RowsIntoPlaneModel" 146 yM_sideOf bM_sideOf 2 (some .int) 1 := ⟨ax_mem 988 (by decide +kernel) (by decide +kernel), wvM_sideOf.1, wvM_sideOf.2.1, wvM_sideOf.2.2, wM_sideOf, by decide, by decide, by decide +kernel, by decide⟩
theorem lM_149 : ax_LS "RowsIntoPlaneModel" 149 yM_rank bM_rank 1 (some .int) 1 := ⟨ax_mem 977 (by decide +kernel) (by decide +kernel), wvM_rank.1, wvM_rank.2, wM_rank, by decide, by decide, by decide +kernel, by decide⟩
theorem lM_152 : ax_LV "RowsIntoPlaneModel" 152 yM_valueOf bM_valueOf 4 (some .int) 3 := ⟨ax_mem 980 (by decide +kernel) (by decide +kernel), wvM_valueOf.1, wvM_valueOf.2.1, wvM_valueOf.2.2, wM_valueOf, by decide, by decide, by decide +kernel, by decide⟩
theorem lM_159 : ax_LV "RowsIntoPlaneModel" 159 yM_placeOf bM_placeOf 3 (some .int) 1 := ⟨ax_mem 996 (by decide +kernel) (by decide +kernel), wvM_placeOf.1, wvM_placeOf.2.1, wvM_placeOf.2.2, wM_placeOf, by decide, by decide, by decide +kernel, by decide⟩
theorem lM_162 : ax_LV "RowsIntoPlaneModel" 162 yM_isAhead bM_isAhead 8 (some .boolean) 3 := ⟨ax_mem 973 (by decide +kernel) (by decide +kernel), wvM_isAhead.1, wvM_isAhead.2.1, wvM_isAhead.2.2, wM_isAhead, by decide, by decide, by decide +kernel, by decide⟩
theorem lM_165 : ax_LV "RowsIntoPlaneModel" 165 yM_put bM_put 6 none 2 := ⟨ax_mem 992 (by decide +kernel) (by decide +kernel), wvM_put.1, wvM_put.2.1, wvM_put.2.2, wM_put, by decide, by decide, by decide +kernel, by decide⟩
theorem lM_169 : ax_LV "RowsIntoPlaneModel" 169 yM_isCall bM_isCall 2 (some .boolean) 1 := ⟨ax_mem 960 (by decide +kernel) (by decide +kernel), wvM_isCall.1, wvM_isCall.2.1, wvM_isCall.2.2, wM_isCall, by decide, by decide, by decide +kernel, by decide⟩
theorem lM_174 : ax_LV "RowsIntoPlaneModel" 174 yM_layPeople bM_layPeople 3 none 1 := ⟨ax_mem 965 (by decide +kernel) (by decide +kernel), wvM_layPeople.1, wvM_layPeople.2.1, wvM_layPeople.2.2, wM_layPeople, by decide, by decide, by decide +kernel, by decide⟩
theorem lM_178 : ax_LV "RowsIntoPlaneModel" 178 yM_layOrder bM_layOrder 4 none 1 := ⟨ax_mem 969 (by decide +kernel) (by decide +kernel), wvM_layOrder.1, wvM_layOrder.2.1, wvM_layOrder.2.2, wM_layOrder, by decide, by decide, by decide +kernel, by decide⟩
theorem lM_181 : ax_LV "RowsIntoPlaneModel" 181 yM_nearestBin bM_nearestBin 3 (some .int) 1 := ⟨ax_mem 1036 (by decide +kernel) (by decide +kernel), wvM_nearestBin.1, wvM_nearestBin.2.1, wvM_nearestBin.2.2, wM_nearestBin, by decide, by decide, by decide +kernel, by decide⟩
theorem lM_190 : ax_LV "RowsIntoPlaneModel" 190 yM_sit bM_sit 4 none 3 := ⟨ax_mem 1028 (by decide +kernel) (by decide +kernel), wvM_sit.1, wvM_sit.2.1, wvM_sit.2.2, wM_sit, by decide, by decide, by decide +kernel, by decide⟩
theorem lM_194 : ax_LV "RowsIntoPlaneModel" 194 yM_begin bM_begin 6 (some .int) 1 := ⟨ax_mem 1032 (by decide +kernel) (by decide +kernel), wvM_begin.1, wvM_begin.2.1, wvM_begin.2.2, wM_begin, by decide, by decide, by decide +kernel, by decide⟩
theorem lM_200 : ax_LV "RowsIntoPlaneModel" 200 yM_goCell bM_goCell 4 none 2 := ⟨ax_mem 1024 (by decide +kernel) (by decide +kernel), wvM_goCell.1, wvM_goCell.2.1, wvM_goCell.2.2, wM_goCell, by decide, by decide, by decide +kernel, by decide⟩
theorem lM_203 : ax_LV "RowsIntoPlaneModel" 203 yM_beginBoard bM_beginBoard 2 none 0 := ⟨ax_mem 1016 (by decide +kernel) (by decide +kernel), wvM_beginBoard.1, wvM_beginBoard.2.1, wvM_beginBoard.2.2, wM_beginBoard, by decide, by decide, by decide +kernel, by decide⟩
theorem lM_206 : ax_LV "RowsIntoPlaneModel" 206 yM_goSecond bM_goSecond 3 none 1 := ⟨ax_mem 1020 (by decide +kernel) (by decide +kernel), wvM_goSecond.1, wvM_goSecond.2.1, wvM_goSecond.2.2, wM_goSecond, by decide, by decide, by decide +kernel, by decide⟩
theorem lM_209 : ax_LV "RowsIntoPlaneModel" 209 yM_boardAll bM_boardAll 2 (some .int) 0 := ⟨ax_mem 1012 (by decide +kernel) (by decide +kernel), wvM_boardAll.1, wvM_boardAll.2.1, wvM_boardAll.2.2, wM_boardAll, by decide, by decide, by decide +kernel, by decide⟩
theorem lM_212 : ax_LV "RowsIntoPlaneModel" 212 yM_boardBy bM_boardBy 2 (some .int) 1 := ⟨ax_mem 1008 (by decide +kernel) (by decide +kernel), wvM_boardBy.1, wvM_boardBy.2.1, wvM_boardBy.2.2, wM_boardBy, by decide, by decide, by decide +kernel, by decide⟩
theorem lM_215 : ax_LV "RowsIntoPlaneModel" 215 yM_boardOf bM_boardOf 6 (some .int) 2 := ⟨ax_mem 1004 (by decide +kernel) (by decide +kernel), wvM_boardOf.1, wvM_boardOf.2.1, wvM_boardOf.2.2, wM_boardOf, by decide, by decide, by decide +kernel, by decide⟩
theorem lM_222 : ax_LV "RowsIntoPlaneModel" 222 yM_leastOf bM_leastOf 5 (some .int) 0 := ⟨ax_mem 1053 (by decide +kernel) (by decide +kernel), wvM_leastOf.1, wvM_leastOf.2.1, wvM_leastOf.2.2, wM_leastOf, by decide, by decide, by decide +kernel, by decide⟩
theorem lM_225 : ax_LV "RowsIntoPlaneModel" 225 yM_everybody bM_everybody 1 (some .int) 0 := ⟨ax_mem 1066 (by decide +kernel) (by decide +kernel), wvM_everybody.1, wvM_everybody.2.1, wvM_everybody.2.2, wM_everybody, by decide, by decide, by decide +kernel, by decide⟩
theorem lM_231 : ax_LV "RowsIntoPlaneModel" 231 yM_layNumber bM_layNumber 5 (some .boolean) 1 := ⟨ax_mem 1062 (by decide +kernel) (by decide +kernel), wvM_layNumber.1, wvM_layNumber.2.1, wvM_layNumber.2.2, wM_layNumber, by decide, by decide, by decide +kernel, by decide⟩
theorem lM_234 : ax_LV "RowsIntoPlaneModel" 234 yM_exchange bM_exchange 4 none 2 := ⟨ax_mem 1074 (by decide +kernel) (by decide +kernel), wvM_exchange.1, wvM_exchange.2.1, wvM_exchange.2.2, wM_exchange, by decide, by decide, by decide +kernel, by decide⟩
theorem lM_237 : ax_LV "RowsIntoPlaneModel" 237 yM_layPart bM_layPart 4 none 2 := ⟨ax_mem 1094 (by decide +kernel) (by decide +kernel), wvM_layPart.1, wvM_layPart.2.1, wvM_layPart.2.2, wM_layPart, by decide, by decide, by decide +kernel, by decide⟩
theorem lM_240 : ax_LV "RowsIntoPlaneModel" 240 yM_doorsOf bM_doorsOf 5 (some .int) 1 := ⟨ax_mem 1090 (by decide +kernel) (by decide +kernel), wvM_doorsOf.1, wvM_doorsOf.2.1, wvM_doorsOf.2.2, wM_doorsOf, by decide, by decide, by decide +kernel, by decide⟩
theorem lM_253 : ax_LV "RowsIntoPlaneModel" 253 yM_draw bM_draw 2 (some .int) 1 := ⟨ax_mem 1107 (by decide +kernel) (by decide +kernel), wvM_draw.1, wvM_draw.2.1, wvM_draw.2.2, wM_draw, by decide, by decide, by decide +kernel, by decide⟩
theorem lM_258 : ax_LV "RowsIntoPlaneModel" 258 yM_mixedOf bM_mixedOf 8 (some .int) 3 := ⟨ax_mem 1103 (by decide +kernel) (by decide +kernel), wvM_mixedOf.1, wvM_mixedOf.2.1, wvM_mixedOf.2.2, wM_mixedOf, by decide, by decide, by decide +kernel, by decide⟩
theorem lM_261 : ax_LV "RowsIntoPlaneModel" 261 yM_lowestOf bM_lowestOf 5 (some .int) 1 := ⟨ax_mem 1127 (by decide +kernel) (by decide +kernel), wvM_lowestOf.1, wvM_lowestOf.2.1, wvM_lowestOf.2.2, wM_lowestOf, by decide, by decide, by decide +kernel, by decide⟩
theorem lM_264 : ax_LV "RowsIntoPlaneModel" 264 yM_mayGo bM_mayGo 4 (some .boolean) 3 := ⟨ax_mem 1131 (by decide +kernel) (by decide +kernel), wvM_mayGo.1, wvM_mayGo.2.1, wvM_mayGo.2.2, wM_mayGo, by decide, by decide, by decide +kernel, by decide⟩
theorem lM_267 : ax_LV "RowsIntoPlaneModel" 267 yM_getUp bM_getUp 8 none 1 := ⟨ax_mem 1123 (by decide +kernel) (by decide +kernel), wvM_getUp.1, wvM_getUp.2.1, wvM_getUp.2.2, wM_getUp, by decide, by decide, by decide +kernel, by decide⟩
theorem lM_270 : ax_LV "RowsIntoPlaneModel" 270 yM_goOut bM_goOut 6 (some .int) 1 := ⟨ax_mem 1119 (by decide +kernel) (by decide +kernel), wvM_goOut.1, wvM_goOut.2.1, wvM_goOut.2.2, wM_goOut, by decide, by decide, by decide +kernel, by decide⟩
theorem lM_278 : ax_LV "RowsIntoPlaneModel" 278 yM_bagsOfAll bM_bagsOfAll 3 (some .int) 0 := ⟨ax_mem 1164 (by decide +kernel) (by decide +kernel), wvM_bagsOfAll.1, wvM_bagsOfAll.2.1, wvM_bagsOfAll.2.2, wM_bagsOfAll, by decide, by decide, by decide +kernel, by decide⟩
theorem lM_281 : ax_LV "RowsIntoPlaneModel" 281 yM_countOf bM_countOf 2 (some .int) 1 := ⟨ax_mem 1160 (by decide +kernel) (by decide +kernel), wvM_countOf.1, wvM_countOf.2.1, wvM_countOf.2.2, wM_countOf, by decide, by decide, by decide +kernel, by decide⟩
theorem lM_290 : ax_LV "RowsIntoPlaneModel" 290 yM_say bM_say 3 none 1 := ⟨ax_mem 1173 (by decide +kernel) (by decide +kernel), wvM_say.1, wvM_say.2.1, wvM_say.2.2, wM_say, by decide, by decide, by decide +kernel, by decide⟩
theorem lM_296 : ax_LV "RowsIntoPlaneModel" 296 yM_sayCalls bM_sayCalls 3 none 0 := ⟨ax_mem 1178 (by decide +kernel) (by decide +kernel), wvM_sayCalls.1, wvM_sayCalls.2.1, wvM_sayCalls.2.2, wM_sayCalls, by decide, by decide, by decide +kernel, by decide⟩
theorem ax_Met_mono {l : Launch} {y : MethodName} {ws : List Cond} {rm : Room} {Pc : Array Value → State → Prop} {Qc Qd : Array Value → State → Outcome → State → Prop} {mc ms : Nat} {free : Addr → Prop} (key : ∀ a st o t, Qc a st o t → Qd a st o t) (h : Met l y ws rm Pc Qc mc ms free) : Met l y ws rm Pc Qd mc ms free := by
  intro p e ha hc hk s m args below hf happ hP hK
  obtain ⟨n, o, h1, h2, h3, hq, h4⟩ := h p e ha hc hk s m args below hf happ hP hK
  exact ⟨n, o, h1, h2, h3, key _ _ _ _ hq, h4⟩
theorem ax_C_mono {sh : List ax_Sh} {y : MethodName} {cc : ByteArray} {mL : Nat} {ret : Option FieldType} {dp : Nat} {as : List ax_V} {M : ax_Mem} {P Q : Int → ax_Mem → Prop} (h : ∀ r M1, P r M1 → Q r M1) (k : ax_C sh y cc mL ret dp as M P) : ax_C sh y cc mL ret dp as M Q := by
  intro l D ca ad hI hn ha
  have hM := k l D ca ad hI hn ha
  have key : ∀ (a : Array Value) (st : State) (o : Outcome) (t : State), ax_Q sh ret D ca ad P a st o t → ax_Q sh ret D ca ad Q a st o t := by
    intro a st o t hq
    rcases ret with _ | ty
    · obtain ⟨⟨u, h1, h2, h3⟩, h4⟩ := hq
      exact ⟨⟨u, h1, h _ _ h2, h3⟩, h4⟩
    · cases ty with
      | long =>
        obtain ⟨⟨r, u, h1, ⟨i, h2, h2'⟩, h3⟩, h4⟩ := hq
        exact ⟨⟨r, u, h1, ⟨i, h2, h _ _ h2'⟩, h3⟩, h4⟩
      | _ =>
        obtain ⟨⟨r, u, h1, ⟨i, h2, h2', h2''⟩, h3⟩, h4⟩ := hq
        exact ⟨⟨r, u, h1, ⟨i, h2, h2', h _ _ h2''⟩, h3⟩, h4⟩
  exact ax_Met_mono key hM
end
section
/-! multianewarray of twelve rows of three ints, over the machine; what of the tables it needs -/
/-- an int[][] has been made before, and its rows are int[] -/
def mn_A (U : State) : Prop := ∃ (cA cI : ClassId) (kA : Class), U.vm.findClass "[[I" = some cA ∧ U.vm.findClass "[I" = some cI ∧ U.vm.classes[cA]? = some kA ∧ kA.kind = .array cI (.array .int)
theorem mn_A.moved {u U : State} (hvm : u.vm.Alike U.vm) (h : mn_A u) : mn_A U := by
  obtain ⟨cA, cI, kA, h1, h2, h3, h4⟩ := h
  obtain ⟨k', hk', he⟩ := hvm.2.2 _ _ h3
  exact ⟨cA, cI, k', by rw [hvm.findClass]; exact h1, by rw [hvm.findClass]; exact h2, hk', by rw [he]; exact h4⟩
/-- a row of three zeros; the outer array when i rows stand -/
def mn_r (cI : ClassId) : Cell := arrV cI 3 (fun _ => .int 0)
def mn_o (cA : ClassId) (h i : Nat) : Cell := arrV cA 12 (fun j => if j < i then .ref (h + 1 + j) else .null)
theorem mn_o_s (cA : ClassId) (h i : Nat) : (mn_o cA h i).setSlot i (.ref (h + 1 + i)) = mn_o cA h (i + 1) := by
  unfold mn_o
  rw [arrV_store]
  congr 1
  funext j
  unfold updV
  by_cases e : j = i
  · subst e; simp
  · rw [if_neg e]
    show (if j < i then Value.ref (h + 1 + j) else Value.null) = if j < i + 1 then Value.ref (h + 1 + j) else Value.null
    by_cases hj : j < i
    · rw [if_pos hj, if_pos (by omega)]
    · rw [if_neg hj, if_neg (by omega)]
def mn_U (cA cI : ClassId) (T : State) : Nat → State
  | 0 => T.pushCell (mn_o cA T.heap.size 0)
  | i + 1 => ((mn_U cA cI T i).pushCell (mn_r cI)).setCell T.heap.size (mn_o cA T.heap.size (i + 1))
/-- the heap when i rows stand -/
def mn_H (cA cI : ClassId) (H0 H : Heap) (i : Nat) : Prop := H.size = H0.size + 1 + i ∧ (∀ q : Nat, q < H0.size → H[q]? = H0[q]?) ∧ H[H0.size]? = some (mn_o cA H0.size i) ∧ ∀ j : Nat, j < i → H[H0.size + 1 + j]? = some (mn_r cI)
theorem mn_U_H (cA cI : ClassId) (T : State) : ∀ i, mn_H cA cI T.heap (mn_U cA cI T i).heap i ∧ (mn_U cA cI T i).vm = T.vm
  | 0 => ⟨⟨by simp [mn_U], fun q hq => State.heap_pushCell_of_lt _ _ hq, State.heap_pushCell_size _ _, fun j hj => absurd hj (Nat.not_lt_zero _)⟩, rfl⟩
  | i + 1 => by
    obtain ⟨⟨h1, h2, h3, h4⟩, h5⟩ := mn_U_H cA cI T i
    have hlt : T.heap.size < (mn_U cA cI T i).heap.size := by omega
    have e0 : ((mn_U cA cI T i).pushCell (mn_r cI)).heap[T.heap.size]? = some (mn_o cA T.heap.size i) := (State.heap_pushCell_of_lt _ _ hlt).trans h3
    refine ⟨⟨?_, fun q hq => ?_, State.heap_setCell_self e0, fun j hj => ?_⟩, h5⟩
    · simp [mn_U, State.setCell, h1]; omega
    · show (((mn_U cA cI T i).pushCell (mn_r cI)).setCell T.heap.size _).heap[q]? = _
      rw [State.heap_setCell_other (Nat.ne_of_gt hq), State.heap_pushCell_of_lt _ _ (show q < (mn_U cA cI T i).heap.size by omega)]
      exact h2 q hq
    · show (((mn_U cA cI T i).pushCell (mn_r cI)).setCell T.heap.size _).heap[T.heap.size + 1 + j]? = _
      rw [State.heap_setCell_other (show T.heap.size ≠ T.heap.size + 1 + j by omega)]
      by_cases e : j = i
      · rw [e, ← h1]; exact State.heap_pushCell_size _ _
      · rw [State.heap_pushCell_of_lt _ _ (show T.heap.size + 1 + j < (mn_U cA cI T i).heap.size by omega)]
        exact h4 j (by omega)
section MN
variable {p : Program} {l : Launch} {e : Env} {R : Room} {s : State} {m : MethodId} {args : Array Value} {below : List Frame} {meth : Method} {c : Code} {H : Heap} {locs : List Loc} {cells slots : Nat} {Q : State → Prop}
theorem mn_U_S {T : State} (X : Stand p l e R s m args below meth c T locs cells slots) (cA cI : ClassId) : ∀ i, ∃ L : List Loc, (∀ x ∈ L, x.base = T.heap.size) ∧ Stand p l e R s m args below meth c (mn_U cA cI T i) (locs ++ L) (cells + 1 + i) (slots + 12 + 3 * i)
  | 0 => by
    have h := X.pushed (mn_o cA T.heap.size 0)
    unfold mn_o at h
    rw [arrV_size] at h
    exact ⟨[], fun x hx => absurd hx List.not_mem_nil, by rw [List.append_nil]; exact h⟩
  | i + 1 => by
    obtain ⟨L, hL, Xi⟩ := mn_U_S X cA cI i
    obtain ⟨⟨h1, h2, h3, h4⟩, h5⟩ := mn_U_H cA cI T i
    have hlt : T.heap.size < (mn_U cA cI T i).heap.size := by omega
    have e0 : ((mn_U cA cI T i).pushCell (mn_r cI)).heap[T.heap.size]? = some (mn_o cA T.heap.size i) := (State.heap_pushCell_of_lt _ _ hlt).trans h3
    have h := (Xi.pushed (mn_r cI)).stored e0 i (.ref (T.heap.size + 1 + i))
    rw [mn_o_s] at h
    unfold mn_r at h
    rw [arrV_size] at h
    refine ⟨L ++ [⟨T.heap.size, i⟩], fun x hx => ?_, ?_⟩
    · rcases List.mem_append.mp hx with q | q
      · exact hL x q
      · rw [List.mem_singleton.mp q]
    · rw [← List.append_assoc]
      exact h
theorem mn_wp {T : State} {g : JFrame} {cA cI cc0 : ClassId} {kA kI : Class} (X : Stand p l e R s m args below meth c T locs cells slots) (hA : T.vm.classes[cA]? = some kA) (hkA : kA.kind = .array cI (.array .int)) (hI : T.vm.classes[cI]? = some kI) (hkI : kI.kind = .array cc0 .int) (hc : cells + 13 ≤ R.cells) (hs : slots + 48 ≤ R.slots)
    {E : CtlPost} {d : Bool} {acts : List Action} {Q : Addr → Jvm.Pre} (hq : ∀ d' acts', Q T.heap.size d' acts' ((mn_U cA cI T 12).setTop g)) : wp (multianewarray.make cA [12, 3]) Q E e d acts (T.setTop g) := by
  have hn : ¬ (12 : Int32) < 0 := by decide
  have hm : ¬ (3 : Int32) < 0 := by decide
  have e12 : (12 : Int32).toNatClampNeg = 12 := by decide
  have e3 : (3 : Int32).toNatClampNeg = 3 := by decide
  have hf : ([(3 : Int32)].find? (· < 0)) = none := by decide
  have lim1 : ∀ n : Nat, n ≤ 12 → ¬ n > e.platform.arrayLengthLimit := fun n hn => by rw [Launch.admits_arrayLengthLimit X.admits]; omega
  have lim2 : ∀ (n : Nat) (ty : FieldType), n * componentBytes ty ≤ 48 → ¬ n * componentBytes ty > e.platform.maxHeapBytes := fun n ty hn => by rw [Launch.admits_maxHeapBytes X.admits]; omega
  obtain ⟨r1, r2⟩ := X.roomAbove hc hs
  rw [multianewarray.make]
  simp only [wp_bind', W.ite, hn, if_false, wp_pure', W.theClass, State.vm_setTop, hA, hkA, Option.some.injEq, exists_eq_left', hf, e12]
  refine W.newArray_of (s := T.setTop g) hA hkA (lim1 12 (by omega)) (lim2 12 _ (by decide)) (by show T.heap.size < _; omega) (by show T.slotsUsed + 12 ≤ _; omega) rfl (fun acts1 => ?_)
  rw [ite_self, wp_bind', Std.Legacy.Range.forIn_eq_forIn_range']
  have hsz : ([:12] : Std.Legacy.Range).size = 12 := by decide
  rw [hsz]
  show wp (forIn (List.range' 0 12 1) PUnit.unit _) _ E e d _ _
  refine wp_forIn_inv (fun rest s' => ∃ i, i ≤ 12 ∧ rest = List.range' i (12 - i) ∧ s' = (mn_U cA cI T i).setTop g) _ _ ⟨0, Nat.zero_le _, rfl, ?_⟩ ?_ ?_
  · show (T.pushCell _).setTop g = (T.pushCell _).setTop g
    unfold mn_o
    rw [arrV_new]
    rfl
  · rintro x rest s' d' acts' Q' ⟨i, hi, hl, rfl⟩ hnext
    have hlt : i < 12 := by
      rcases Nat.lt_or_ge i 12 with h | h
      · exact h
      · rw [show 12 - i = 0 by omega] at hl; cases hl
    rw [show 12 - i = (12 - (i + 1)) + 1 by omega, List.range'_succ] at hl
    obtain ⟨rfl, hrest⟩ := List.cons.inj hl
    obtain ⟨⟨h1, h2, h3, h4⟩, h5⟩ := mn_U_H cA cI T x
    obtain ⟨L, hL, Xi⟩ := mn_U_S X cA cI x
    obtain ⟨q1, q2⟩ := Xi.roomAbove (a := 1) (b := 3) (by omega) (by omega)
    have hI' : (mn_U cA cI T x).vm.classes[cI]? = some kI := by rw [h5]; exact hI
    have hA' : (mn_U cA cI T x).vm.classes[cA]? = some kA := by rw [h5]; exact hA
    simp only [wp_bind']
    rw [multianewarray.make]
    simp only [wp_bind', W.ite, hm, if_false, wp_pure', W.theClass, State.vm_setTop, hI', hkI, Option.some.injEq, exists_eq_left', e3]
    refine W.newArray_of (s := (mn_U cA cI T x).setTop g) hI' hkI (lim1 3 (by omega)) (lim2 3 _ (by decide)) (by show (mn_U cA cI T x).heap.size < _; omega) (by show (mn_U cA cI T x).slotsUsed + 3 ≤ _; omega) rfl (fun acts2 => ?_)
    have hlt0 : T.heap.size < (mn_U cA cI T x).heap.size := by omega
    simp only [wp_bind', W.writeLoc, wp_pure']
    refine ⟨mn_o cA T.heap.size x, (State.heap_pushCell_of_lt _ _ hlt0).trans h3, by simp [mn_o, arrV], by unfold mn_o; rw [arrV_size]; exact hlt, ?_, hnext _ _ _ ⟨x + 1, by omega, hrest, ?_⟩⟩
    · simp [mn_o, arrV, State.fitsSlot, State.slotType?, hA', hkA, fits]
    · show ((((mn_U cA cI T x).pushCell _).setCell T.heap.size _).setTop g) = (((mn_U cA cI T x).pushCell _).setCell T.heap.size _).setTop g
      show ((((mn_U cA cI T x).pushCell _).setCell T.heap.size ((mn_o cA T.heap.size x).setSlot x (.ref (mn_U cA cI T x).heap.size))).setTop g) = _
      rw [h1, mn_o_s]
      unfold mn_r
      rw [← arrV_new]
      rfl
  · rintro s' d' acts' ⟨i, hi, hl, rfl⟩
    have hiN : i = 12 := by
      rcases Nat.lt_or_ge i 12 with h | h
      · rw [show 12 - i = (12 - (i + 1)) + 1 by omega, List.range'_succ] at hl; cases hl
      · omega
    subst hiN
    simp only [wp_pure']
    exact hq _ _
/-- the instruction -/
theorem mn_row {cc : ByteArray} (hexec : p.tables.exec = Jvm.exec) (hb : c.code = cc) {own : String} {index : Nat} (hown : s.vm.findClass own = some m.cls) (hcl : (Cond.classLink own index "[[I").before args s = true) (hov : mn_A s) (harr : (Cond.arrayClass .int).before args s = true)
    (hc : cells + 13 ≤ R.cells) (hs : slots + 48 ≤ R.slots) {pc : Nat} {ls : Array Slot} {rest : List Value} (hdg : decode cc pc = .ok (.multianewarray index 2, 4))
    (kk : ∀ (cA cI : ClassId) (kA : Class) (H1 : Heap) (L : List Loc), s.vm.findClass "[[I" = some cA → s.vm.findClass "[I" = some cI → s.vm.classes[cA]? = some kA → kA.kind = .array cI (.array .int) → mn_H cA cI H H1 12 → (∀ x ∈ L, x.base = H.size) →
      W p l e R s m args below meth c H1 (locs ++ L) (cells + 13) (slots + 48) Q (F0 m (pc + 4) ls (.ref H.size :: rest))) : W p l e R s m args below meth c H locs cells slots Q (F0 m pc ls (.int 3 :: .int 12 :: rest)) := by
  intro T hT X
  subst hT; subst hb
  obtain ⟨cA, cI, kA, f1, f2, f3, f4⟩ := hov
  obtain ⟨cI', kI, cc0, g1, g2, g3⟩ := Cond.arrayClass_spec harr
  have ecI : cI' = cI := Option.some.inj ((show s.vm.findClass "[I" = some cI' from g1).symm.trans f2)
  subst ecI
  have hpl : e.platform.magicAccessors = ({} : Platform).magicAccessors := by rw [X.admits.platform]
  obtain ⟨c0, hfc0, hcl2⟩ := Cond.classLink_spec hown hcl e.platform hpl
  cases f1.symm.trans hfc0
  obtain ⟨hg1, hw1, hr1⟩ := State.classEntry (e := e) X.warmed hcl2
  generalize T.vm.noted m.cls index (.cls cA) = vm1 at hg1 hw1 hr1
  obtain ⟨kA1, hkA1, heA⟩ := hw1.alike.2.2 _ _ f3
  obtain ⟨kI1, hkI1, heI⟩ := hw1.alike.2.2 _ _ g2
  have X1 := X.noted hw1
  obtain ⟨L, hL, X2⟩ := mn_U_S X1 cA cI' 12
  obtain ⟨hH, hvm⟩ := mn_U_H cA cI' (T.setVm vm1) 12
  obtain ⟨t, a1, b1⟩ := kk cA cI' kA (mn_U cA cI' (T.setVm vm1) 12).heap L f1 f2 f3 f4 hH hL (mn_U cA cI' (T.setVm vm1) 12) rfl X2
  refine ⟨t, ?_, b1⟩
  jvm_step X.here [hexec, hdg]
  simp only [multianewarray.sem, wp_bind', W.resolveClassAt_links (State.method?_setTop (F0 m pc ls (.int 3 :: .int 12 :: rest)) X.here.top) hg1]
  rw [W.popN, if_neg (by decide)]
  refine ⟨F0 m pc ls (.int 3 :: .int 12 :: rest), State.topJava?_setTop' (s := T.setVm vm1) _ X.here.top, [.int 12, .int 3], rest, rfl, rfl, ?_⟩
  simp only [List.mapM_cons, List.mapM_nil, wp_bind', wp_pure']
  have eS : ((T.setTop (F0 m pc ls (.int 3 :: .int 12 :: rest))).setVm vm1).setTop (F0 m pc ls rest) = (T.setVm vm1).setTop (F0 m pc ls rest) := by
    show ((T.setVm vm1).setTop _).setTop _ = _
    rw [State.setTop_setTop]
  show wp _ _ _ e _ _ (((T.setTop (F0 m pc ls (.int 3 :: .int 12 :: rest))).setVm vm1).setTop (F0 m pc ls rest))
  rw [eS]
  refine mn_wp (kA := kA1) (kI := kI1) (cc0 := cc0) X1 hkA1 (by rw [heA]; exact f4) hkI1 (by rw [heI]; exact g3) hc hs (fun d' acts' => ?_)
  simp only [wp_bind', W.mark, W.pushRef, State.topJava?_setTop' _ X2.here.top, Option.some.injEq, exists_eq_left', State.setTop_setTop, State.heap_setTop]
  intro acts
  simp [jvm, X2.here.top]
  exact a1
end MN
end
section
/-! constructors: a layer of their own, over worlds that grow -/
def cx_n9 : Cond := .methodLinkNest "RowsIntoPlane" 9 ⟨"RowsIntoPlane$Cabin", "<init>", "()V"⟩ "RowsIntoPlane"
def cx_n18 : Cond := .methodLinkNest "RowsIntoPlane" 18 ⟨"RowsIntoPlane$People", "<init>", "()V"⟩ "RowsIntoPlane"
def cx_n25 : Cond := .methodLinkNest "RowsIntoPlane" 25 ⟨"RowsIntoPlane$Image", "<init>", "()V"⟩ "RowsIntoPlane"
def cx_n32 : Cond := .methodLinkNest "RowsIntoPlane" 32 ⟨"RowsIntoPlane$Page", "<init>", "()V"⟩ "RowsIntoPlane"
def cx_n45 : Cond := .methodLinkNest "RowsIntoPlane" 45 ⟨"RowsIntoPlane$Line", "<init>", "()V"⟩ "RowsIntoPlane"
def cx_n53 : Cond := .methodLinkNest "RowsIntoPlane" 53 ⟨"RowsIntoPlane$Call", "<init>", "()V"⟩ "RowsIntoPlane"
/-- words that are no good words: arrays that have been made, constructors of nest mates -/
def cx_N (U : State) : Prop := mn_A U ∧ va_AO "RowsIntoPlane$Call" U ∧ va_Nw cx_n9 U ∧ va_Nw cx_n18 U ∧ va_Nw cx_n25 U ∧ va_Nw cx_n32 U ∧ va_Nw cx_n45 U ∧ va_Nw cx_n53 U
theorem cx_N.warm {s U : State} (hW : s.WarmedH U.vm) (h : cx_N s) : cx_N U := by
  obtain ⟨h1, h2, h3, h4, h5, h6, h7, h8⟩ := h
  exact ⟨h1.moved hW.alike, va_AO.moved hW.alike h2, va_Nw.warmM hW h3, va_Nw.warmM hW h4, va_Nw.warmM hW h5, va_Nw.warmM hW h6, va_Nw.warmM hW h7, va_Nw.warmM hW h8⟩
theorem cx_N.same {u U : State} (he : u.vm = U.vm) (h : cx_N u) : cx_N U := by
  obtain ⟨h1, h2, h3, h4, h5, h6, h7, h8⟩ := h
  have ha : u.vm.Alike U.vm := he ▸ Vm.Alike.refl u.vm
  exact ⟨h1.moved ha, va_AO.moved ha h2, va_Nw.same rfl he h3, va_Nw.same rfl he h4, va_Nw.same rfl he h5, va_Nw.same rfl he h6, va_Nw.same rfl he h7, va_Nw.same rfl he h8⟩
def cx_R (dp mc ms : Nat) : Room := { frames := dp, cells := mc, slots := ms, locals := 36 * dp }
/-- the references of an array, by the places L of the addresses u -/
def cx_rf (L : List Nat) (u : Nat → Nat) : Nat → Option Nat := fun j => (L[j]?).map u
theorem cx_rf_eq {L1 L2 : List Nat} {u q : Nat → Nat} (h : L1.map u = L2.map q) : cx_rf L1 u = cx_rf L2 q := by
  funext j
  unfold cx_rf
  rw [← List.getElem?_map, ← List.getElem?_map, h]
abbrev cx_a (ca : Nat → ClassId) (t n : Nat) : va_E := .inl (ca t, n, .inl (fun _ => Int32.ofInt 0))
abbrev cx_q (ca : Nat → ClassId) (t n : Nat) (f : Nat → Option Nat) : va_E := .inl (ca t, n, .inr (.inr (.inr (.inr f))))
def cx_Q (D : va_G) (F : (Nat → Nat) → va_W) (h0 : Nat) (A : Nat → Prop) : Array Value → State → Outcome → State → Prop := va_Qv (fun u : Nat → Nat => u 0 = h0) (fun u t => va_P D ax_cl (F u) t.heap ∧ va_D A (F u)) A
def cx_Pre (D : va_G) (ca : Nat → ClassId) (sz : Nat) (ws0 : va_W) (U : State) : Prop := U.heap.size = sz ∧ va_P D ax_cl ws0 U.heap ∧ va_K D ax_cl (ax_tys ca) U ∧ cx_N U ∧ va_D (fun _ => True) ws0
/-- a constructor's contract: the cell h0 (with ws0) becomes the cells F u, u 0 = h0 -/
def cx_C (D : va_G) (ca : Nat → ClassId) (y : MethodName) (cc : ByteArray) (mL dp mc ms : Nat) (as : List Value) (h0 : Nat) (ws0 : va_W) (F : (Nat → Nat) → va_W) : Prop :=
  ∀ (l : Launch) (sz : Nat), Met l y (ax_ws y cc mL none) (cx_R dp mc ms) (va_Pc as (cx_Pre D ca sz ws0)) (cx_Q D F h0 (va_A ws0 sz)) mc ms (va_A ws0 sz)
def cx_X (y : MethodName) (cc : ByteArray) (mL : Nat) (p : Program) (s : State) (m : MethodId) (args : Array Value) (meth : Method) (c : Code) (D : va_G) (ca : Nat → ClassId) (A : Nat → Prop) : Prop :=
  p.tables.exec = Jvm.exec ∧ c.code = cc ∧ meth.sig.returnType = none ∧ c.maxLocals = mL ∧ meth.locks = false ∧ s.vm.findClass y.cls = some m.cls ∧ (∀ w ∈ ax_Ts, w.before args s = true) ∧ va_K D ax_cl (ax_tys ca) s ∧ meth.name = "<init>" ∧ cx_N s ∧ (∀ q : Nat, s.heap.size ≤ q → A q)
def cx_J (D : va_G) (ca : Nat → ClassId) (y : MethodName) (cc : ByteArray) (mL dp mc ms : Nat) (h0 : Nat) (F : (Nat → Nat) → va_W) (pc : Nat) (ls : List (Nat × Value)) (st : List Value) (ws : va_W) (cells slots : Nat) : Prop :=
  ∀ (p : Program) (l : Launch) (e : Env) (s : State) (m : MethodId) (args : Array Value) (below : List Frame) (meth : Method) (c : Code) (A : Nat → Prop), cx_X y cc mL p s m args meth c D ca A →
    ∀ (H : Heap) (locs : List Loc) (lsA : Array Slot), va_P D ax_cl ws H → va_D A ws → va_S A s.heap H locs → lv_has lsA mL ls →
    W p l e (cx_R dp mc ms) s m args below meth c H locs cells slots (MQ below (cx_Q D F h0 A) args s mc ms A) (F0 m pc lsA st)
section CX
variable {D : va_G} {ca : Nat → ClassId} {y : MethodName} {cc : ByteArray} {mL dp mc ms h0 : Nat} {F : (Nat → Nat) → va_W} {pc : Nat} {ls : List (Nat × Value)} {st : List Value} {ws : va_W} {cells slots : Nat}
theorem cx_ofJ {as : List Value} {ws0 : va_W} (hy : plainName y.cls = true) (hyn : y.name = "<init>") (hz : (lg_sl as).length ≤ mL) (k : cx_J D ca y cc mL dp mc ms h0 F 0 (lv_args 0 as) [] ws0 0 0) : cx_C D ca y cc mL dp mc ms as h0 ws0 F := by
  intro l sz
  refine Met.ofW (cc := cc) (maxL := mL) (ret := none) (ws' := ax_Ts) hy rfl ?_
  intro p e s m args below meth c s₁ B hml hv
  obtain ⟨rfl, rfl, hP, hK, hN, hD0⟩ := hv
  have hts := atoms_spec (ws := ax_ws y cc mL none) B.pre
  have hown : s.vm.findClass y.cls = some m.cls := findClass_of_methodNamed B.named
  have hin : meth.name = "<init>" := (name_of_methodNamed B.named B.method).1.trans hyn
  have hD := hD0.self (sz := s.heap.size)
  have hl := lv_entry as (n := mL) hz
  rw [lg_entry_eq]
  exact k p l e s m _ below meth c _ ⟨B.exec, B.bytes, B.returns, hml, B.notSynchronized, hown, fun w hw => hts w (List.mem_cons_of_mem _ hw), hK, hin, hN, fun q h => Or.inr h⟩ s.heap [] _ hP hD va_S.rf hl
theorem cx_aload {q : Fin 4} {i a : Nat} (j : Nat) (hd : decode cc pc = .ok (.aload_n q, 1)) (hi : q.val = i) (hj : ls[j]? = some (i, .ref a)) (k : cx_J D ca y cc mL dp mc ms h0 F (pc + 1) ls (.ref a :: st) ws cells slots) : cx_J D ca y cc mL dp mc ms h0 F pc ls st ws cells slots := by
  intro p l e s m args below meth c A X H locs lsA hP hD hS hl
  exact lv_aload_n X.1 X.2.1 hd hi (lv_at hl j hj) (k p l e s m args below meth c A X H locs lsA hP hD hS hl)
theorem cx_iload {q : Fin 4} {i : Nat} {a : Int32} (j : Nat) (hd : decode cc pc = .ok (.iload_n q, 1)) (hi : q.val = i) (hj : ls[j]? = some (i, .int a)) (k : cx_J D ca y cc mL dp mc ms h0 F (pc + 1) ls (.int a :: st) ws cells slots) : cx_J D ca y cc mL dp mc ms h0 F pc ls st ws cells slots := by
  intro p l e s m args below meth c A X H locs lsA hP hD hS hl
  exact lv_iload_n X.1 X.2.1 hd hi (lv_at hl j hj) (k p l e s m args below meth c A X H locs lsA hP hD hS hl)
theorem cx_iconst {n : Int} {v : Int32} (hd : decode cc pc = .ok (.iconst n, 1)) (hv : Int32.ofInt n = v) (k : cx_J D ca y cc mL dp mc ms h0 F (pc + 1) ls (.int v :: st) ws cells slots) : cx_J D ca y cc mL dp mc ms h0 F pc ls st ws cells slots := by
  intro p l e s m args below meth c A X H locs lsA hP hD hS hl
  exact lv_iconst X.1 X.2.1 hd hv (k p l e s m args below meth c A X H locs lsA hP hD hS hl)
theorem cx_bipush {n : Int} {v : Int32} (hd : decode cc pc = .ok (.bipush n, 2)) (hv : (Int8.ofInt n).toInt32 = v) (k : cx_J D ca y cc mL dp mc ms h0 F (pc + 2) ls (.int v :: st) ws cells slots) : cx_J D ca y cc mL dp mc ms h0 F pc ls st ws cells slots := by
  intro p l e s m args below meth c A X H locs lsA hP hD hS hl
  exact lv_bipush X.1 X.2.1 hd hv (k p l e s m args below meth c A X H locs lsA hP hD hS hl)
theorem cx_dup {a : Nat} (hd : decode cc pc = .ok (.dup, 1)) (k : cx_J D ca y cc mL dp mc ms h0 F (pc + 1) ls (.ref a :: .ref a :: st) ws cells slots) : cx_J D ca y cc mL dp mc ms h0 F pc ls (.ref a :: st) ws cells slots := by
  intro p l e s m args below meth c A X H locs lsA hP hD hS hl
  exact lv_dup X.1 X.2.1 hd rfl (k p l e s m args below meth c A X H locs lsA hP hD hS hl)
theorem cx_goto {off : Int} {tgt : Nat} (hd : decode cc pc = .ok (.goto off, 3)) (ht : (pc : Int) + off = (tgt : Int)) (k : cx_J D ca y cc mL dp mc ms h0 F tgt ls st ws cells slots) : cx_J D ca y cc mL dp mc ms h0 F pc ls st ws cells slots := by
  intro p l e s m args below meth c A X H locs lsA hP hD hS hl
  exact lv_goto X.1 X.2.1 hd ht (k p l e s m args below meth c A X H locs lsA hP hD hS hl)
theorem cx_istore {q : Fin 4} {i : Nat} {x : Int32} {ls' : List (Nat × Value)} (hd : decode cc pc = .ok (.istore_n q, 1)) (hi : q.val = i) (hm : i < mL) (hl' : (i, Value.int x) :: ls.filter (fun q => !(q.1 == i) && !(q.1 + 1 == i && q.2.category == 2)) = ls') (k : cx_J D ca y cc mL dp mc ms h0 F (pc + 1) ls' st ws cells slots) : cx_J D ca y cc mL dp mc ms h0 F pc ls (.int x :: st) ws cells slots := by
  intro p l e s m args below meth c A X H locs lsA hP hD hS hl
  exact lv_istore_n X.1 X.2.1 hd hi hl hm hl' (fun ls2 h2 => k p l e s m args below meth c A X H locs ls2 hP hD hS h2)
theorem cx_iinc {i j : Nat} {n : Int} {x v : Int32} {ls' : List (Nat × Value)} (hd : decode cc pc = .ok (.iinc i n, 3)) (hj : ls[j]? = some (i, .int x)) (hv : x + Int32.ofInt n = v) (hm : i < mL) (hl' : (i, Value.int v) :: ls.filter (fun q => !(q.1 == i) && !(q.1 + 1 == i && q.2.category == 2)) = ls') (k : cx_J D ca y cc mL dp mc ms h0 F (pc + 3) ls' st ws cells slots) : cx_J D ca y cc mL dp mc ms h0 F pc ls st ws cells slots := by
  intro p l e s m args below meth c A X H locs lsA hP hD hS hl
  exact lv_iinc X.1 X.2.1 hd hl hj hv hm hl' (fun ls2 h2 => k p l e s m args below meth c A X H locs ls2 hP hD hS h2)
/-- a comparison whose outcome is known -/
theorem cx_geT {a b : Int32} {off : Int} {tgt : Nat} (hd : decode cc pc = .ok (.if_icmp .ge off, 3)) (ht : (pc : Int) + off = (tgt : Int)) (h : b ≤ a) (k : cx_J D ca y cc mL dp mc ms h0 F tgt ls st ws cells slots) : cx_J D ca y cc mL dp mc ms h0 F pc ls (.int b :: .int a :: st) ws cells slots := by
  intro p l e s m args below meth c A X H locs lsA hP hD hS hl
  exact lv_icmp_ge X.1 X.2.1 hd ht (fun _ => k p l e s m args below meth c A X H locs lsA hP hD hS hl) (fun q => absurd h q)
theorem cx_geF {a b : Int32} {off : Int} {tgt : Nat} (hd : decode cc pc = .ok (.if_icmp .ge off, 3)) (ht : (pc : Int) + off = (tgt : Int)) (h : ¬ b ≤ a) (k : cx_J D ca y cc mL dp mc ms h0 F (pc + 3) ls st ws cells slots) : cx_J D ca y cc mL dp mc ms h0 F pc ls (.int b :: .int a :: st) ws cells slots := by
  intro p l e s m args below meth c A X H locs lsA hP hD hS hl
  exact lv_icmp_ge X.1 X.2.1 hd ht (fun q => absurd q h) (fun _ => k p l e s m args below meth c A X H locs lsA hP hD hS hl)
theorem cx_o1 : Cond.instanceMethod objectInit ∈ ax_Ts := ax_mem 81 (by decide +kernel) (by decide +kernel)
theorem cx_o2 : Cond.code objectInit ⟨#[0xb1]⟩ 1 none ∈ ax_Ts := ax_mem 82 (by decide +kernel) (by decide +kernel)
theorem cx_obj {a idx : Nat} (hd : decode cc pc = .ok (.invokespecial idx, 3)) (hl0 : Cond.methodLink y.cls idx objectInit ∈ ax_Ts) (hdp : 1 ≤ dp) (k : cx_J D ca y cc mL dp mc ms h0 F (pc + 3) ls [] ws cells slots) : cx_J D ca y cc mL dp mc ms h0 F pc ls [.ref a] ws cells slots := by
  intro p l e s m args below meth c A X H locs lsA hP hD hS hl
  have hts := X.2.2.2.2.2.2.1
  refine W.objInit X.1 X.2.1 X.2.2.2.2.2.1 (hts _ hl0) (hts _ cx_o1) (hts _ cx_o2) rfl (by rw [X.2.2.2.1]; exact hl.1) rfl hd hdp (by show 2 * 0 + 0 + 12 ≤ 36 * dp; omega) ?_
  exact k p l e s m args below meth c A X H locs lsA hP hD hS hl
/-- newarray of a primitive type: its class is the one that the worlds know -/
theorem cx_newa {atype : ArrayType} {ty : FieldType} {n : Int32} {N : Nat} (t : Nat) (hd : decode cc pc = .ok (.newarray atype, 2)) (hty : newarray.typeOf atype = ty) (ht : (ax_tys ca)[t]? = some (ca t, ty)) (hp : ty = .int ∨ ty = .char ∨ ty = .boolean) (harr : Cond.arrayClass ty ∈ ax_Ts) (hn0 : ¬ n < 0) (hn : n.toNatClampNeg = N) (hN : N ≤ 100) (hc : cells + 1 ≤ mc) (hs : slots + N ≤ ms)
    (k : ∀ q : Nat, cx_J D ca y cc mL dp mc ms h0 F (pc + 2) ls (.ref q :: st) (ws ++ [(q, cx_a ca t N)]) (cells + 1) (slots + N)) : cx_J D ca y cc mL dp mc ms h0 F pc ls (.int n :: st) ws cells slots := by
  intro p l e s m args below meth c A X H locs lsA hP hD hS hl
  have hts := X.2.2.2.2.2.2.1
  have hK := X.2.2.2.2.2.2.2.1
  have hdv : defaultValue ty = .int (Int32.ofInt 0) := by rcases hp with z | z | z <;> subst z <;> rfl
  have hcb : N * componentBytes ty ≤ 536870912 := by
    have : componentBytes ty ≤ 4 := by rcases hp with z | z | z <;> subst z <;> decide
    have := Nat.mul_le_mul hN this
    omega
  subst hty
  refine va_newa (a0 := (N, .inl (fun _ => Int32.ofInt 0))) X.1 X.2.1 (hts _ harr) rfl hK hP hD hS X.2.2.2.2.2.2.2.2.2.2 (fun cA => by rw [vp_cell_i, hdv]) hn0 hn hcb hc hs hd (fun q cA H1 hK1 hP1 hD1 hS1 => ?_)
  have e : cA = ca t := by
    have h1 := (hK1.2 5 (cA, newarray.typeOf atype) rfl).2
    have h2 := (hK.2 t _ ht).2
    generalize newarray.typeOf atype = ty at h1 h2 hp
    rcases hp with z | z | z <;> subst z <;> exact Option.some.inj (Eq.trans (Eq.symm h1) h2)
  subst e
  exact k q p l e s m args below meth c A X H1 locs lsA hP1 hD1 hS1 hl
/-- the entry idx of own's file is its own final field j, a reference -/
def cx_FP (own : String) (idx ci j : Nat) : Prop := ∃ r : vw_C, ax_cl[ci]? = some r ∧ j < r.2.2 ∧ Cond.fieldLink own idx (r.2.1 j).1 (r.2.1 j).2.1 (r.2.1 j).2.2.1 ∈ ax_Ts ∧ (∀ w ∈ u_ws r.1 r.2.1 r.2.2, w ∈ ax_Ts) ∧ (r.2.1 j).2.2.2 = true ∧ (r.2.1 j).1 = own ∧ (∃ ty : FieldType, parseFieldDescriptor (r.2.1 j).2.2.1 = some ty ∧ ty.isReference = true) ∧ (∃ ty0 : Nat → FieldType, ∀ k, k < r.2.2 → parseFieldDescriptor (r.2.1 k).2.2.1 = some (ty0 k)) ∧ (∀ a, a < r.2.2 → ∀ b, b < r.2.2 → a ≠ b → (r.2.1 a).2.1 ≠ (r.2.1 b).2.1)
theorem cx_putF {idx ci j v a : Nat} {fs : List Value} {ws' : va_W} (q0 : Nat) (hd : decode cc pc = .ok (.putfield idx, 3)) (hl0 : cx_FP y.cls idx ci j) (he : ws[q0]? = some (a, .inr (ci, fs))) (hj : j < fs.length) (hw : ws.set q0 (a, .inr (ci, fs.set j (.ref v))) = ws') (k : cx_J D ca y cc mL dp mc ms h0 F (pc + 3) ls st ws' cells slots) : cx_J D ca y cc mL dp mc ms h0 F pc ls (.ref v :: .ref a :: st) ws cells slots := by
  intro p l e s m args below meth c A X H locs lsA hP hD hS hl
  have hts := X.2.2.2.2.2.2.1
  obtain ⟨r, h1, h2, h3, h4, h5, h6, ⟨ty, h7, h7'⟩, ⟨ty0, h8⟩, h9⟩ := hl0
  refine va_putF (D := D) (ci := ci) (C := r.1) (T := r.2.1) (N := r.2.2) (v := .ref v) (ty := ty) X.1 X.2.1 hts h4 ty0 h8 h9 X.2.2.2.2.2.1 X.2.2.2.2.2.2.2.1 hP hD hS q0 he h1 j h2 (hts _ h3) (fun _ q => q) h5 X.2.2.2.2.2.2.2.2.1 h6 h7 (by cases ty <;> first | rfl | cases h7') (by cases ty <;> first | rfl | cases h7') hj hd (fun H1 locs1 hP1 hD1 hS1 => ?_)
  rw [hw] at hP1 hD1
  exact k p l e s m args below meth c A X H1 locs1 lsA hP1 hD1 hS1 hl
theorem cx_puti {idx ci j a : Nat} {v : Int32} {fs : List Value} {ws' : va_W} (q0 : Nat) (hd : decode cc pc = .ok (.putfield idx, 3)) (hl0 : ax_FP y.cls idx ci j .int) (he : ws[q0]? = some (a, .inr (ci, fs))) (hj : j < fs.length) (hw : ws.set q0 (a, .inr (ci, fs.set j (.int v))) = ws') (k : cx_J D ca y cc mL dp mc ms h0 F (pc + 3) ls st ws' cells slots) : cx_J D ca y cc mL dp mc ms h0 F pc ls (.int v :: .ref a :: st) ws cells slots := by
  intro p l e s m args below meth c A X H locs lsA hP hD hS hl
  have hts := X.2.2.2.2.2.2.1
  obtain ⟨r, h1, h2, h3, h4, h5, h6, ⟨ty0, h7⟩, h8⟩ := hl0
  refine va_put (D := D) (ci := ci) (C := r.1) (T := r.2.1) (N := r.2.2) (v := .int v) (ty := .int) X.1 X.2.1 hts h4 ty0 h7 h8 X.2.2.2.2.2.1 X.2.2.2.2.2.2.2.1 hP hD hS q0 he h1 j h2 (hts _ h3) (fun _ q => q) h5 h6 rfl rfl hj hd (fun H1 locs1 hP1 hD1 hS1 => ?_)
  rw [hw] at hP1 hD1
  exact k p l e s m args below meth c A X H1 locs1 lsA hP1 hD1 hS1 hl
theorem cx_get {idx ci j a : Nat} {v : Value} {fs : List Value} (q0 : Nat) (hd : decode cc pc = .ok (.getfield idx, 3)) (hl0 : ax_FL y.cls idx ci j) (he : ws[q0]? = some (a, .inr (ci, fs))) (hv : fs[j]? = some v) (k : cx_J D ca y cc mL dp mc ms h0 F (pc + 3) ls (v :: st) ws cells slots) : cx_J D ca y cc mL dp mc ms h0 F pc ls (.ref a :: st) ws cells slots := by
  intro p l e s m args below meth c A X H locs lsA hP hD hS hl
  have hts := X.2.2.2.2.2.2.1
  obtain ⟨r, h1, h2, h3, h4⟩ := hl0
  exact va_get (D := D) (ci := ci) (C := r.1) (T := r.2.1) (N := r.2.2) (v := v) X.1 X.2.1 hts h4 X.2.2.2.2.2.1 X.2.2.2.2.2.2.2.1 hP q0 he h1 j h2 (hts _ h3) (fun _ q => q) hv hd (k p l e s m args below meth c A X H locs lsA hP hD hS hl)
/-- what the tables say of 'new': the entry idx of own's file is the class ci, whose fields begin as fs -/
def cx_NW (own : String) (idx ci N : Nat) (fs : List Value) : Prop := ∃ r : vw_C, ax_cl[ci]? = some r ∧ r.2.2 = N ∧ Cond.classLink own idx r.1 ∈ ax_Ts ∧ Cond.instantiable r.1 N ∈ ax_Ts ∧ Cond.initialized r.1 ∈ ax_Ts ∧ (∀ w ∈ u_ws r.1 r.2.1 r.2.2, w ∈ ax_Ts) ∧ ∃ ty : Nat → FieldType, (∀ k, k < r.2.2 → parseFieldDescriptor (r.2.1 k).2.2.1 = some (ty k)) ∧ ∀ j, j < r.2.2 → defaultValue (ty j) = vp_V fs j
theorem cx_new {idx ci N : Nat} {fs : List Value} (hd : decode cc pc = .ok (.new idx, 3)) (hl0 : cx_NW y.cls idx ci N fs) (hc : cells + 1 ≤ mc) (hs : slots + N ≤ ms) (k : ∀ q : Nat, cx_J D ca y cc mL dp mc ms h0 F (pc + 3) ls (.ref q :: st) (ws ++ [(q, .inr (ci, fs))]) (cells + 1) (slots + N)) : cx_J D ca y cc mL dp mc ms h0 F pc ls st ws cells slots := by
  intro p l e s m args below meth c A X H locs lsA hP hD hS hl
  have hts := X.2.2.2.2.2.2.1
  obtain ⟨r, h1, h2, h3, h4, h5, h6, ty, h7, h8⟩ := hl0
  subst h2
  exact va_new (D := D) (ci := ci) (fs := fs) (C := r.1) (T := r.2.1) (N := r.2.2) X.1 X.2.1 hts h6 ty h7 X.2.2.2.2.2.1 (hts _ h3) (hts _ h4) (hts _ h5) X.2.2.2.2.2.2.2.1 hP hD hS X.2.2.2.2.2.2.2.2.2.2 h1 h8 hc hs hd (fun q H1 hP1 hD1 hS1 => k q p l e s m args below meth c A X H1 locs lsA hP1 hD1 hS1 hl)
/-- an array of references to Calls -/
theorem cx_newq {idx : Nat} (hd : decode cc pc = .ok (.anewarray idx, 3)) (hl0 : Cond.classLink y.cls idx "RowsIntoPlane$Call" ∈ ax_Ts) (hc : cells + 1 ≤ mc) (hs : slots + 8 ≤ ms)
    (k : ∀ q : Nat, cx_J D ca y cc mL dp mc ms h0 F (pc + 3) ls (.ref q :: st) (ws ++ [(q, cx_q ca 3 8 (fun _ => none))]) (cells + 1) (slots + 8)) : cx_J D ca y cc mL dp mc ms h0 F pc ls (.int 8 :: st) ws cells slots := by
  intro p l e s m args below meth c A X H locs lsA hP hD hS hl
  have hts := X.2.2.2.2.2.2.1
  have hK := X.2.2.2.2.2.2.2.1
  refine va_newq (N' := 8) X.1 X.2.1 X.2.2.2.2.2.1 (hts _ hl0) X.2.2.2.2.2.2.2.2.2.1.2.1 hK hP hD hS X.2.2.2.2.2.2.2.2.2.2 (by decide) (by decide) (by decide) hc hs hd (fun q cA H1 hK1 hP1 hD1 hS1 => ?_)
  have e : cA = ca 3 := by
    obtain ⟨_, _, -, -, -, h1⟩ := (hK1.2 5 (cA, .object "RowsIntoPlane$Call") rfl).2
    obtain ⟨_, _, -, -, -, h2⟩ := (hK.2 3 (ca 3, .object "RowsIntoPlane$Call") rfl).2
    exact Option.some.inj (h1.symm.trans h2)
  subst e
  exact k q p l e s m args below meth c A X H1 locs lsA hP1 hD1 hS1 hl
theorem cx_astq {a v : Nat} {i : Int32} {f : Nat → Option Nat} {vs : List Value} {ws' : va_W} (q0 qk : Nat) (hd : decode cc pc = .ok (.aastore, 1)) (ha : ws[q0]? = some (a, cx_q ca 3 8 f)) (hv : ws[qk]? = some (v, .inr (2, vs))) (hin : vp_in i 8) (hw : ws.set q0 (a, cx_q ca 3 8 (va_up f i.toNatClampNeg (some v))) = ws') (k : cx_J D ca y cc mL dp mc ms h0 F (pc + 1) ls st ws' cells slots) : cx_J D ca y cc mL dp mc ms h0 F pc ls (.ref v :: .int i :: .ref a :: st) ws cells slots := by
  intro p l e s m args below meth c A X H locs lsA hP hD hS hl
  refine va_astq (r := (rn_2, tb_2, 3)) X.1 X.2.1 X.2.2.2.2.2.2.2.1 hP hD hS q0 3 qk 2 ha rfl hv rfl hin hd (fun H1 locs1 hP1 hD1 hS1 => ?_)
  rw [show (.inl (ca 3, 8, .inr (.inr (.inr (.inr (va_up f i.toNatClampNeg (some v)))))) : va_E) = cx_q ca 3 8 (va_up f i.toNatClampNeg (some v)) from rfl, hw] at hP1 hD1
  exact k p l e s m args below meth c A X H1 locs1 lsA hP1 hD1 hS1 hl
/-- another writing of the world -/
theorem cx_eqw {ws' : va_W} (h : ws = ws') (k : cx_J D ca y cc mL dp mc ms h0 F pc ls st ws' cells slots) : cx_J D ca y cc mL dp mc ms h0 F pc ls st ws cells slots := h ▸ k
/-- the bins: twelve rows of three -/
def cx_mw (ca : Nat → ClassId) (q : Nat → Nat) : va_W := (q 0, cx_q ca 4 12 (cx_rf [1, 2, 3, 4, 5, 6, 7, 8, 9, 10, 11, 12] q)) :: ((List.range 12).map (fun j => (q (1 + j), cx_a ca 0 3)))
theorem cx_multi {idx : Nat} (hd : decode cc pc = .ok (.multianewarray idx 2, 4)) (hl0 : Cond.classLink y.cls idx "[[I" ∈ ax_Ts) (harr : Cond.arrayClass .int ∈ ax_Ts) (hc : cells + 13 ≤ mc) (hs : slots + 48 ≤ ms)
    (k : ∀ q : Nat → Nat, cx_J D ca y cc mL dp mc ms h0 F (pc + 4) ls (.ref (q 0) :: st) (ws ++ cx_mw ca q) (cells + 13) (slots + 48)) : cx_J D ca y cc mL dp mc ms h0 F pc ls (.int 3 :: .int 12 :: st) ws cells slots := by
  intro p l e s m args below meth c A X H locs lsA hP hD hS hl
  have hts := X.2.2.2.2.2.2.1
  have hK := X.2.2.2.2.2.2.2.1
  have hA := X.2.2.2.2.2.2.2.2.2.2
  refine mn_row X.1 X.2.1 X.2.2.2.2.2.1 (hts _ hl0) X.2.2.2.2.2.2.2.2.2.1.1 (hts _ harr) hc hs hd (fun cA cI kA H1 L f1 f2 f3 f4 hH hL => ?_)
  obtain ⟨z1, z2, z3, z4⟩ := hH
  have e4 : cA = ca 4 := Option.some.inj (f1.symm.trans (show s.vm.findClass "[[I" = some (ca 4) from (hK.2 4 (ca 4, .array .int) rfl).2))
  have e0 : cI = ca 0 := Option.some.inj (f2.symm.trans (show s.vm.findClass "[I" = some (ca 0) from (hK.2 0 (ca 0, .int) rfl).2))
  subst e4
  subst e0
  have hlen : (cx_mw ca (fun i => H.size + i)).length = 13 := by simp [cx_mw]
  have hget : ∀ (j : Nat) (x : Nat × va_E), (cx_mw ca (fun i => H.size + i))[j]? = some x → x.1 = H.size + j ∧ va_at D ax_cl x H1 := by
    intro j x hx
    rcases j with _ | j
    · cases hx
      refine ⟨rfl, ?_⟩
      show H1[H.size + 0]? = some (vp_cell _ _)
      rw [vp_cell_q, Nat.add_zero, z3]
      unfold mn_o arrV
      congr 2
    · have hx2 : ((List.range 12).map (fun j => ((H.size + (1 + j) : Nat), cx_a ca 0 3)))[j]? = some x := hx
      rw [List.getElem?_map] at hx2
      have hj : j < 12 := by
        rcases Nat.lt_or_ge j 12 with h | h
        · exact h
        · rw [List.getElem?_eq_none (by simpa using h)] at hx2; cases hx2
      rw [List.getElem?_range hj] at hx2
      cases hx2
      refine ⟨by show H.size + (1 + j) = H.size + (j + 1); omega, ?_⟩
      show H1[H.size + (1 + j)]? = some (vp_cell _ _)
      rw [vp_cell_i, ← Nat.add_assoc, z4 j hj]
      rfl
  refine k (fun i => H.size + i) p l e s m args below meth c A X H1 (locs ++ L) lsA ((hP.kept (fun j x hx => z2 x.1 ((hP j x hx).lt))).app (fun j x hx => (hget j x hx).2)) (hD.app ⟨fun i j x z hx hz hxz => ?_, fun j x hx => ?_⟩ (fun i j x z hx hz hxz => ?_)) ⟨Nat.le_trans hS.1 (by omega), fun q h1 h2 => (z2 q (Nat.lt_of_lt_of_le h1 hS.1)).trans (hS.2.1 q h1 h2), fun x hx => ?_⟩ hl
  · have h1 := (hget i x hx).1
    have h2 := (hget j z hz).1
    omega
  · rw [(hget j x hx).1]
    exact hA _ (Nat.le_trans hS.1 (Nat.le_add_right _ _))
  · have h1 := (hP i x hx).lt
    have h2 := (hget j z hz).1
    omega
  · rcases List.mem_append.mp hx with h | h
    · exact hS.2.2 x h
    · rw [hL x h]; exact hA _ hS.1
/-- the words of a constructor that is called -/
def cx_W (y2 : MethodName) (cc2 : ByteArray) (mL2 n : Nat) : Prop := Cond.code y2 cc2 mL2 none ∈ ax_Ts ∧ Cond.initialized y2.cls ∈ ax_Ts ∧ Cond.instanceMethod y2 ∈ ax_Ts ∧ y2.name = "<init>" ∧ (y2.cls ≠ "java/lang/invoke/MethodHandle" ∧ y2.cls ≠ "java/lang/invoke/VarHandle" ∧ (parseMethodDescriptor y2.desc).map (fun d => d.parameters.length) = some n) ∧ mL2 ≤ 2
theorem cx_blind {ws0 : va_W} {sz : Nat} (av : List Value) : FrameBlind (va_Pc av (cx_Pre D ca sz ws0)) := by
  intro a U g mk h
  obtain ⟨h1, h2, h3, h4, h5, h6⟩ := h
  exact ⟨h1, h2, h3, va_K.moved (u := U) (U := U.calling g mk a) (Vm.Alike.refl U.vm) h4, cx_N.same rfl h5, h6⟩
theorem cx_back {y2 : MethodName} {mc2 ms2 b : Nat} {e0 : va_E} {F2 : (Nat → Nat) → va_W} {wr : va_W} {st0 : List Value} {a : Array Value} (qb : Nat) (isR : List Nat) (hC : ws[qb]? = some (b, e0)) (hR : isR.map (fun i => ws[i]?) = wr.map some) (hnd : va_nd isR = true) (hdis : ∀ i ∈ isR, i ∉ [qb])
    {p : Program} {l : Launch} {e : Env} {s : State} {m : MethodId} {args : Array Value} {below : List Frame} {meth : Method} {c : Code} {A : Nat → Prop} (X : cx_X y cc mL p s m args meth c D ca A) {H : Heap} {locs : List Loc} {lsA : Array Slot} (hP : va_P D ax_cl ws H) (hD : va_D A ws) (hS : va_S A s.heap H locs) (hl : lv_has lsA mL ls)
    (hr : va_Run p l e (cx_R dp mc ms) s m args below meth c H locs cells slots mc2 ms2 (F0 m pc lsA st0) st (cx_Q D F2 b (va_A [(b, e0)] H.size) a) (va_A [(b, e0)] H.size))
    (k : ∀ u : Nat → Nat, u 0 = b → cx_J D ca y cc mL dp mc ms h0 F (pc + 3) ls st (wr ++ F2 u) (cells + mc2) (slots + ms2)) :
    W p l e (cx_R dp mc ms) s m args below meth c H locs cells slots (MQ below (cx_Q D F h0 A) args s mc ms A) (F0 m pc lsA st0) := by
  have hC2 : [qb].map (fun i => ws[i]?) = ([(b, e0)] : va_W).map some := by simp [hC]
  have hFc := va_free (wc := [(b, e0)]) hD hS X.2.2.2.2.2.2.2.2.2.2 [qb] hC2
  refine va_callv hr hS (fun q _ h => hFc q h) hFc (fun u t H1 locs1 ht hvm hw hB hz1 hk1 hS1 => ?_)
  obtain ⟨hP1, hD1⟩ := hB
  rw [ht] at hP1
  obtain ⟨hP2, hD2⟩ := va_join (wr := wr) (w1 := F2 u) hP hD [qb] isR hC2 hR hnd hdis hk1 hFc hP1 hD1
  exact k u hw p l e s m args below meth c A X H1 locs1 lsA hP2 hD2 hS1 hl
/-- a call of a nest mate's private constructor -/
theorem cx_callN {y2 : MethodName} {cc2 : ByteArray} {mL2 dp2 mc2 ms2 idx n b : Nat} {e0 : va_E} {F2 : (Nat → Nat) → va_W} {wr : va_W} {as st0 : List Value} (qb : Nat) (isR : List Nat) (hd : decode cc pc = .ok (.invokespecial idx, 3)) (hw : cx_W y2 cc2 mL2 n) (hN : ∀ U, cx_N U → va_Nw (.methodLinkNest y.cls idx y2 "RowsIntoPlane") U) (hM : cx_C D ca y2 cc2 mL2 dp2 mc2 ms2 (.ref b :: as) b [(b, e0)] F2) (hC : ws[qb]? = some (b, e0)) (hR : isR.map (fun i => ws[i]?) = wr.map some) (hnd : va_nd isR = true) (hdis : ∀ i ∈ isR, i ∉ [qb]) (hn : as.length = n) (h0' : st0 = as.reverse ++ .ref b :: st) (hz : (st.map fun v => v.category).sum ≤ 8) (hdp : dp2 + 1 ≤ dp) (hc : cells + mc2 ≤ mc) (hs : slots + ms2 ≤ ms)
    (k : ∀ u : Nat → Nat, u 0 = b → cx_J D ca y cc mL dp mc ms h0 F (pc + 3) ls st (wr ++ F2 u) (cells + mc2) (slots + ms2)) : cx_J D ca y cc mL dp mc ms h0 F pc ls st0 ws cells slots := by
  intro p l e s m args below meth c A X H locs lsA hP hD hS hl
  have hts := X.2.2.2.2.2.2.1
  obtain ⟨w1, w2, w3, w4, w5, w6⟩ := hw
  subst h0'
  refine cx_back (y2 := y2) qb isR hC hR hnd hdis X hP hD hS hl (va_runIN (As := as) (b := b) (n := n) (Ts := ax_Ts) (bytes := cc2) (maxL := mL2) (own := y.cls) (host := "RowsIntoPlane") ⟨X.1, X.2.1, X.2.2.2.1, X.2.2.2.2.2.1, hts⟩ (hM l H.size) ⟨?_, w4, hts _ w3⟩ ⟨cx_blind _, ?_⟩ rfl hn hl.1 rfl (lv_room hz) hd ⟨hc, hs⟩) k
  · exact va_cnB n hts (ax_good w1) rfl rfl rfl (hN s X.2.2.2.2.2.2.2.2.2.1) (hts _ w2) w5 ⟨hdp, by show 8 + (mL2 + 11) + 36 * dp2 ≤ 36 * dp; omega⟩
  · intro U hU hW
    exact ⟨rfl, by rw [hU], by rw [hU]; exact hP.sub [qb] (by simp [hC]), va_K.moved hW.alike X.2.2.2.2.2.2.2.1, X.2.2.2.2.2.2.2.2.2.1.warm hW, (hD.sub [qb] rfl (by simp [hC])).weaken (fun _ _ _ _ => trivial)⟩
/-- a call of another constructor -/
theorem cx_callI {y2 : MethodName} {cc2 : ByteArray} {mL2 dp2 mc2 ms2 idx n b : Nat} {e0 : va_E} {F2 : (Nat → Nat) → va_W} {wr : va_W} {as st0 : List Value} (qb : Nat) (isR : List Nat) (hd : decode cc pc = .ok (.invokespecial idx, 3)) (hw : cx_W y2 cc2 mL2 n) (hN : Cond.methodLink y.cls idx y2 ∈ ax_Ts) (hM : cx_C D ca y2 cc2 mL2 dp2 mc2 ms2 (.ref b :: as) b [(b, e0)] F2) (hC : ws[qb]? = some (b, e0)) (hR : isR.map (fun i => ws[i]?) = wr.map some) (hnd : va_nd isR = true) (hdis : ∀ i ∈ isR, i ∉ [qb]) (hn : as.length = n) (h0' : st0 = as.reverse ++ .ref b :: st) (hz : (st.map fun v => v.category).sum ≤ 8) (hdp : dp2 + 1 ≤ dp) (hc : cells + mc2 ≤ mc) (hs : slots + ms2 ≤ ms)
    (k : ∀ u : Nat → Nat, u 0 = b → cx_J D ca y cc mL dp mc ms h0 F (pc + 3) ls st (wr ++ F2 u) (cells + mc2) (slots + ms2)) : cx_J D ca y cc mL dp mc ms h0 F pc ls st0 ws cells slots := by
  intro p l e s m args below meth c A X H locs lsA hP hD hS hl
  have hts := X.2.2.2.2.2.2.1
  obtain ⟨w1, w2, w3, w4, w5, w6⟩ := hw
  subst h0'
  refine cx_back (y2 := y2) qb isR hC hR hnd hdis X hP hD hS hl (va_runI (As := as) (b := b) (n := n) (Ts := ax_Ts) (bytes := cc2) (maxL := mL2) (own := y.cls) ⟨X.1, X.2.1, X.2.2.2.1, X.2.2.2.2.2.1, hts⟩ (hM l H.size) ⟨?_, w4, hts _ w3⟩ ⟨cx_blind _, ?_⟩ rfl hn hl.1 rfl (lv_room hz) hd ⟨hc, hs⟩) k
  · exact callB_of n hts (ax_good w1) rfl rfl rfl (hts _ w2) (hts _ hN) w5 ⟨hdp, by show 8 + (mL2 + 11) + 36 * dp2 ≤ 36 * dp; omega⟩
  · intro U hU hW
    exact ⟨rfl, by rw [hU], by rw [hU]; exact hP.sub [qb] (by simp [hC]), va_K.moved hW.alike X.2.2.2.2.2.2.2.1, X.2.2.2.2.2.2.2.2.2.1.warm hW, (hD.sub [qb] rfl (by simp [hC])).weaken (fun _ _ _ _ => trivial)⟩
theorem cx_ret (u : Nat → Nat) (is : List Nat) (hd : decode cc pc = .ok (.return_, 1)) (hu : u 0 = h0) (hnd : va_nd is = true) (hw : is.map (fun i => ws[i]?) = (F u).map some) (hc : cells = mc) (hs : slots = ms) : cx_J D ca y cc mL dp mc ms h0 F pc ls [] ws cells slots := by
  intro p l e s m args below meth c A X H locs lsA hP hD hS hl
  subst hc
  subst hs
  have hP2 : va_P D ax_cl (F u) H := by
    refine hP.sub is ?_
    have : is.filterMap (fun i => ws[i]?) = (is.map (fun i => ws[i]?)).filterMap id := by rw [List.filterMap_map]; rfl
    rw [this, hw, List.filterMap_map]
    simp
  have hD2 := hD.sub is hnd hw
  have hlocks : meth.locks = false := X.2.2.2.2.1
  exact W.vret X.1 X.2.1 X.2.2.1 (fun t ht hW => ⟨⟨u, rfl, hu, by rw [ht]; exact hP2, hD2⟩, hS.F ht⟩) hS.2.2 hd
end CX
end
section
/-! constructors (by program gen3.py) -/
theorem ia_int : Cond.arrayClass .int ∈ ax_Ts := ax_mem 167 (by decide +kernel) (by decide +kernel)
theorem ia_char : Cond.arrayClass .char ∈ ax_Ts := ax_mem 208 (by decide +kernel) (by decide +kernel)
theorem ia_boolean : Cond.arrayClass .boolean ∈ ax_Ts := ax_mem 340 (by decide +kernel) (by decide +kernel)
abbrev iy_C : MethodName := ⟨"RowsIntoPlane$Cabin", "<init>", "()V"⟩
abbrev ib_C : ByteArray := prog_3_method_1_code
theorem iw_C : cx_W iy_C ib_C 1 0 := ⟨ax_mem 87 (by decide +kernel) (by decide +kernel), ax_mem 64 (by decide +kernel) (by decide +kernel), ax_mem 86 (by decide +kernel) (by decide +kernel), rfl, ⟨by decide, by decide, by decide +kernel⟩, by decide⟩
theorem di_C_0 : decode ib_C 0 = .ok (.aload_n 0, 1) := by decide +kernel
theorem di_C_1 : decode ib_C 1 = .ok (.invokespecial 1, 3) := by decide +kernel
theorem io_C : Cond.methodLink "RowsIntoPlane$Cabin" 1 objectInit ∈ ax_Ts := ax_mem 88 (by decide +kernel) (by decide +kernel)
theorem di_C_4 : decode ib_C 4 = .ok (.return_, 1) := by decide +kernel
abbrev iy_E : MethodName := ⟨"RowsIntoPlane$People", "<init>", "()V"⟩
abbrev ib_E : ByteArray := prog_9_method_1_code
theorem iw_E : cx_W iy_E ib_E 1 0 := ⟨ax_mem 112 (by decide +kernel) (by decide +kernel), ax_mem 65 (by decide +kernel) (by decide +kernel), ax_mem 111 (by decide +kernel) (by decide +kernel), rfl, ⟨by decide, by decide, by decide +kernel⟩, by decide⟩
theorem di_E_0 : decode ib_E 0 = .ok (.aload_n 0, 1) := by decide +kernel
theorem di_E_1 : decode ib_E 1 = .ok (.invokespecial 3, 3) := by decide +kernel
theorem io_E : Cond.methodLink "RowsIntoPlane$People" 3 objectInit ∈ ax_Ts := ax_mem 113 (by decide +kernel) (by decide +kernel)
theorem di_E_4 : decode ib_E 4 = .ok (.aload_n 0, 1) := by decide +kernel
theorem di_E_5 : decode ib_E 5 = .ok (.bipush 12, 2) := by decide +kernel
theorem di_E_7 : decode ib_E 7 = .ok (.newarray .int, 2) := by decide +kernel
theorem di_E_9 : decode ib_E 9 = .ok (.putfield 9, 3) := by decide +kernel
theorem ip_E_9 : cx_FP "RowsIntoPlane$People" 9 7 0 := ⟨(rn_7, tb_7, 8), rfl, by decide, ax_mem 114 (by decide +kernel) (by decide +kernel), wi_7, rfl, rfl, ⟨.array .int, by decide +kernel, rfl⟩, ⟨ft_7, fo_7⟩, nm_7⟩
theorem di_E_12 : decode ib_E 12 = .ok (.aload_n 0, 1) := by decide +kernel
theorem di_E_13 : decode ib_E 13 = .ok (.bipush 12, 2) := by decide +kernel
theorem di_E_15 : decode ib_E 15 = .ok (.newarray .int, 2) := by decide +kernel
theorem di_E_17 : decode ib_E 17 = .ok (.putfield 15, 3) := by decide +kernel
theorem ip_E_15 : cx_FP "RowsIntoPlane$People" 15 7 1 := ⟨(rn_7, tb_7, 8), rfl, by decide, ax_mem 117 (by decide +kernel) (by decide +kernel), wi_7, rfl, rfl, ⟨.array .int, by decide +kernel, rfl⟩, ⟨ft_7, fo_7⟩, nm_7⟩
theorem di_E_20 : decode ib_E 20 = .ok (.aload_n 0, 1) := by decide +kernel
theorem di_E_21 : decode ib_E 21 = .ok (.bipush 12, 2) := by decide +kernel
theorem di_E_23 : decode ib_E 23 = .ok (.newarray .int, 2) := by decide +kernel
theorem di_E_25 : decode ib_E 25 = .ok (.putfield 18, 3) := by decide +kernel
theorem ip_E_18 : cx_FP "RowsIntoPlane$People" 18 7 2 := ⟨(rn_7, tb_7, 8), rfl, by decide, ax_mem 120 (by decide +kernel) (by decide +kernel), wi_7, rfl, rfl, ⟨.array .int, by decide +kernel, rfl⟩, ⟨ft_7, fo_7⟩, nm_7⟩
theorem di_E_28 : decode ib_E 28 = .ok (.aload_n 0, 1) := by decide +kernel
theorem di_E_29 : decode ib_E 29 = .ok (.bipush 12, 2) := by decide +kernel
theorem di_E_31 : decode ib_E 31 = .ok (.newarray .int, 2) := by decide +kernel
theorem di_E_33 : decode ib_E 33 = .ok (.putfield 21, 3) := by decide +kernel
theorem ip_E_21 : cx_FP "RowsIntoPlane$People" 21 7 3 := ⟨(rn_7, tb_7, 8), rfl, by decide, ax_mem 125 (by decide +kernel) (by decide +kernel), wi_7, rfl, rfl, ⟨.array .int, by decide +kernel, rfl⟩, ⟨ft_7, fo_7⟩, nm_7⟩
theorem di_E_36 : decode ib_E 36 = .ok (.aload_n 0, 1) := by decide +kernel
theorem di_E_37 : decode ib_E 37 = .ok (.bipush 12, 2) := by decide +kernel
theorem di_E_39 : decode ib_E 39 = .ok (.newarray .int, 2) := by decide +kernel
theorem di_E_41 : decode ib_E 41 = .ok (.putfield 24, 3) := by decide +kernel
theorem ip_E_24 : cx_FP "RowsIntoPlane$People" 24 7 4 := ⟨(rn_7, tb_7, 8), rfl, by decide, ax_mem 130 (by decide +kernel) (by decide +kernel), wi_7, rfl, rfl, ⟨.array .int, by decide +kernel, rfl⟩, ⟨ft_7, fo_7⟩, nm_7⟩
theorem di_E_44 : decode ib_E 44 = .ok (.aload_n 0, 1) := by decide +kernel
theorem di_E_45 : decode ib_E 45 = .ok (.bipush 12, 2) := by decide +kernel
theorem di_E_47 : decode ib_E 47 = .ok (.newarray .int, 2) := by decide +kernel
theorem di_E_49 : decode ib_E 49 = .ok (.putfield 27, 3) := by decide +kernel
theorem ip_E_27 : cx_FP "RowsIntoPlane$People" 27 7 5 := ⟨(rn_7, tb_7, 8), rfl, by decide, ax_mem 135 (by decide +kernel) (by decide +kernel), wi_7, rfl, rfl, ⟨.array .int, by decide +kernel, rfl⟩, ⟨ft_7, fo_7⟩, nm_7⟩
theorem di_E_52 : decode ib_E 52 = .ok (.aload_n 0, 1) := by decide +kernel
theorem di_E_53 : decode ib_E 53 = .ok (.bipush 12, 2) := by decide +kernel
theorem di_E_55 : decode ib_E 55 = .ok (.newarray .int, 2) := by decide +kernel
theorem di_E_57 : decode ib_E 57 = .ok (.putfield 30, 3) := by decide +kernel
theorem ip_E_30 : cx_FP "RowsIntoPlane$People" 30 7 6 := ⟨(rn_7, tb_7, 8), rfl, by decide, ax_mem 141 (by decide +kernel) (by decide +kernel), wi_7, rfl, rfl, ⟨.array .int, by decide +kernel, rfl⟩, ⟨ft_7, fo_7⟩, nm_7⟩
theorem di_E_60 : decode ib_E 60 = .ok (.return_, 1) := by decide +kernel
abbrev iy_I : MethodName := ⟨"RowsIntoPlane$Image", "<init>", "()V"⟩
abbrev ib_I : ByteArray := prog_5_method_1_code
theorem iw_I : cx_W iy_I ib_I 1 0 := ⟨ax_mem 172 (by decide +kernel) (by decide +kernel), ax_mem 66 (by decide +kernel) (by decide +kernel), ax_mem 171 (by decide +kernel) (by decide +kernel), rfl, ⟨by decide, by decide, by decide +kernel⟩, by decide⟩
theorem di_I_0 : decode ib_I 0 = .ok (.aload_n 0, 1) := by decide +kernel
theorem di_I_1 : decode ib_I 1 = .ok (.invokespecial 3, 3) := by decide +kernel
theorem io_I : Cond.methodLink "RowsIntoPlane$Image" 3 objectInit ∈ ax_Ts := ax_mem 173 (by decide +kernel) (by decide +kernel)
theorem di_I_4 : decode ib_I 4 = .ok (.aload_n 0, 1) := by decide +kernel
theorem di_I_5 : decode ib_I 5 = .ok (.bipush 12, 2) := by decide +kernel
theorem di_I_7 : decode ib_I 7 = .ok (.newarray .int, 2) := by decide +kernel
theorem di_I_9 : decode ib_I 9 = .ok (.putfield 9, 3) := by decide +kernel
theorem ip_I_9 : cx_FP "RowsIntoPlane$Image" 9 3 0 := ⟨(rn_3, tb_3, 4), rfl, by decide, ax_mem 174 (by decide +kernel) (by decide +kernel), wi_3, rfl, rfl, ⟨.array .int, by decide +kernel, rfl⟩, ⟨ft_3, fo_3⟩, nm_3⟩
theorem di_I_12 : decode ib_I 12 = .ok (.aload_n 0, 1) := by decide +kernel
theorem di_I_13 : decode ib_I 13 = .ok (.bipush 12, 2) := by decide +kernel
theorem di_I_15 : decode ib_I 15 = .ok (.newarray .int, 2) := by decide +kernel
theorem di_I_17 : decode ib_I 17 = .ok (.putfield 15, 3) := by decide +kernel
theorem ip_I_15 : cx_FP "RowsIntoPlane$Image" 15 3 1 := ⟨(rn_3, tb_3, 4), rfl, by decide, ax_mem 175 (by decide +kernel) (by decide +kernel), wi_3, rfl, rfl, ⟨.array .int, by decide +kernel, rfl⟩, ⟨ft_3, fo_3⟩, nm_3⟩
theorem di_I_20 : decode ib_I 20 = .ok (.return_, 1) := by decide +kernel
abbrev iy_G : MethodName := ⟨"RowsIntoPlane$Page", "<init>", "()V"⟩
abbrev ib_G : ByteArray := prog_8_method_1_code
theorem iw_G : cx_W iy_G ib_G 1 0 := ⟨ax_mem 192 (by decide +kernel) (by decide +kernel), ax_mem 67 (by decide +kernel) (by decide +kernel), ax_mem 191 (by decide +kernel) (by decide +kernel), rfl, ⟨by decide, by decide, by decide +kernel⟩, by decide⟩
theorem di_G_0 : decode ib_G 0 = .ok (.aload_n 0, 1) := by decide +kernel
theorem di_G_1 : decode ib_G 1 = .ok (.invokespecial 3, 3) := by decide +kernel
theorem io_G : Cond.methodLink "RowsIntoPlane$Page" 3 objectInit ∈ ax_Ts := ax_mem 193 (by decide +kernel) (by decide +kernel)
theorem di_G_4 : decode ib_G 4 = .ok (.aload_n 0, 1) := by decide +kernel
theorem di_G_5 : decode ib_G 5 = .ok (.bipush 16, 2) := by decide +kernel
theorem di_G_7 : decode ib_G 7 = .ok (.newarray .char, 2) := by decide +kernel
theorem di_G_9 : decode ib_G 9 = .ok (.putfield 9, 3) := by decide +kernel
theorem ip_G_9 : cx_FP "RowsIntoPlane$Page" 9 6 0 := ⟨(rn_6, tb_6, 3), rfl, by decide, ax_mem 194 (by decide +kernel) (by decide +kernel), wi_6, rfl, rfl, ⟨.array .char, by decide +kernel, rfl⟩, ⟨ft_6, fo_6⟩, nm_6⟩
theorem di_G_12 : decode ib_G 12 = .ok (.return_, 1) := by decide +kernel
abbrev iy_N : MethodName := ⟨"RowsIntoPlane$Line", "<init>", "()V"⟩
abbrev ib_N : ByteArray := prog_7_method_1_code
theorem iw_N : cx_W iy_N ib_N 1 0 := ⟨ax_mem 215 (by decide +kernel) (by decide +kernel), ax_mem 68 (by decide +kernel) (by decide +kernel), ax_mem 214 (by decide +kernel) (by decide +kernel), rfl, ⟨by decide, by decide, by decide +kernel⟩, by decide⟩
theorem di_N_0 : decode ib_N 0 = .ok (.aload_n 0, 1) := by decide +kernel
theorem di_N_1 : decode ib_N 1 = .ok (.invokespecial 3, 3) := by decide +kernel
theorem io_N : Cond.methodLink "RowsIntoPlane$Line" 3 objectInit ∈ ax_Ts := ax_mem 216 (by decide +kernel) (by decide +kernel)
theorem di_N_4 : decode ib_N 4 = .ok (.aload_n 0, 1) := by decide +kernel
theorem di_N_5 : decode ib_N 5 = .ok (.bipush 12, 2) := by decide +kernel
theorem di_N_7 : decode ib_N 7 = .ok (.newarray .int, 2) := by decide +kernel
theorem di_N_9 : decode ib_N 9 = .ok (.putfield 9, 3) := by decide +kernel
theorem ip_N_9 : cx_FP "RowsIntoPlane$Line" 9 5 0 := ⟨(rn_5, tb_5, 2), rfl, by decide, ax_mem 217 (by decide +kernel) (by decide +kernel), wi_5, rfl, rfl, ⟨.array .int, by decide +kernel, rfl⟩, ⟨ft_5, fo_5⟩, nm_5⟩
theorem di_N_12 : decode ib_N 12 = .ok (.return_, 1) := by decide +kernel
abbrev iy_K : MethodName := ⟨"RowsIntoPlane$Call", "<init>", "()V"⟩
abbrev ib_K : ByteArray := prog_4_method_1_code
theorem iw_K : cx_W iy_K ib_K 1 0 := ⟨ax_mem 233 (by decide +kernel) (by decide +kernel), ax_mem 69 (by decide +kernel) (by decide +kernel), ax_mem 232 (by decide +kernel) (by decide +kernel), rfl, ⟨by decide, by decide, by decide +kernel⟩, by decide⟩
theorem di_K_0 : decode ib_K 0 = .ok (.aload_n 0, 1) := by decide +kernel
theorem di_K_1 : decode ib_K 1 = .ok (.invokespecial 3, 3) := by decide +kernel
theorem io_K : Cond.methodLink "RowsIntoPlane$Call" 3 objectInit ∈ ax_Ts := ax_mem 234 (by decide +kernel) (by decide +kernel)
theorem di_K_4 : decode ib_K 4 = .ok (.aload_n 0, 1) := by decide +kernel
theorem di_K_5 : decode ib_K 5 = .ok (.iconst 4, 1) := by decide +kernel
theorem di_K_6 : decode ib_K 6 = .ok (.newarray .char, 2) := by decide +kernel
theorem di_K_8 : decode ib_K 8 = .ok (.putfield 9, 3) := by decide +kernel
theorem ip_K_9 : cx_FP "RowsIntoPlane$Call" 9 2 0 := ⟨(rn_2, tb_2, 3), rfl, by decide, ax_mem 235 (by decide +kernel) (by decide +kernel), wi_2, rfl, rfl, ⟨.array .char, by decide +kernel, rfl⟩, ⟨ft_2, fo_2⟩, nm_2⟩
theorem di_K_11 : decode ib_K 11 = .ok (.aload_n 0, 1) := by decide +kernel
theorem di_K_12 : decode ib_K 12 = .ok (.iconst 4, 1) := by decide +kernel
theorem di_K_13 : decode ib_K 13 = .ok (.newarray .int, 2) := by decide +kernel
theorem di_K_15 : decode ib_K 15 = .ok (.putfield 15, 3) := by decide +kernel
theorem ip_K_15 : cx_FP "RowsIntoPlane$Call" 15 2 1 := ⟨(rn_2, tb_2, 3), rfl, by decide, ax_mem 236 (by decide +kernel) (by decide +kernel), wi_2, rfl, rfl, ⟨.array .int, by decide +kernel, rfl⟩, ⟨ft_2, fo_2⟩, nm_2⟩
theorem di_K_18 : decode ib_K 18 = .ok (.return_, 1) := by decide +kernel
abbrev iy_B : MethodName := ⟨"RowsIntoPlane$Boarding", "<init>", "(LRowsIntoPlane$People;)V"⟩
abbrev ib_B : ByteArray := prog_2_method_1_code
theorem iw_B : cx_W iy_B ib_B 2 1 := ⟨ax_mem 249 (by decide +kernel) (by decide +kernel), ax_mem 70 (by decide +kernel) (by decide +kernel), ax_mem 248 (by decide +kernel) (by decide +kernel), rfl, ⟨by decide, by decide, by decide +kernel⟩, by decide⟩
theorem di_B_0 : decode ib_B 0 = .ok (.aload_n 0, 1) := by decide +kernel
theorem di_B_1 : decode ib_B 1 = .ok (.invokespecial 3, 3) := by decide +kernel
theorem io_B : Cond.methodLink "RowsIntoPlane$Boarding" 3 objectInit ∈ ax_Ts := ax_mem 250 (by decide +kernel) (by decide +kernel)
theorem di_B_4 : decode ib_B 4 = .ok (.aload_n 0, 1) := by decide +kernel
theorem di_B_5 : decode ib_B 5 = .ok (.bipush 12, 2) := by decide +kernel
theorem di_B_7 : decode ib_B 7 = .ok (.newarray .int, 2) := by decide +kernel
theorem di_B_9 : decode ib_B 9 = .ok (.putfield 9, 3) := by decide +kernel
theorem ip_B_9 : cx_FP "RowsIntoPlane$Boarding" 9 0 1 := ⟨(rn_0, tb_0, 16), rfl, by decide, ax_mem 254 (by decide +kernel) (by decide +kernel), wi_0, rfl, rfl, ⟨.array .int, by decide +kernel, rfl⟩, ⟨ft_0, fo_0⟩, nm_0⟩
theorem di_B_12 : decode ib_B 12 = .ok (.aload_n 0, 1) := by decide +kernel
theorem di_B_13 : decode ib_B 13 = .ok (.bipush 12, 2) := by decide +kernel
theorem di_B_15 : decode ib_B 15 = .ok (.newarray .int, 2) := by decide +kernel
theorem di_B_17 : decode ib_B 17 = .ok (.putfield 15, 3) := by decide +kernel
theorem ip_B_15 : cx_FP "RowsIntoPlane$Boarding" 15 0 2 := ⟨(rn_0, tb_0, 16), rfl, by decide, ax_mem 255 (by decide +kernel) (by decide +kernel), wi_0, rfl, rfl, ⟨.array .int, by decide +kernel, rfl⟩, ⟨ft_0, fo_0⟩, nm_0⟩
theorem di_B_20 : decode ib_B 20 = .ok (.aload_n 0, 1) := by decide +kernel
theorem di_B_21 : decode ib_B 21 = .ok (.bipush 12, 2) := by decide +kernel
theorem di_B_23 : decode ib_B 23 = .ok (.newarray .int, 2) := by decide +kernel
theorem di_B_25 : decode ib_B 25 = .ok (.putfield 18, 3) := by decide +kernel
theorem ip_B_18 : cx_FP "RowsIntoPlane$Boarding" 18 0 3 := ⟨(rn_0, tb_0, 16), rfl, by decide, ax_mem 256 (by decide +kernel) (by decide +kernel), wi_0, rfl, rfl, ⟨.array .int, by decide +kernel, rfl⟩, ⟨ft_0, fo_0⟩, nm_0⟩
theorem di_B_28 : decode ib_B 28 = .ok (.aload_n 0, 1) := by decide +kernel
theorem di_B_29 : decode ib_B 29 = .ok (.bipush 12, 2) := by decide +kernel
theorem di_B_31 : decode ib_B 31 = .ok (.newarray .int, 2) := by decide +kernel
theorem di_B_33 : decode ib_B 33 = .ok (.putfield 21, 3) := by decide +kernel
theorem ip_B_21 : cx_FP "RowsIntoPlane$Boarding" 21 0 4 := ⟨(rn_0, tb_0, 16), rfl, by decide, ax_mem 257 (by decide +kernel) (by decide +kernel), wi_0, rfl, rfl, ⟨.array .int, by decide +kernel, rfl⟩, ⟨ft_0, fo_0⟩, nm_0⟩
theorem di_B_36 : decode ib_B 36 = .ok (.aload_n 0, 1) := by decide +kernel
theorem di_B_37 : decode ib_B 37 = .ok (.bipush 12, 2) := by decide +kernel
theorem di_B_39 : decode ib_B 39 = .ok (.newarray .int, 2) := by decide +kernel
theorem di_B_41 : decode ib_B 41 = .ok (.putfield 24, 3) := by decide +kernel
theorem ip_B_24 : cx_FP "RowsIntoPlane$Boarding" 24 0 5 := ⟨(rn_0, tb_0, 16), rfl, by decide, ax_mem 258 (by decide +kernel) (by decide +kernel), wi_0, rfl, rfl, ⟨.array .int, by decide +kernel, rfl⟩, ⟨ft_0, fo_0⟩, nm_0⟩
theorem di_B_44 : decode ib_B 44 = .ok (.aload_n 0, 1) := by decide +kernel
theorem di_B_45 : decode ib_B 45 = .ok (.bipush 12, 2) := by decide +kernel
theorem di_B_47 : decode ib_B 47 = .ok (.newarray .int, 2) := by decide +kernel
theorem di_B_49 : decode ib_B 49 = .ok (.putfield 27, 3) := by decide +kernel
theorem ip_B_27 : cx_FP "RowsIntoPlane$Boarding" 27 0 6 := ⟨(rn_0, tb_0, 16), rfl, by decide, ax_mem 259 (by decide +kernel) (by decide +kernel), wi_0, rfl, rfl, ⟨.array .int, by decide +kernel, rfl⟩, ⟨ft_0, fo_0⟩, nm_0⟩
theorem di_B_52 : decode ib_B 52 = .ok (.aload_n 0, 1) := by decide +kernel
theorem di_B_53 : decode ib_B 53 = .ok (.bipush 12, 2) := by decide +kernel
theorem di_B_55 : decode ib_B 55 = .ok (.newarray .int, 2) := by decide +kernel
theorem di_B_57 : decode ib_B 57 = .ok (.putfield 30, 3) := by decide +kernel
theorem ip_B_30 : cx_FP "RowsIntoPlane$Boarding" 30 0 7 := ⟨(rn_0, tb_0, 16), rfl, by decide, ax_mem 260 (by decide +kernel) (by decide +kernel), wi_0, rfl, rfl, ⟨.array .int, by decide +kernel, rfl⟩, ⟨ft_0, fo_0⟩, nm_0⟩
theorem di_B_60 : decode ib_B 60 = .ok (.aload_n 0, 1) := by decide +kernel
theorem di_B_61 : decode ib_B 61 = .ok (.bipush 12, 2) := by decide +kernel
theorem di_B_63 : decode ib_B 63 = .ok (.iconst 3, 1) := by decide +kernel
theorem di_B_64 : decode ib_B 64 = .ok (.multianewarray 33 2, 4) := by decide +kernel
theorem iq_B_33 : Cond.classLink "RowsIntoPlane$Boarding" 33 "[[I" ∈ ax_Ts := ax_mem 251 (by decide +kernel) (by decide +kernel)
theorem di_B_68 : decode ib_B 68 = .ok (.putfield 35, 3) := by decide +kernel
theorem ip_B_35 : cx_FP "RowsIntoPlane$Boarding" 35 0 8 := ⟨(rn_0, tb_0, 16), rfl, by decide, ax_mem 261 (by decide +kernel) (by decide +kernel), wi_0, rfl, rfl, ⟨.array (.array .int), by decide +kernel, rfl⟩, ⟨ft_0, fo_0⟩, nm_0⟩
theorem di_B_71 : decode ib_B 71 = .ok (.aload_n 0, 1) := by decide +kernel
theorem di_B_72 : decode ib_B 72 = .ok (.bipush 12, 2) := by decide +kernel
theorem di_B_74 : decode ib_B 74 = .ok (.newarray .int, 2) := by decide +kernel
theorem di_B_76 : decode ib_B 76 = .ok (.putfield 38, 3) := by decide +kernel
theorem ip_B_38 : cx_FP "RowsIntoPlane$Boarding" 38 0 9 := ⟨(rn_0, tb_0, 16), rfl, by decide, ax_mem 262 (by decide +kernel) (by decide +kernel), wi_0, rfl, rfl, ⟨.array .int, by decide +kernel, rfl⟩, ⟨ft_0, fo_0⟩, nm_0⟩
theorem di_B_79 : decode ib_B 79 = .ok (.aload_n 0, 1) := by decide +kernel
theorem di_B_80 : decode ib_B 80 = .ok (.aload_n 1, 1) := by decide +kernel
theorem di_B_81 : decode ib_B 81 = .ok (.putfield 41, 3) := by decide +kernel
theorem ip_B_41 : cx_FP "RowsIntoPlane$Boarding" 41 0 0 := ⟨(rn_0, tb_0, 16), rfl, by decide, ax_mem 253 (by decide +kernel) (by decide +kernel), wi_0, rfl, rfl, ⟨.object "RowsIntoPlane$People", by decide +kernel, rfl⟩, ⟨ft_0, fo_0⟩, nm_0⟩
theorem di_B_84 : decode ib_B 84 = .ok (.return_, 1) := by decide +kernel
abbrev iy_L : MethodName := ⟨"RowsIntoPlane$Leaving", "<init>", "(LRowsIntoPlane$People;)V"⟩
abbrev ib_L : ByteArray := prog_6_method_1_code
theorem iw_L : cx_W iy_L ib_L 2 1 := ⟨ax_mem 308 (by decide +kernel) (by decide +kernel), ax_mem 71 (by decide +kernel) (by decide +kernel), ax_mem 307 (by decide +kernel) (by decide +kernel), rfl, ⟨by decide, by decide, by decide +kernel⟩, by decide⟩
theorem di_L_0 : decode ib_L 0 = .ok (.aload_n 0, 1) := by decide +kernel
theorem di_L_1 : decode ib_L 1 = .ok (.invokespecial 3, 3) := by decide +kernel
theorem io_L : Cond.methodLink "RowsIntoPlane$Leaving" 3 objectInit ∈ ax_Ts := ax_mem 309 (by decide +kernel) (by decide +kernel)
theorem di_L_4 : decode ib_L 4 = .ok (.aload_n 0, 1) := by decide +kernel
theorem di_L_5 : decode ib_L 5 = .ok (.bipush 12, 2) := by decide +kernel
theorem di_L_7 : decode ib_L 7 = .ok (.newarray .int, 2) := by decide +kernel
theorem di_L_9 : decode ib_L 9 = .ok (.putfield 9, 3) := by decide +kernel
theorem ip_L_9 : cx_FP "RowsIntoPlane$Leaving" 9 4 1 := ⟨(rn_4, tb_4, 9), rfl, by decide, ax_mem 311 (by decide +kernel) (by decide +kernel), wi_4, rfl, rfl, ⟨.array .int, by decide +kernel, rfl⟩, ⟨ft_4, fo_4⟩, nm_4⟩
theorem di_L_12 : decode ib_L 12 = .ok (.aload_n 0, 1) := by decide +kernel
theorem di_L_13 : decode ib_L 13 = .ok (.bipush 12, 2) := by decide +kernel
theorem di_L_15 : decode ib_L 15 = .ok (.newarray .int, 2) := by decide +kernel
theorem di_L_17 : decode ib_L 17 = .ok (.putfield 15, 3) := by decide +kernel
theorem ip_L_15 : cx_FP "RowsIntoPlane$Leaving" 15 4 2 := ⟨(rn_4, tb_4, 9), rfl, by decide, ax_mem 312 (by decide +kernel) (by decide +kernel), wi_4, rfl, rfl, ⟨.array .int, by decide +kernel, rfl⟩, ⟨ft_4, fo_4⟩, nm_4⟩
theorem di_L_20 : decode ib_L 20 = .ok (.aload_n 0, 1) := by decide +kernel
theorem di_L_21 : decode ib_L 21 = .ok (.bipush 12, 2) := by decide +kernel
theorem di_L_23 : decode ib_L 23 = .ok (.newarray .boolean, 2) := by decide +kernel
theorem di_L_25 : decode ib_L 25 = .ok (.putfield 18, 3) := by decide +kernel
theorem ip_L_18 : cx_FP "RowsIntoPlane$Leaving" 18 4 3 := ⟨(rn_4, tb_4, 9), rfl, by decide, ax_mem 313 (by decide +kernel) (by decide +kernel), wi_4, rfl, rfl, ⟨.array .boolean, by decide +kernel, rfl⟩, ⟨ft_4, fo_4⟩, nm_4⟩
theorem di_L_28 : decode ib_L 28 = .ok (.aload_n 0, 1) := by decide +kernel
theorem di_L_29 : decode ib_L 29 = .ok (.bipush 12, 2) := by decide +kernel
theorem di_L_31 : decode ib_L 31 = .ok (.newarray .int, 2) := by decide +kernel
theorem di_L_33 : decode ib_L 33 = .ok (.putfield 22, 3) := by decide +kernel
theorem ip_L_22 : cx_FP "RowsIntoPlane$Leaving" 22 4 4 := ⟨(rn_4, tb_4, 9), rfl, by decide, ax_mem 314 (by decide +kernel) (by decide +kernel), wi_4, rfl, rfl, ⟨.array .int, by decide +kernel, rfl⟩, ⟨ft_4, fo_4⟩, nm_4⟩
theorem di_L_36 : decode ib_L 36 = .ok (.aload_n 0, 1) := by decide +kernel
theorem di_L_37 : decode ib_L 37 = .ok (.aload_n 1, 1) := by decide +kernel
theorem di_L_38 : decode ib_L 38 = .ok (.putfield 25, 3) := by decide +kernel
theorem ip_L_25 : cx_FP "RowsIntoPlane$Leaving" 25 4 0 := ⟨(rn_4, tb_4, 9), rfl, by decide, ax_mem 310 (by decide +kernel) (by decide +kernel), wi_4, rfl, rfl, ⟨.object "RowsIntoPlane$People", by decide +kernel, rfl⟩, ⟨ft_4, fo_4⟩, nm_4⟩
theorem di_L_41 : decode ib_L 41 = .ok (.return_, 1) := by decide +kernel
abbrev iy_X : MethodName := ⟨"RowsIntoPlane", "<init>", "()V"⟩
abbrev ib_X : ByteArray := prog_1_method_1_code
theorem iw_X : cx_W iy_X ib_X 2 0 := ⟨ax_mem 79 (by decide +kernel) (by decide +kernel), ax_mem 63 (by decide +kernel) (by decide +kernel), ax_mem 78 (by decide +kernel) (by decide +kernel), rfl, ⟨by decide, by decide, by decide +kernel⟩, by decide⟩
theorem di_X_0 : decode ib_X 0 = .ok (.aload_n 0, 1) := by decide +kernel
theorem di_X_1 : decode ib_X 1 = .ok (.invokespecial 1, 3) := by decide +kernel
theorem io_X : Cond.methodLink "RowsIntoPlane" 1 objectInit ∈ ax_Ts := ax_mem 80 (by decide +kernel) (by decide +kernel)
theorem di_X_4 : decode ib_X 4 = .ok (.aload_n 0, 1) := by decide +kernel
theorem di_X_5 : decode ib_X 5 = .ok (.new 7, 3) := by decide +kernel
theorem in_X_7 : cx_NW "RowsIntoPlane" 7 1 4 [.int (Int32.ofInt 0), .int (Int32.ofInt 0), .int (Int32.ofInt 0), .int (Int32.ofInt 0)] := ⟨(rn_1, tb_1, 4), rfl, rfl, ax_mem 83 (by decide +kernel) (by decide +kernel), ax_mem 84 (by decide +kernel) (by decide +kernel), ax_mem 64 (by decide +kernel) (by decide +kernel), wi_1, ft_1, fo_1, by
  intro j hj
  change j < 4 at hj
  have : j = 0 ∨ j = 1 ∨ j = 2 ∨ j = 3 := by omega
  rcases this with rfl | rfl | rfl | rfl <;> rfl⟩
theorem di_X_8 : decode ib_X 8 = .ok (.dup, 1) := by decide +kernel
theorem di_X_9 : decode ib_X 9 = .ok (.invokespecial 9, 3) := by decide +kernel
theorem di_X_12 : decode ib_X 12 = .ok (.putfield 10, 3) := by decide +kernel
theorem ip_X_10 : cx_FP "RowsIntoPlane" 10 8 0 := ⟨(rn_8, tb_8, 11), rfl, by decide, ax_mem 341 (by decide +kernel) (by decide +kernel), wi_8, rfl, rfl, ⟨.object "RowsIntoPlane$Cabin", by decide +kernel, rfl⟩, ⟨ft_8, fo_8⟩, nm_8⟩
theorem di_X_15 : decode ib_X 15 = .ok (.aload_n 0, 1) := by decide +kernel
theorem di_X_16 : decode ib_X 16 = .ok (.new 16, 3) := by decide +kernel
theorem in_X_16 : cx_NW "RowsIntoPlane" 16 7 8 [.null, .null, .null, .null, .null, .null, .null, .int (Int32.ofInt 0)] := ⟨(rn_7, tb_7, 8), rfl, rfl, ax_mem 108 (by decide +kernel) (by decide +kernel), ax_mem 109 (by decide +kernel) (by decide +kernel), ax_mem 65 (by decide +kernel) (by decide +kernel), wi_7, ft_7, fo_7, by
  intro j hj
  change j < 8 at hj
  have : j = 0 ∨ j = 1 ∨ j = 2 ∨ j = 3 ∨ j = 4 ∨ j = 5 ∨ j = 6 ∨ j = 7 := by omega
  rcases this with rfl | rfl | rfl | rfl | rfl | rfl | rfl | rfl <;> rfl⟩
theorem di_X_19 : decode ib_X 19 = .ok (.dup, 1) := by decide +kernel
theorem di_X_20 : decode ib_X 20 = .ok (.invokespecial 18, 3) := by decide +kernel
theorem di_X_23 : decode ib_X 23 = .ok (.putfield 19, 3) := by decide +kernel
theorem ip_X_19 : cx_FP "RowsIntoPlane" 19 8 1 := ⟨(rn_8, tb_8, 11), rfl, by decide, ax_mem 342 (by decide +kernel) (by decide +kernel), wi_8, rfl, rfl, ⟨.object "RowsIntoPlane$People", by decide +kernel, rfl⟩, ⟨ft_8, fo_8⟩, nm_8⟩
theorem di_X_26 : decode ib_X 26 = .ok (.aload_n 0, 1) := by decide +kernel
theorem di_X_27 : decode ib_X 27 = .ok (.new 23, 3) := by decide +kernel
theorem in_X_23 : cx_NW "RowsIntoPlane" 23 3 4 [.null, .null, .int (Int32.ofInt 0), .int (Int32.ofInt 0)] := ⟨(rn_3, tb_3, 4), rfl, rfl, ax_mem 168 (by decide +kernel) (by decide +kernel), ax_mem 169 (by decide +kernel) (by decide +kernel), ax_mem 66 (by decide +kernel) (by decide +kernel), wi_3, ft_3, fo_3, by
  intro j hj
  change j < 4 at hj
  have : j = 0 ∨ j = 1 ∨ j = 2 ∨ j = 3 := by omega
  rcases this with rfl | rfl | rfl | rfl <;> rfl⟩
theorem di_X_30 : decode ib_X 30 = .ok (.dup, 1) := by decide +kernel
theorem di_X_31 : decode ib_X 31 = .ok (.invokespecial 25, 3) := by decide +kernel
theorem di_X_34 : decode ib_X 34 = .ok (.putfield 26, 3) := by decide +kernel
theorem ip_X_26 : cx_FP "RowsIntoPlane" 26 8 2 := ⟨(rn_8, tb_8, 11), rfl, by decide, ax_mem 343 (by decide +kernel) (by decide +kernel), wi_8, rfl, rfl, ⟨.object "RowsIntoPlane$Image", by decide +kernel, rfl⟩, ⟨ft_8, fo_8⟩, nm_8⟩
theorem di_X_37 : decode ib_X 37 = .ok (.aload_n 0, 1) := by decide +kernel
theorem di_X_38 : decode ib_X 38 = .ok (.new 30, 3) := by decide +kernel
theorem in_X_30 : cx_NW "RowsIntoPlane" 30 6 3 [.null, .int (Int32.ofInt 0), .int (Int32.ofInt 0)] := ⟨(rn_6, tb_6, 3), rfl, rfl, ax_mem 188 (by decide +kernel) (by decide +kernel), ax_mem 189 (by decide +kernel) (by decide +kernel), ax_mem 67 (by decide +kernel) (by decide +kernel), wi_6, ft_6, fo_6, by
  intro j hj
  change j < 3 at hj
  have : j = 0 ∨ j = 1 ∨ j = 2 := by omega
  rcases this with rfl | rfl | rfl <;> rfl⟩
theorem di_X_41 : decode ib_X 41 = .ok (.dup, 1) := by decide +kernel
theorem di_X_42 : decode ib_X 42 = .ok (.invokespecial 32, 3) := by decide +kernel
theorem di_X_45 : decode ib_X 45 = .ok (.putfield 33, 3) := by decide +kernel
theorem ip_X_33 : cx_FP "RowsIntoPlane" 33 8 3 := ⟨(rn_8, tb_8, 11), rfl, by decide, ax_mem 344 (by decide +kernel) (by decide +kernel), wi_8, rfl, rfl, ⟨.object "RowsIntoPlane$Page", by decide +kernel, rfl⟩, ⟨ft_8, fo_8⟩, nm_8⟩
theorem di_X_48 : decode ib_X 48 = .ok (.aload_n 0, 1) := by decide +kernel
theorem di_X_49 : decode ib_X 49 = .ok (.bipush 8, 2) := by decide +kernel
theorem di_X_51 : decode ib_X 51 = .ok (.anewarray 37, 3) := by decide +kernel
theorem iq_X_37 : Cond.classLink "RowsIntoPlane" 37 "RowsIntoPlane$Call" ∈ ax_Ts := ax_mem 209 (by decide +kernel) (by decide +kernel)
theorem di_X_54 : decode ib_X 54 = .ok (.putfield 39, 3) := by decide +kernel
theorem ip_X_39 : cx_FP "RowsIntoPlane" 39 8 4 := ⟨(rn_8, tb_8, 11), rfl, by decide, ax_mem 345 (by decide +kernel) (by decide +kernel), wi_8, rfl, rfl, ⟨.array (.object "RowsIntoPlane$Call"), by decide +kernel, rfl⟩, ⟨ft_8, fo_8⟩, nm_8⟩
theorem di_X_57 : decode ib_X 57 = .ok (.aload_n 0, 1) := by decide +kernel
theorem di_X_58 : decode ib_X 58 = .ok (.new 43, 3) := by decide +kernel
theorem in_X_43 : cx_NW "RowsIntoPlane" 43 5 2 [.null, .int (Int32.ofInt 0)] := ⟨(rn_5, tb_5, 2), rfl, rfl, ax_mem 211 (by decide +kernel) (by decide +kernel), ax_mem 212 (by decide +kernel) (by decide +kernel), ax_mem 68 (by decide +kernel) (by decide +kernel), wi_5, ft_5, fo_5, by
  intro j hj
  change j < 2 at hj
  have : j = 0 ∨ j = 1 := by omega
  rcases this with rfl | rfl <;> rfl⟩
theorem di_X_61 : decode ib_X 61 = .ok (.dup, 1) := by decide +kernel
theorem di_X_62 : decode ib_X 62 = .ok (.invokespecial 45, 3) := by decide +kernel
theorem di_X_65 : decode ib_X 65 = .ok (.putfield 46, 3) := by decide +kernel
theorem ip_X_46 : cx_FP "RowsIntoPlane" 46 8 5 := ⟨(rn_8, tb_8, 11), rfl, by decide, ax_mem 346 (by decide +kernel) (by decide +kernel), wi_8, rfl, rfl, ⟨.object "RowsIntoPlane$Line", by decide +kernel, rfl⟩, ⟨ft_8, fo_8⟩, nm_8⟩
theorem di_X_68 : decode ib_X 68 = .ok (.aload_n 0, 1) := by decide +kernel
theorem di_X_69 : decode ib_X 69 = .ok (.new 43, 3) := by decide +kernel
theorem di_X_72 : decode ib_X 72 = .ok (.dup, 1) := by decide +kernel
theorem di_X_73 : decode ib_X 73 = .ok (.invokespecial 45, 3) := by decide +kernel
theorem di_X_76 : decode ib_X 76 = .ok (.putfield 50, 3) := by decide +kernel
theorem ip_X_50 : cx_FP "RowsIntoPlane" 50 8 6 := ⟨(rn_8, tb_8, 11), rfl, by decide, ax_mem 347 (by decide +kernel) (by decide +kernel), wi_8, rfl, rfl, ⟨.object "RowsIntoPlane$Line", by decide +kernel, rfl⟩, ⟨ft_8, fo_8⟩, nm_8⟩
theorem di_X_79 : decode ib_X 79 = .ok (.iconst 0, 1) := by decide +kernel
theorem di_X_80 : decode ib_X 80 = .ok (.istore_n 1, 1) := by decide +kernel
theorem di_X_81 : decode ib_X 81 = .ok (.iload_n 1, 1) := by decide +kernel
theorem di_X_82 : decode ib_X 82 = .ok (.bipush 8, 2) := by decide +kernel
theorem di_X_84 : decode ib_X 84 = .ok (.if_icmp .ge 22, 3) := by decide +kernel
theorem di_X_87 : decode ib_X 87 = .ok (.aload_n 0, 1) := by decide +kernel
theorem di_X_88 : decode ib_X 88 = .ok (.getfield 39, 3) := by decide +kernel
theorem ig_X_39 : ax_FL "RowsIntoPlane" 39 8 4 := ⟨(rn_8, tb_8, 11), rfl, by decide, ax_mem 345 (by decide +kernel) (by decide +kernel), wi_8⟩
theorem di_X_91 : decode ib_X 91 = .ok (.iload_n 1, 1) := by decide +kernel
theorem di_X_92 : decode ib_X 92 = .ok (.new 37, 3) := by decide +kernel
theorem in_X_37 : cx_NW "RowsIntoPlane" 37 2 3 [.null, .null, .int (Int32.ofInt 0)] := ⟨(rn_2, tb_2, 3), rfl, rfl, ax_mem 209 (by decide +kernel) (by decide +kernel), ax_mem 230 (by decide +kernel) (by decide +kernel), ax_mem 69 (by decide +kernel) (by decide +kernel), wi_2, ft_2, fo_2, by
  intro j hj
  change j < 3 at hj
  have : j = 0 ∨ j = 1 ∨ j = 2 := by omega
  rcases this with rfl | rfl | rfl <;> rfl⟩
theorem di_X_95 : decode ib_X 95 = .ok (.dup, 1) := by decide +kernel
theorem di_X_96 : decode ib_X 96 = .ok (.invokespecial 53, 3) := by decide +kernel
theorem di_X_99 : decode ib_X 99 = .ok (.aastore, 1) := by decide +kernel
theorem di_X_100 : decode ib_X 100 = .ok (.iinc 1 1, 3) := by decide +kernel
theorem di_X_103 : decode ib_X 103 = .ok (.goto (-22), 3) := by decide +kernel
theorem di_X_106 : decode ib_X 106 = .ok (.aload_n 0, 1) := by decide +kernel
theorem di_X_107 : decode ib_X 107 = .ok (.new 54, 3) := by decide +kernel
theorem in_X_54 : cx_NW "RowsIntoPlane" 54 0 16 [.null, .null, .null, .null, .null, .null, .null, .null, .null, .null, .int (Int32.ofInt 0), .int (Int32.ofInt 0), .int (Int32.ofInt 0), .int (Int32.ofInt 0), .int (Int32.ofInt 0), .int (Int32.ofInt 0)] := ⟨(rn_0, tb_0, 16), rfl, rfl, ax_mem 245 (by decide +kernel) (by decide +kernel), ax_mem 246 (by decide +kernel) (by decide +kernel), ax_mem 70 (by decide +kernel) (by decide +kernel), wi_0, ft_0, fo_0, by
  intro j hj
  change j < 16 at hj
  have : j = 0 ∨ j = 1 ∨ j = 2 ∨ j = 3 ∨ j = 4 ∨ j = 5 ∨ j = 6 ∨ j = 7 ∨ j = 8 ∨ j = 9 ∨ j = 10 ∨ j = 11 ∨ j = 12 ∨ j = 13 ∨ j = 14 ∨ j = 15 := by omega
  rcases this with rfl | rfl | rfl | rfl | rfl | rfl | rfl | rfl | rfl | rfl | rfl | rfl | rfl | rfl | rfl | rfl <;> rfl⟩
theorem di_X_110 : decode ib_X 110 = .ok (.dup, 1) := by decide +kernel
theorem di_X_111 : decode ib_X 111 = .ok (.aload_n 0, 1) := by decide +kernel
theorem di_X_112 : decode ib_X 112 = .ok (.getfield 19, 3) := by decide +kernel
theorem ig_X_19 : ax_FL "RowsIntoPlane" 19 8 1 := ⟨(rn_8, tb_8, 11), rfl, by decide, ax_mem 342 (by decide +kernel) (by decide +kernel), wi_8⟩
theorem di_X_115 : decode ib_X 115 = .ok (.invokespecial 56, 3) := by decide +kernel
theorem il_X_56 : Cond.methodLink "RowsIntoPlane" 56 iy_B ∈ ax_Ts := ax_mem 247 (by decide +kernel) (by decide +kernel)
theorem di_X_118 : decode ib_X 118 = .ok (.putfield 59, 3) := by decide +kernel
theorem ip_X_59 : cx_FP "RowsIntoPlane" 59 8 7 := ⟨(rn_8, tb_8, 11), rfl, by decide, ax_mem 348 (by decide +kernel) (by decide +kernel), wi_8, rfl, rfl, ⟨.object "RowsIntoPlane$Boarding", by decide +kernel, rfl⟩, ⟨ft_8, fo_8⟩, nm_8⟩
theorem di_X_121 : decode ib_X 121 = .ok (.aload_n 0, 1) := by decide +kernel
theorem di_X_122 : decode ib_X 122 = .ok (.new 63, 3) := by decide +kernel
theorem in_X_63 : cx_NW "RowsIntoPlane" 63 4 9 [.null, .null, .null, .null, .null, .int (Int32.ofInt 0), .int (Int32.ofInt 0), .int (Int32.ofInt 0), .int (Int32.ofInt 0)] := ⟨(rn_4, tb_4, 9), rfl, rfl, ax_mem 304 (by decide +kernel) (by decide +kernel), ax_mem 305 (by decide +kernel) (by decide +kernel), ax_mem 71 (by decide +kernel) (by decide +kernel), wi_4, ft_4, fo_4, by
  intro j hj
  change j < 9 at hj
  have : j = 0 ∨ j = 1 ∨ j = 2 ∨ j = 3 ∨ j = 4 ∨ j = 5 ∨ j = 6 ∨ j = 7 ∨ j = 8 := by omega
  rcases this with rfl | rfl | rfl | rfl | rfl | rfl | rfl | rfl | rfl <;> rfl⟩
theorem di_X_125 : decode ib_X 125 = .ok (.dup, 1) := by decide +kernel
theorem di_X_126 : decode ib_X 126 = .ok (.aload_n 0, 1) := by decide +kernel
theorem di_X_127 : decode ib_X 127 = .ok (.getfield 19, 3) := by decide +kernel
theorem di_X_130 : decode ib_X 130 = .ok (.invokespecial 65, 3) := by decide +kernel
theorem il_X_65 : Cond.methodLink "RowsIntoPlane" 65 iy_L ∈ ax_Ts := ax_mem 306 (by decide +kernel) (by decide +kernel)
theorem di_X_133 : decode ib_X 133 = .ok (.putfield 66, 3) := by decide +kernel
theorem ip_X_66 : cx_FP "RowsIntoPlane" 66 8 8 := ⟨(rn_8, tb_8, 11), rfl, by decide, ax_mem 349 (by decide +kernel) (by decide +kernel), wi_8, rfl, rfl, ⟨.object "RowsIntoPlane$Leaving", by decide +kernel, rfl⟩, ⟨ft_8, fo_8⟩, nm_8⟩
theorem di_X_136 : decode ib_X 136 = .ok (.return_, 1) := by decide +kernel
abbrev iy_M : MethodName := ⟨"RowsIntoPlaneModel", "<init>", "()V"⟩
abbrev ib_M : ByteArray := prog_11_method_1_code
theorem iw_M : cx_W iy_M ib_M 1 0 := ⟨ax_mem 771 (by decide +kernel) (by decide +kernel), ax_mem 72 (by decide +kernel) (by decide +kernel), ax_mem 770 (by decide +kernel) (by decide +kernel), rfl, ⟨by decide, by decide, by decide +kernel⟩, by decide⟩
theorem di_M_0 : decode ib_M 0 = .ok (.aload_n 0, 1) := by decide +kernel
theorem di_M_1 : decode ib_M 1 = .ok (.invokespecial 1, 3) := by decide +kernel
theorem io_M : Cond.methodLink "RowsIntoPlaneModel" 1 objectInit ∈ ax_Ts := ax_mem 772 (by decide +kernel) (by decide +kernel)
theorem di_M_4 : decode ib_M 4 = .ok (.aload_n 0, 1) := by decide +kernel
theorem di_M_5 : decode ib_M 5 = .ok (.bipush 84, 2) := by decide +kernel
theorem di_M_7 : decode ib_M 7 = .ok (.newarray .int, 2) := by decide +kernel
theorem di_M_9 : decode ib_M 9 = .ok (.putfield 7, 3) := by decide +kernel
theorem ip_M_7 : cx_FP "RowsIntoPlaneModel" 7 9 5 := ⟨(rn_9, tb_9, 37), rfl, by decide, ax_mem 778 (by decide +kernel) (by decide +kernel), wi_9, rfl, rfl, ⟨.array .int, by decide +kernel, rfl⟩, ⟨ft_9, fo_9⟩, nm_9⟩
theorem di_M_12 : decode ib_M 12 = .ok (.aload_n 0, 1) := by decide +kernel
theorem di_M_13 : decode ib_M 13 = .ok (.bipush 16, 2) := by decide +kernel
theorem di_M_15 : decode ib_M 15 = .ok (.newarray .int, 2) := by decide +kernel
theorem di_M_17 : decode ib_M 17 = .ok (.putfield 13, 3) := by decide +kernel
theorem ip_M_13 : cx_FP "RowsIntoPlaneModel" 13 9 6 := ⟨(rn_9, tb_9, 37), rfl, by decide, ax_mem 779 (by decide +kernel) (by decide +kernel), wi_9, rfl, rfl, ⟨.array .int, by decide +kernel, rfl⟩, ⟨ft_9, fo_9⟩, nm_9⟩
theorem di_M_20 : decode ib_M 20 = .ok (.aload_n 0, 1) := by decide +kernel
theorem di_M_21 : decode ib_M 21 = .ok (.bipush 72, 2) := by decide +kernel
theorem di_M_23 : decode ib_M 23 = .ok (.newarray .int, 2) := by decide +kernel
theorem di_M_25 : decode ib_M 25 = .ok (.putfield 16, 3) := by decide +kernel
theorem ip_M_16 : cx_FP "RowsIntoPlaneModel" 16 9 9 := ⟨(rn_9, tb_9, 37), rfl, by decide, ax_mem 782 (by decide +kernel) (by decide +kernel), wi_9, rfl, rfl, ⟨.array .int, by decide +kernel, rfl⟩, ⟨ft_9, fo_9⟩, nm_9⟩
theorem di_M_28 : decode ib_M 28 = .ok (.aload_n 0, 1) := by decide +kernel
theorem di_M_29 : decode ib_M 29 = .ok (.bipush 8, 2) := by decide +kernel
theorem di_M_31 : decode ib_M 31 = .ok (.newarray .int, 2) := by decide +kernel
theorem di_M_33 : decode ib_M 33 = .ok (.putfield 19, 3) := by decide +kernel
theorem ip_M_19 : cx_FP "RowsIntoPlaneModel" 19 9 12 := ⟨(rn_9, tb_9, 37), rfl, by decide, ax_mem 785 (by decide +kernel) (by decide +kernel), wi_9, rfl, rfl, ⟨.array .int, by decide +kernel, rfl⟩, ⟨ft_9, fo_9⟩, nm_9⟩
theorem di_M_36 : decode ib_M 36 = .ok (.aload_n 0, 1) := by decide +kernel
theorem di_M_37 : decode ib_M 37 = .ok (.bipush 12, 2) := by decide +kernel
theorem di_M_39 : decode ib_M 39 = .ok (.newarray .int, 2) := by decide +kernel
theorem di_M_41 : decode ib_M 41 = .ok (.putfield 22, 3) := by decide +kernel
theorem ip_M_22 : cx_FP "RowsIntoPlaneModel" 22 9 14 := ⟨(rn_9, tb_9, 37), rfl, by decide, ax_mem 787 (by decide +kernel) (by decide +kernel), wi_9, rfl, rfl, ⟨.array .int, by decide +kernel, rfl⟩, ⟨ft_9, fo_9⟩, nm_9⟩
theorem di_M_44 : decode ib_M 44 = .ok (.aload_n 0, 1) := by decide +kernel
theorem di_M_45 : decode ib_M 45 = .ok (.bipush 12, 2) := by decide +kernel
theorem di_M_47 : decode ib_M 47 = .ok (.newarray .int, 2) := by decide +kernel
theorem di_M_49 : decode ib_M 49 = .ok (.putfield 25, 3) := by decide +kernel
theorem ip_M_25 : cx_FP "RowsIntoPlaneModel" 25 9 15 := ⟨(rn_9, tb_9, 37), rfl, by decide, ax_mem 788 (by decide +kernel) (by decide +kernel), wi_9, rfl, rfl, ⟨.array .int, by decide +kernel, rfl⟩, ⟨ft_9, fo_9⟩, nm_9⟩
theorem di_M_52 : decode ib_M 52 = .ok (.aload_n 0, 1) := by decide +kernel
theorem di_M_53 : decode ib_M 53 = .ok (.bipush 12, 2) := by decide +kernel
theorem di_M_55 : decode ib_M 55 = .ok (.newarray .int, 2) := by decide +kernel
theorem di_M_57 : decode ib_M 57 = .ok (.putfield 28, 3) := by decide +kernel
theorem ip_M_28 : cx_FP "RowsIntoPlaneModel" 28 9 16 := ⟨(rn_9, tb_9, 37), rfl, by decide, ax_mem 789 (by decide +kernel) (by decide +kernel), wi_9, rfl, rfl, ⟨.array .int, by decide +kernel, rfl⟩, ⟨ft_9, fo_9⟩, nm_9⟩
theorem di_M_60 : decode ib_M 60 = .ok (.aload_n 0, 1) := by decide +kernel
theorem di_M_61 : decode ib_M 61 = .ok (.bipush 12, 2) := by decide +kernel
theorem di_M_63 : decode ib_M 63 = .ok (.newarray .int, 2) := by decide +kernel
theorem di_M_65 : decode ib_M 65 = .ok (.putfield 31, 3) := by decide +kernel
theorem ip_M_31 : cx_FP "RowsIntoPlaneModel" 31 9 18 := ⟨(rn_9, tb_9, 37), rfl, by decide, ax_mem 791 (by decide +kernel) (by decide +kernel), wi_9, rfl, rfl, ⟨.array .int, by decide +kernel, rfl⟩, ⟨ft_9, fo_9⟩, nm_9⟩
theorem di_M_68 : decode ib_M 68 = .ok (.aload_n 0, 1) := by decide +kernel
theorem di_M_69 : decode ib_M 69 = .ok (.bipush 12, 2) := by decide +kernel
theorem di_M_71 : decode ib_M 71 = .ok (.newarray .int, 2) := by decide +kernel
theorem di_M_73 : decode ib_M 73 = .ok (.putfield 34, 3) := by decide +kernel
theorem ip_M_34 : cx_FP "RowsIntoPlaneModel" 34 9 19 := ⟨(rn_9, tb_9, 37), rfl, by decide, ax_mem 792 (by decide +kernel) (by decide +kernel), wi_9, rfl, rfl, ⟨.array .int, by decide +kernel, rfl⟩, ⟨ft_9, fo_9⟩, nm_9⟩
theorem di_M_76 : decode ib_M 76 = .ok (.aload_n 0, 1) := by decide +kernel
theorem di_M_77 : decode ib_M 77 = .ok (.bipush 12, 2) := by decide +kernel
theorem di_M_79 : decode ib_M 79 = .ok (.newarray .int, 2) := by decide +kernel
theorem di_M_81 : decode ib_M 81 = .ok (.putfield 37, 3) := by decide +kernel
theorem ip_M_37 : cx_FP "RowsIntoPlaneModel" 37 9 20 := ⟨(rn_9, tb_9, 37), rfl, by decide, ax_mem 793 (by decide +kernel) (by decide +kernel), wi_9, rfl, rfl, ⟨.array .int, by decide +kernel, rfl⟩, ⟨ft_9, fo_9⟩, nm_9⟩
theorem di_M_84 : decode ib_M 84 = .ok (.aload_n 0, 1) := by decide +kernel
theorem di_M_85 : decode ib_M 85 = .ok (.bipush 12, 2) := by decide +kernel
theorem di_M_87 : decode ib_M 87 = .ok (.newarray .int, 2) := by decide +kernel
theorem di_M_89 : decode ib_M 89 = .ok (.putfield 40, 3) := by decide +kernel
theorem ip_M_40 : cx_FP "RowsIntoPlaneModel" 40 9 21 := ⟨(rn_9, tb_9, 37), rfl, by decide, ax_mem 794 (by decide +kernel) (by decide +kernel), wi_9, rfl, rfl, ⟨.array .int, by decide +kernel, rfl⟩, ⟨ft_9, fo_9⟩, nm_9⟩
theorem di_M_92 : decode ib_M 92 = .ok (.aload_n 0, 1) := by decide +kernel
theorem di_M_93 : decode ib_M 93 = .ok (.bipush 12, 2) := by decide +kernel
theorem di_M_95 : decode ib_M 95 = .ok (.newarray .int, 2) := by decide +kernel
theorem di_M_97 : decode ib_M 97 = .ok (.putfield 43, 3) := by decide +kernel
theorem ip_M_43 : cx_FP "RowsIntoPlaneModel" 43 9 22 := ⟨(rn_9, tb_9, 37), rfl, by decide, ax_mem 795 (by decide +kernel) (by decide +kernel), wi_9, rfl, rfl, ⟨.array .int, by decide +kernel, rfl⟩, ⟨ft_9, fo_9⟩, nm_9⟩
theorem di_M_100 : decode ib_M 100 = .ok (.aload_n 0, 1) := by decide +kernel
theorem di_M_101 : decode ib_M 101 = .ok (.bipush 36, 2) := by decide +kernel
theorem di_M_103 : decode ib_M 103 = .ok (.newarray .int, 2) := by decide +kernel
theorem di_M_105 : decode ib_M 105 = .ok (.putfield 46, 3) := by decide +kernel
theorem ip_M_46 : cx_FP "RowsIntoPlaneModel" 46 9 23 := ⟨(rn_9, tb_9, 37), rfl, by decide, ax_mem 796 (by decide +kernel) (by decide +kernel), wi_9, rfl, rfl, ⟨.array .int, by decide +kernel, rfl⟩, ⟨ft_9, fo_9⟩, nm_9⟩
theorem di_M_108 : decode ib_M 108 = .ok (.aload_n 0, 1) := by decide +kernel
theorem di_M_109 : decode ib_M 109 = .ok (.bipush 6, 2) := by decide +kernel
theorem di_M_111 : decode ib_M 111 = .ok (.newarray .int, 2) := by decide +kernel
theorem di_M_113 : decode ib_M 113 = .ok (.putfield 49, 3) := by decide +kernel
theorem ip_M_49 : cx_FP "RowsIntoPlaneModel" 49 9 28 := ⟨(rn_9, tb_9, 37), rfl, by decide, ax_mem 801 (by decide +kernel) (by decide +kernel), wi_9, rfl, rfl, ⟨.array .int, by decide +kernel, rfl⟩, ⟨ft_9, fo_9⟩, nm_9⟩
theorem di_M_116 : decode ib_M 116 = .ok (.aload_n 0, 1) := by decide +kernel
theorem di_M_117 : decode ib_M 117 = .ok (.bipush 12, 2) := by decide +kernel
theorem di_M_119 : decode ib_M 119 = .ok (.newarray .int, 2) := by decide +kernel
theorem di_M_121 : decode ib_M 121 = .ok (.putfield 52, 3) := by decide +kernel
theorem ip_M_52 : cx_FP "RowsIntoPlaneModel" 52 9 29 := ⟨(rn_9, tb_9, 37), rfl, by decide, ax_mem 802 (by decide +kernel) (by decide +kernel), wi_9, rfl, rfl, ⟨.array .int, by decide +kernel, rfl⟩, ⟨ft_9, fo_9⟩, nm_9⟩
theorem di_M_124 : decode ib_M 124 = .ok (.aload_n 0, 1) := by decide +kernel
theorem di_M_125 : decode ib_M 125 = .ok (.bipush 12, 2) := by decide +kernel
theorem di_M_127 : decode ib_M 127 = .ok (.newarray .int, 2) := by decide +kernel
theorem di_M_129 : decode ib_M 129 = .ok (.putfield 55, 3) := by decide +kernel
theorem ip_M_55 : cx_FP "RowsIntoPlaneModel" 55 9 31 := ⟨(rn_9, tb_9, 37), rfl, by decide, ax_mem 804 (by decide +kernel) (by decide +kernel), wi_9, rfl, rfl, ⟨.array .int, by decide +kernel, rfl⟩, ⟨ft_9, fo_9⟩, nm_9⟩
theorem di_M_132 : decode ib_M 132 = .ok (.aload_n 0, 1) := by decide +kernel
theorem di_M_133 : decode ib_M 133 = .ok (.bipush 12, 2) := by decide +kernel
theorem di_M_135 : decode ib_M 135 = .ok (.newarray .int, 2) := by decide +kernel
theorem di_M_137 : decode ib_M 137 = .ok (.putfield 58, 3) := by decide +kernel
theorem ip_M_58 : cx_FP "RowsIntoPlaneModel" 58 9 32 := ⟨(rn_9, tb_9, 37), rfl, by decide, ax_mem 805 (by decide +kernel) (by decide +kernel), wi_9, rfl, rfl, ⟨.array .int, by decide +kernel, rfl⟩, ⟨ft_9, fo_9⟩, nm_9⟩
theorem di_M_140 : decode ib_M 140 = .ok (.aload_n 0, 1) := by decide +kernel
theorem di_M_141 : decode ib_M 141 = .ok (.bipush 24, 2) := by decide +kernel
theorem di_M_143 : decode ib_M 143 = .ok (.newarray .int, 2) := by decide +kernel
theorem di_M_145 : decode ib_M 145 = .ok (.putfield 61, 3) := by decide +kernel
theorem ip_M_61 : cx_FP "RowsIntoPlaneModel" 61 9 35 := ⟨(rn_9, tb_9, 37), rfl, by decide, ax_mem 808 (by decide +kernel) (by decide +kernel), wi_9, rfl, rfl, ⟨.array .int, by decide +kernel, rfl⟩, ⟨ft_9, fo_9⟩, nm_9⟩
theorem di_M_148 : decode ib_M 148 = .ok (.aload_n 0, 1) := by decide +kernel
theorem di_M_149 : decode ib_M 149 = .ok (.iconst (-1), 1) := by decide +kernel
theorem di_M_150 : decode ib_M 150 = .ok (.putfield 64, 3) := by decide +kernel
theorem ip_M_64 : ax_FP "RowsIntoPlaneModel" 64 9 33 .int := ⟨(rn_9, tb_9, 37), rfl, by decide, ax_mem 806 (by decide +kernel) (by decide +kernel), wi_9, by decide +kernel, by decide +kernel, ⟨ft_9, fo_9⟩, nm_9⟩
theorem di_M_153 : decode ib_M 153 = .ok (.return_, 1) := by decide +kernel
abbrev iF_C (ca : Nat → ClassId) (u : Nat → Nat) : va_W := [(u 0, .inr (1, [.int (Int32.ofInt 0), .int (Int32.ofInt 0), .int (Int32.ofInt 0), .int (Int32.ofInt 0)]))]
abbrev iF_E (ca : Nat → ClassId) (u : Nat → Nat) : va_W := [(u 0, .inr (7, [.ref (u 1), .ref (u 2), .ref (u 3), .ref (u 4), .ref (u 5), .ref (u 6), .ref (u 7), .int (Int32.ofInt 0)])), (u 1, cx_a ca 0 12), (u 2, cx_a ca 0 12), (u 3, cx_a ca 0 12), (u 4, cx_a ca 0 12), (u 5, cx_a ca 0 12), (u 6, cx_a ca 0 12), (u 7, cx_a ca 0 12)]
abbrev iF_I (ca : Nat → ClassId) (u : Nat → Nat) : va_W := [(u 0, .inr (3, [.ref (u 1), .ref (u 2), .int (Int32.ofInt 0), .int (Int32.ofInt 0)])), (u 1, cx_a ca 0 12), (u 2, cx_a ca 0 12)]
abbrev iF_G (ca : Nat → ClassId) (u : Nat → Nat) : va_W := [(u 0, .inr (6, [.ref (u 1), .int (Int32.ofInt 0), .int (Int32.ofInt 0)])), (u 1, cx_a ca 1 16)]
abbrev iF_N (ca : Nat → ClassId) (u : Nat → Nat) : va_W := [(u 0, .inr (5, [.ref (u 1), .int (Int32.ofInt 0)])), (u 1, cx_a ca 0 12)]
abbrev iF_K (ca : Nat → ClassId) (u : Nat → Nat) : va_W := [(u 0, .inr (2, [.ref (u 1), .ref (u 2), .int (Int32.ofInt 0)])), (u 1, cx_a ca 1 4), (u 2, cx_a ca 0 4)]
abbrev iF_B (ca : Nat → ClassId) (pp : Nat) (u : Nat → Nat) : va_W := [(u 0, .inr (0, [.ref pp, .ref (u 1), .ref (u 2), .ref (u 3), .ref (u 4), .ref (u 5), .ref (u 6), .ref (u 7), .ref (u 8), .ref (u 9), .int (Int32.ofInt 0), .int (Int32.ofInt 0), .int (Int32.ofInt 0), .int (Int32.ofInt 0), .int (Int32.ofInt 0), .int (Int32.ofInt 0)])), (u 1, cx_a ca 0 12), (u 2, cx_a ca 0 12), (u 3, cx_a ca 0 12), (u 4, cx_a ca 0 12), (u 5, cx_a ca 0 12), (u 6, cx_a ca 0 12), (u 7, cx_a ca 0 12), (u 8, cx_q ca 4 12 (cx_rf [10, 11, 12, 13, 14, 15, 16, 17, 18, 19, 20, 21] u)), (u 9, cx_a ca 0 12), (u 10, cx_a ca 0 3), (u 11, cx_a ca 0 3), (u 12, cx_a ca 0 3), (u 13, cx_a ca 0 3), (u 14, cx_a ca 0 3), (u 15, cx_a ca 0 3), (u 16, cx_a ca 0 3), (u 17, cx_a ca 0 3), (u 18, cx_a ca 0 3), (u 19, cx_a ca 0 3), (u 20, cx_a ca 0 3), (u 21, cx_a ca 0 3)]
abbrev iF_L (ca : Nat → ClassId) (pp : Nat) (u : Nat → Nat) : va_W := [(u 0, .inr (4, [.ref pp, .ref (u 1), .ref (u 2), .ref (u 3), .ref (u 4), .int (Int32.ofInt 0), .int (Int32.ofInt 0), .int (Int32.ofInt 0), .int (Int32.ofInt 0)])), (u 1, cx_a ca 0 12), (u 2, cx_a ca 0 12), (u 3, cx_a ca 2 12), (u 4, cx_a ca 0 12)]
def ix_m {α β : Type} (f : Nat → α → β) : Nat → List α → List β
  | _, [] => []
  | i, a :: l => f i a :: ix_m f (i + 1) l
theorem ix_m_eq {α β : Type} (f : Nat → α → β) : ∀ (l : List α) (i : Nat), ix_m f i l = l.mapIdx (fun j => f (i + j))
  | [], i => rfl
  | a :: l, i => by
    rw [ix_m, ix_m_eq f l (i + 1), List.mapIdx_cons]
    congr 2
    funext j
    congr 1
    omega
/-- the shapes' cells, written so that they compute -/
def ix_e (ca : Nat → ClassId) (ad : Nat → Nat) (f : Nat → Int) (s : ax_Sh) : va_E := match s with
  | .inl q => .inl (ca q.1, q.2, .inl (fun j => Int32.ofInt (f j)))
  | .inr (.inl q) => .inl (ca q.1, q.2.length, .inr (.inr (.inr (.inr (fun j => (q.2[j]?).map ad)))))
  | .inr (.inr q) => .inr (q.1, ix_m (ax_f ad f) 0 q.2)
def ix_w (sh : List ax_Sh) (ca : Nat → ClassId) (ad : Nat → Nat) (M : ax_Mem) : va_W := ix_m (fun k s => (ad k, ix_e ca ad (M k) s)) 0 sh
theorem ix_w_eq (sh : List ax_Sh) (ca : Nat → ClassId) (ad : Nat → Nat) (M : ax_Mem) : ix_w sh ca ad M = ax_w sh ca ad M := by
  have he : ∀ (f : Nat → Int) (s : ax_Sh), ix_e ca ad f s = ax_e ca ad f s := by
    intro f s
    rcases s with q | q | q
    · rfl
    · rfl
    · show (.inr (q.1, ix_m (ax_f ad f) 0 q.2) : va_E) = .inr (q.1, q.2.mapIdx (ax_f ad f))
      rw [ix_m_eq]
      simp only [Nat.zero_add]
  unfold ix_w ax_w
  rw [ix_m_eq]
  simp only [Nat.zero_add, he]
abbrev iF_X (ca : Nat → ClassId) (u : Nat → Nat) : va_W := ix_w shX ca u (fun _ _ => 0)
abbrev iF_M (ca : Nat → ClassId) (u : Nat → Nat) : va_W := ix_w shM ca u (ax_u (fun _ _ => 0) 0 33 (-1))
theorem cx_tower (a0 a1 a2 a3 a4 a5 a6 a7 : Nat) : (va_up (va_up (va_up (va_up (va_up (va_up (va_up (va_up ((fun _ => none) : Nat → Option Nat) (0 : Int32).toNatClampNeg (some (a0))) (1 : Int32).toNatClampNeg (some (a1))) (2 : Int32).toNatClampNeg (some (a2))) (3 : Int32).toNatClampNeg (some (a3))) (4 : Int32).toNatClampNeg (some (a4))) (5 : Int32).toNatClampNeg (some (a5))) (6 : Int32).toNatClampNeg (some (a6))) (7 : Int32).toNatClampNeg (some (a7))) = cx_rf [0, 1, 2, 3, 4, 5, 6, 7] (fun k => ([a0, a1, a2, a3, a4, a5, a6, a7] : List Nat).getD k 0) := by
  funext j
  match j with
  | 0 => rfl
  | 1 => rfl
  | 2 => rfl
  | 3 => rfl
  | 4 => rfl
  | 5 => rfl
  | 6 => rfl
  | 7 => rfl
  | n + 8 => rfl
end
section
/-! constructors of the small classes (by program gen3.py) -/
set_option maxRecDepth 20000 in
set_option maxHeartbeats 1000000 in
theorem ic_C (D : va_G) (ca : Nat → ClassId) (h0 : Nat) : cx_C D ca iy_C ib_C 1 1 0 0 [.ref h0] h0 [(h0, .inr (1, [.int (Int32.ofInt 0), .int (Int32.ofInt 0), .int (Int32.ofInt 0), .int (Int32.ofInt 0)]))] (iF_C ca) := by
  refine cx_ofJ (by decide) rfl (Nat.le_of_ble_eq_true rfl) ?_
  show cx_J D ca iy_C ib_C 1 1 0 0 h0 (iF_C ca) 0 [(0, .ref h0)] [] [(h0, .inr (1, [.int (Int32.ofInt 0), .int (Int32.ofInt 0), .int (Int32.ofInt 0), .int (Int32.ofInt 0)]))] 0 0
  refine cx_aload 0 di_C_0 rfl rfl ?_
  refine cx_obj di_C_1 io_C (by decide) ?_
  exact cx_ret (fun k => ([h0] : List Nat).getD k 0) [0] di_C_4 rfl (by decide) rfl rfl rfl
set_option maxRecDepth 20000 in
set_option maxHeartbeats 1000000 in
theorem ic_E (D : va_G) (ca : Nat → ClassId) (h0 : Nat) : cx_C D ca iy_E ib_E 1 1 7 84 [.ref h0] h0 [(h0, .inr (7, [.null, .null, .null, .null, .null, .null, .null, .int (Int32.ofInt 0)]))] (iF_E ca) := by
  refine cx_ofJ (by decide) rfl (Nat.le_of_ble_eq_true rfl) ?_
  show cx_J D ca iy_E ib_E 1 1 7 84 h0 (iF_E ca) 0 [(0, .ref h0)] [] [(h0, .inr (7, [.null, .null, .null, .null, .null, .null, .null, .int (Int32.ofInt 0)]))] 0 0
  refine cx_aload 0 di_E_0 rfl rfl ?_
  refine cx_obj di_E_1 io_E (by decide) ?_
  refine cx_aload 0 di_E_4 rfl rfl ?_
  refine cx_bipush (v := 12) di_E_5 (by decide) ?_
  refine cx_newa (n := 12) (N := 12) 0 di_E_7 rfl rfl (Or.inl rfl) ia_int (by decide) (by decide) (by decide) (by decide) (by decide) (fun q1 => ?_)
  refine cx_putF (ci := 7) (j := 0) (fs := [.null, .null, .null, .null, .null, .null, .null, .int (Int32.ofInt 0)]) (ws' := [(h0, .inr (7, [.ref q1, .null, .null, .null, .null, .null, .null, .int (Int32.ofInt 0)])), (q1, cx_a ca 0 12)]) 0 di_E_9 ip_E_9 rfl (Nat.le_of_ble_eq_true rfl) rfl ?_
  refine cx_aload 0 di_E_12 rfl rfl ?_
  refine cx_bipush (v := 12) di_E_13 (by decide) ?_
  refine cx_newa (n := 12) (N := 12) 0 di_E_15 rfl rfl (Or.inl rfl) ia_int (by decide) (by decide) (by decide) (by decide) (by decide) (fun q2 => ?_)
  refine cx_putF (ci := 7) (j := 1) (fs := [.ref q1, .null, .null, .null, .null, .null, .null, .int (Int32.ofInt 0)]) (ws' := [(h0, .inr (7, [.ref q1, .ref q2, .null, .null, .null, .null, .null, .int (Int32.ofInt 0)])), (q1, cx_a ca 0 12), (q2, cx_a ca 0 12)]) 0 di_E_17 ip_E_15 rfl (Nat.le_of_ble_eq_true rfl) rfl ?_
  refine cx_aload 0 di_E_20 rfl rfl ?_
  refine cx_bipush (v := 12) di_E_21 (by decide) ?_
  refine cx_newa (n := 12) (N := 12) 0 di_E_23 rfl rfl (Or.inl rfl) ia_int (by decide) (by decide) (by decide) (by decide) (by decide) (fun q3 => ?_)
  refine cx_putF (ci := 7) (j := 2) (fs := [.ref q1, .ref q2, .null, .null, .null, .null, .null, .int (Int32.ofInt 0)]) (ws' := [(h0, .inr (7, [.ref q1, .ref q2, .ref q3, .null, .null, .null, .null, .int (Int32.ofInt 0)])), (q1, cx_a ca 0 12), (q2, cx_a ca 0 12), (q3, cx_a ca 0 12)]) 0 di_E_25 ip_E_18 rfl (Nat.le_of_ble_eq_true rfl) rfl ?_
  refine cx_aload 0 di_E_28 rfl rfl ?_
  refine cx_bipush (v := 12) di_E_29 (by decide) ?_
  refine cx_newa (n := 12) (N := 12) 0 di_E_31 rfl rfl (Or.inl rfl) ia_int (by decide) (by decide) (by decide) (by decide) (by decide) (fun q4 => ?_)
  refine cx_putF (ci := 7) (j := 3) (fs := [.ref q1, .ref q2, .ref q3, .null, .null, .null, .null, .int (Int32.ofInt 0)]) (ws' := [(h0, .inr (7, [.ref q1, .ref q2, .ref q3, .ref q4, .null, .null, .null, .int (Int32.ofInt 0)])), (q1, cx_a ca 0 12), (q2, cx_a ca 0 12), (q3, cx_a ca 0 12), (q4, cx_a ca 0 12)]) 0 di_E_33 ip_E_21 rfl (Nat.le_of_ble_eq_true rfl) rfl ?_
  refine cx_aload 0 di_E_36 rfl rfl ?_
  refine cx_bipush (v := 12) di_E_37 (by decide) ?_
  refine cx_newa (n := 12) (N := 12) 0 di_E_39 rfl rfl (Or.inl rfl) ia_int (by decide) (by decide) (by decide) (by decide) (by decide) (fun q5 => ?_)
  refine cx_putF (ci := 7) (j := 4) (fs := [.ref q1, .ref q2, .ref q3, .ref q4, .null, .null, .null, .int (Int32.ofInt 0)]) (ws' := [(h0, .inr (7, [.ref q1, .ref q2, .ref q3, .ref q4, .ref q5, .null, .null, .int (Int32.ofInt 0)])), (q1, cx_a ca 0 12), (q2, cx_a ca 0 12), (q3, cx_a ca 0 12), (q4, cx_a ca 0 12), (q5, cx_a ca 0 12)]) 0 di_E_41 ip_E_24 rfl (Nat.le_of_ble_eq_true rfl) rfl ?_
  refine cx_aload 0 di_E_44 rfl rfl ?_
  refine cx_bipush (v := 12) di_E_45 (by decide) ?_
  refine cx_newa (n := 12) (N := 12) 0 di_E_47 rfl rfl (Or.inl rfl) ia_int (by decide) (by decide) (by decide) (by decide) (by decide) (fun q6 => ?_)
  refine cx_putF (ci := 7) (j := 5) (fs := [.ref q1, .ref q2, .ref q3, .ref q4, .ref q5, .null, .null, .int (Int32.ofInt 0)]) (ws' := [(h0, .inr (7, [.ref q1, .ref q2, .ref q3, .ref q4, .ref q5, .ref q6, .null, .int (Int32.ofInt 0)])), (q1, cx_a ca 0 12), (q2, cx_a ca 0 12), (q3, cx_a ca 0 12), (q4, cx_a ca 0 12), (q5, cx_a ca 0 12), (q6, cx_a ca 0 12)]) 0 di_E_49 ip_E_27 rfl (Nat.le_of_ble_eq_true rfl) rfl ?_
  refine cx_aload 0 di_E_52 rfl rfl ?_
  refine cx_bipush (v := 12) di_E_53 (by decide) ?_
  refine cx_newa (n := 12) (N := 12) 0 di_E_55 rfl rfl (Or.inl rfl) ia_int (by decide) (by decide) (by decide) (by decide) (by decide) (fun q7 => ?_)
  refine cx_putF (ci := 7) (j := 6) (fs := [.ref q1, .ref q2, .ref q3, .ref q4, .ref q5, .ref q6, .null, .int (Int32.ofInt 0)]) (ws' := [(h0, .inr (7, [.ref q1, .ref q2, .ref q3, .ref q4, .ref q5, .ref q6, .ref q7, .int (Int32.ofInt 0)])), (q1, cx_a ca 0 12), (q2, cx_a ca 0 12), (q3, cx_a ca 0 12), (q4, cx_a ca 0 12), (q5, cx_a ca 0 12), (q6, cx_a ca 0 12), (q7, cx_a ca 0 12)]) 0 di_E_57 ip_E_30 rfl (Nat.le_of_ble_eq_true rfl) rfl ?_
  exact cx_ret (fun k => ([h0, q1, q2, q3, q4, q5, q6, q7] : List Nat).getD k 0) [0, 1, 2, 3, 4, 5, 6, 7] di_E_60 rfl (by decide) rfl rfl rfl
set_option maxRecDepth 20000 in
set_option maxHeartbeats 1000000 in
theorem ic_I (D : va_G) (ca : Nat → ClassId) (h0 : Nat) : cx_C D ca iy_I ib_I 1 1 2 24 [.ref h0] h0 [(h0, .inr (3, [.null, .null, .int (Int32.ofInt 0), .int (Int32.ofInt 0)]))] (iF_I ca) := by
  refine cx_ofJ (by decide) rfl (Nat.le_of_ble_eq_true rfl) ?_
  show cx_J D ca iy_I ib_I 1 1 2 24 h0 (iF_I ca) 0 [(0, .ref h0)] [] [(h0, .inr (3, [.null, .null, .int (Int32.ofInt 0), .int (Int32.ofInt 0)]))] 0 0
  refine cx_aload 0 di_I_0 rfl rfl ?_
  refine cx_obj di_I_1 io_I (by decide) ?_
  refine cx_aload 0 di_I_4 rfl rfl ?_
  refine cx_bipush (v := 12) di_I_5 (by decide) ?_
  refine cx_newa (n := 12) (N := 12) 0 di_I_7 rfl rfl (Or.inl rfl) ia_int (by decide) (by decide) (by decide) (by decide) (by decide) (fun q1 => ?_)
  refine cx_putF (ci := 3) (j := 0) (fs := [.null, .null, .int (Int32.ofInt 0), .int (Int32.ofInt 0)]) (ws' := [(h0, .inr (3, [.ref q1, .null, .int (Int32.ofInt 0), .int (Int32.ofInt 0)])), (q1, cx_a ca 0 12)]) 0 di_I_9 ip_I_9 rfl (Nat.le_of_ble_eq_true rfl) rfl ?_
  refine cx_aload 0 di_I_12 rfl rfl ?_
  refine cx_bipush (v := 12) di_I_13 (by decide) ?_
  refine cx_newa (n := 12) (N := 12) 0 di_I_15 rfl rfl (Or.inl rfl) ia_int (by decide) (by decide) (by decide) (by decide) (by decide) (fun q2 => ?_)
  refine cx_putF (ci := 3) (j := 1) (fs := [.ref q1, .null, .int (Int32.ofInt 0), .int (Int32.ofInt 0)]) (ws' := [(h0, .inr (3, [.ref q1, .ref q2, .int (Int32.ofInt 0), .int (Int32.ofInt 0)])), (q1, cx_a ca 0 12), (q2, cx_a ca 0 12)]) 0 di_I_17 ip_I_15 rfl (Nat.le_of_ble_eq_true rfl) rfl ?_
  exact cx_ret (fun k => ([h0, q1, q2] : List Nat).getD k 0) [0, 1, 2] di_I_20 rfl (by decide) rfl rfl rfl
set_option maxRecDepth 20000 in
set_option maxHeartbeats 1000000 in
theorem ic_G (D : va_G) (ca : Nat → ClassId) (h0 : Nat) : cx_C D ca iy_G ib_G 1 1 1 16 [.ref h0] h0 [(h0, .inr (6, [.null, .int (Int32.ofInt 0), .int (Int32.ofInt 0)]))] (iF_G ca) := by
  refine cx_ofJ (by decide) rfl (Nat.le_of_ble_eq_true rfl) ?_
  show cx_J D ca iy_G ib_G 1 1 1 16 h0 (iF_G ca) 0 [(0, .ref h0)] [] [(h0, .inr (6, [.null, .int (Int32.ofInt 0), .int (Int32.ofInt 0)]))] 0 0
  refine cx_aload 0 di_G_0 rfl rfl ?_
  refine cx_obj di_G_1 io_G (by decide) ?_
  refine cx_aload 0 di_G_4 rfl rfl ?_
  refine cx_bipush (v := 16) di_G_5 (by decide) ?_
  refine cx_newa (n := 16) (N := 16) 1 di_G_7 rfl rfl (Or.inr (Or.inl rfl)) ia_char (by decide) (by decide) (by decide) (by decide) (by decide) (fun q1 => ?_)
  refine cx_putF (ci := 6) (j := 0) (fs := [.null, .int (Int32.ofInt 0), .int (Int32.ofInt 0)]) (ws' := [(h0, .inr (6, [.ref q1, .int (Int32.ofInt 0), .int (Int32.ofInt 0)])), (q1, cx_a ca 1 16)]) 0 di_G_9 ip_G_9 rfl (Nat.le_of_ble_eq_true rfl) rfl ?_
  exact cx_ret (fun k => ([h0, q1] : List Nat).getD k 0) [0, 1] di_G_12 rfl (by decide) rfl rfl rfl
set_option maxRecDepth 20000 in
set_option maxHeartbeats 1000000 in
theorem ic_N (D : va_G) (ca : Nat → ClassId) (h0 : Nat) : cx_C D ca iy_N ib_N 1 1 1 12 [.ref h0] h0 [(h0, .inr (5, [.null, .int (Int32.ofInt 0)]))] (iF_N ca) := by
  refine cx_ofJ (by decide) rfl (Nat.le_of_ble_eq_true rfl) ?_
  show cx_J D ca iy_N ib_N 1 1 1 12 h0 (iF_N ca) 0 [(0, .ref h0)] [] [(h0, .inr (5, [.null, .int (Int32.ofInt 0)]))] 0 0
  refine cx_aload 0 di_N_0 rfl rfl ?_
  refine cx_obj di_N_1 io_N (by decide) ?_
  refine cx_aload 0 di_N_4 rfl rfl ?_
  refine cx_bipush (v := 12) di_N_5 (by decide) ?_
  refine cx_newa (n := 12) (N := 12) 0 di_N_7 rfl rfl (Or.inl rfl) ia_int (by decide) (by decide) (by decide) (by decide) (by decide) (fun q1 => ?_)
  refine cx_putF (ci := 5) (j := 0) (fs := [.null, .int (Int32.ofInt 0)]) (ws' := [(h0, .inr (5, [.ref q1, .int (Int32.ofInt 0)])), (q1, cx_a ca 0 12)]) 0 di_N_9 ip_N_9 rfl (Nat.le_of_ble_eq_true rfl) rfl ?_
  exact cx_ret (fun k => ([h0, q1] : List Nat).getD k 0) [0, 1] di_N_12 rfl (by decide) rfl rfl rfl
set_option maxRecDepth 20000 in
set_option maxHeartbeats 1000000 in
theorem ic_K (D : va_G) (ca : Nat → ClassId) (h0 : Nat) : cx_C D ca iy_K ib_K 1 1 2 8 [.ref h0] h0 [(h0, .inr (2, [.null, .null, .int (Int32.ofInt 0)]))] (iF_K ca) := by
  refine cx_ofJ (by decide) rfl (Nat.le_of_ble_eq_true rfl) ?_
  show cx_J D ca iy_K ib_K 1 1 2 8 h0 (iF_K ca) 0 [(0, .ref h0)] [] [(h0, .inr (2, [.null, .null, .int (Int32.ofInt 0)]))] 0 0
  refine cx_aload 0 di_K_0 rfl rfl ?_
  refine cx_obj di_K_1 io_K (by decide) ?_
  refine cx_aload 0 di_K_4 rfl rfl ?_
  refine cx_iconst (v := 4) di_K_5 (by decide) ?_
  refine cx_newa (n := 4) (N := 4) 1 di_K_6 rfl rfl (Or.inr (Or.inl rfl)) ia_char (by decide) (by decide) (by decide) (by decide) (by decide) (fun q1 => ?_)
  refine cx_putF (ci := 2) (j := 0) (fs := [.null, .null, .int (Int32.ofInt 0)]) (ws' := [(h0, .inr (2, [.ref q1, .null, .int (Int32.ofInt 0)])), (q1, cx_a ca 1 4)]) 0 di_K_8 ip_K_9 rfl (Nat.le_of_ble_eq_true rfl) rfl ?_
  refine cx_aload 0 di_K_11 rfl rfl ?_
  refine cx_iconst (v := 4) di_K_12 (by decide) ?_
  refine cx_newa (n := 4) (N := 4) 0 di_K_13 rfl rfl (Or.inl rfl) ia_int (by decide) (by decide) (by decide) (by decide) (by decide) (fun q2 => ?_)
  refine cx_putF (ci := 2) (j := 1) (fs := [.ref q1, .null, .int (Int32.ofInt 0)]) (ws' := [(h0, .inr (2, [.ref q1, .ref q2, .int (Int32.ofInt 0)])), (q1, cx_a ca 1 4), (q2, cx_a ca 0 4)]) 0 di_K_15 ip_K_15 rfl (Nat.le_of_ble_eq_true rfl) rfl ?_
  exact cx_ret (fun k => ([h0, q1, q2] : List Nat).getD k 0) [0, 1, 2] di_K_18 rfl (by decide) rfl rfl rfl
set_option maxRecDepth 20000 in
set_option maxHeartbeats 1000000 in
theorem ic_B (D : va_G) (ca : Nat → ClassId) (h0 : Nat) (pp : Nat) : cx_C D ca iy_B ib_B 2 1 21 144 [.ref h0, .ref pp] h0 [(h0, .inr (0, [.null, .null, .null, .null, .null, .null, .null, .null, .null, .null, .int (Int32.ofInt 0), .int (Int32.ofInt 0), .int (Int32.ofInt 0), .int (Int32.ofInt 0), .int (Int32.ofInt 0), .int (Int32.ofInt 0)]))] (iF_B ca pp) := by
  refine cx_ofJ (by decide) rfl (Nat.le_of_ble_eq_true rfl) ?_
  show cx_J D ca iy_B ib_B 2 1 21 144 h0 (iF_B ca pp) 0 [(0, .ref h0), (1, .ref pp)] [] [(h0, .inr (0, [.null, .null, .null, .null, .null, .null, .null, .null, .null, .null, .int (Int32.ofInt 0), .int (Int32.ofInt 0), .int (Int32.ofInt 0), .int (Int32.ofInt 0), .int (Int32.ofInt 0), .int (Int32.ofInt 0)]))] 0 0
  refine cx_aload 0 di_B_0 rfl rfl ?_
  refine cx_obj di_B_1 io_B (by decide) ?_
  refine cx_aload 0 di_B_4 rfl rfl ?_
  refine cx_bipush (v := 12) di_B_5 (by decide) ?_
  refine cx_newa (n := 12) (N := 12) 0 di_B_7 rfl rfl (Or.inl rfl) ia_int (by decide) (by decide) (by decide) (by decide) (by decide) (fun q1 => ?_)
  refine cx_putF (ci := 0) (j := 1) (fs := [.null, .null, .null, .null, .null, .null, .null, .null, .null, .null, .int (Int32.ofInt 0), .int (Int32.ofInt 0), .int (Int32.ofInt 0), .int (Int32.ofInt 0), .int (Int32.ofInt 0), .int (Int32.ofInt 0)]) (ws' := [(h0, .inr (0, [.null, .ref q1, .null, .null, .null, .null, .null, .null, .null, .null, .int (Int32.ofInt 0), .int (Int32.ofInt 0), .int (Int32.ofInt 0), .int (Int32.ofInt 0), .int (Int32.ofInt 0), .int (Int32.ofInt 0)])), (q1, cx_a ca 0 12)]) 0 di_B_9 ip_B_9 rfl (Nat.le_of_ble_eq_true rfl) rfl ?_
  refine cx_aload 0 di_B_12 rfl rfl ?_
  refine cx_bipush (v := 12) di_B_13 (by decide) ?_
  refine cx_newa (n := 12) (N := 12) 0 di_B_15 rfl rfl (Or.inl rfl) ia_int (by decide) (by decide) (by decide) (by decide) (by decide) (fun q2 => ?_)
  refine cx_putF (ci := 0) (j := 2) (fs := [.null, .ref q1, .null, .null, .null, .null, .null, .null, .null, .null, .int (Int32.ofInt 0), .int (Int32.ofInt 0), .int (Int32.ofInt 0), .int (Int32.ofInt 0), .int (Int32.ofInt 0), .int (Int32.ofInt 0)]) (ws' := [(h0, .inr (0, [.null, .ref q1, .ref q2, .null, .null, .null, .null, .null, .null, .null, .int (Int32.ofInt 0), .int (Int32.ofInt 0), .int (Int32.ofInt 0), .int (Int32.ofInt 0), .int (Int32.ofInt 0), .int (Int32.ofInt 0)])), (q1, cx_a ca 0 12), (q2, cx_a ca 0 12)]) 0 di_B_17 ip_B_15 rfl (Nat.le_of_ble_eq_true rfl) rfl ?_
  refine cx_aload 0 di_B_20 rfl rfl ?_
  refine cx_bipush (v := 12) di_B_21 (by decide) ?_
  refine cx_newa (n := 12) (N := 12) 0 di_B_23 rfl rfl (Or.inl rfl) ia_int (by decide) (by decide) (by decide) (by decide) (by decide) (fun q3 => ?_)
  refine cx_putF (ci := 0) (j := 3) (fs := [.null, .ref q1, .ref q2, .null, .null, .null, .null, .null, .null, .null, .int (Int32.ofInt 0), .int (Int32.ofInt 0), .int (Int32.ofInt 0), .int (Int32.ofInt 0), .int (Int32.ofInt 0), .int (Int32.ofInt 0)]) (ws' := [(h0, .inr (0, [.null, .ref q1, .ref q2, .ref q3, .null, .null, .null, .null, .null, .null, .int (Int32.ofInt 0), .int (Int32.ofInt 0), .int (Int32.ofInt 0), .int (Int32.ofInt 0), .int (Int32.ofInt 0), .int (Int32.ofInt 0)])), (q1, cx_a ca 0 12), (q2, cx_a ca 0 12), (q3, cx_a ca 0 12)]) 0 di_B_25 ip_B_18 rfl (Nat.le_of_ble_eq_true rfl) rfl ?_
  refine cx_aload 0 di_B_28 rfl rfl ?_
  refine cx_bipush (v := 12) di_B_29 (by decide) ?_
  refine cx_newa (n := 12) (N := 12) 0 di_B_31 rfl rfl (Or.inl rfl) ia_int (by decide) (by decide) (by decide) (by decide) (by decide) (fun q4 => ?_)
  refine cx_putF (ci := 0) (j := 4) (fs := [.null, .ref q1, .ref q2, .ref q3, .null, .null, .null, .null, .null, .null, .int (Int32.ofInt 0), .int (Int32.ofInt 0), .int (Int32.ofInt 0), .int (Int32.ofInt 0), .int (Int32.ofInt 0), .int (Int32.ofInt 0)]) (ws' := [(h0, .inr (0, [.null, .ref q1, .ref q2, .ref q3, .ref q4, .null, .null, .null, .null, .null, .int (Int32.ofInt 0), .int (Int32.ofInt 0), .int (Int32.ofInt 0), .int (Int32.ofInt 0), .int (Int32.ofInt 0), .int (Int32.ofInt 0)])), (q1, cx_a ca 0 12), (q2, cx_a ca 0 12), (q3, cx_a ca 0 12), (q4, cx_a ca 0 12)]) 0 di_B_33 ip_B_21 rfl (Nat.le_of_ble_eq_true rfl) rfl ?_
  refine cx_aload 0 di_B_36 rfl rfl ?_
  refine cx_bipush (v := 12) di_B_37 (by decide) ?_
  refine cx_newa (n := 12) (N := 12) 0 di_B_39 rfl rfl (Or.inl rfl) ia_int (by decide) (by decide) (by decide) (by decide) (by decide) (fun q5 => ?_)
  refine cx_putF (ci := 0) (j := 5) (fs := [.null, .ref q1, .ref q2, .ref q3, .ref q4, .null, .null, .null, .null, .null, .int (Int32.ofInt 0), .int (Int32.ofInt 0), .int (Int32.ofInt 0), .int (Int32.ofInt 0), .int (Int32.ofInt 0), .int (Int32.ofInt 0)]) (ws' := [(h0, .inr (0, [.null, .ref q1, .ref q2, .ref q3, .ref q4, .ref q5, .null, .null, .null, .null, .int (Int32.ofInt 0), .int (Int32.ofInt 0), .int (Int32.ofInt 0), .int (Int32.ofInt 0), .int (Int32.ofInt 0), .int (Int32.ofInt 0)])), (q1, cx_a ca 0 12), (q2, cx_a ca 0 12), (q3, cx_a ca 0 12), (q4, cx_a ca 0 12), (q5, cx_a ca 0 12)]) 0 di_B_41 ip_B_24 rfl (Nat.le_of_ble_eq_true rfl) rfl ?_
  refine cx_aload 0 di_B_44 rfl rfl ?_
  refine cx_bipush (v := 12) di_B_45 (by decide) ?_
  refine cx_newa (n := 12) (N := 12) 0 di_B_47 rfl rfl (Or.inl rfl) ia_int (by decide) (by decide) (by decide) (by decide) (by decide) (fun q6 => ?_)
  refine cx_putF (ci := 0) (j := 6) (fs := [.null, .ref q1, .ref q2, .ref q3, .ref q4, .ref q5, .null, .null, .null, .null, .int (Int32.ofInt 0), .int (Int32.ofInt 0), .int (Int32.ofInt 0), .int (Int32.ofInt 0), .int (Int32.ofInt 0), .int (Int32.ofInt 0)]) (ws' := [(h0, .inr (0, [.null, .ref q1, .ref q2, .ref q3, .ref q4, .ref q5, .ref q6, .null, .null, .null, .int (Int32.ofInt 0), .int (Int32.ofInt 0), .int (Int32.ofInt 0), .int (Int32.ofInt 0), .int (Int32.ofInt 0), .int (Int32.ofInt 0)])), (q1, cx_a ca 0 12), (q2, cx_a ca 0 12), (q3, cx_a ca 0 12), (q4, cx_a ca 0 12), (q5, cx_a ca 0 12), (q6, cx_a ca 0 12)]) 0 di_B_49 ip_B_27 rfl (Nat.le_of_ble_eq_true rfl) rfl ?_
  refine cx_aload 0 di_B_52 rfl rfl ?_
  refine cx_bipush (v := 12) di_B_53 (by decide) ?_
  refine cx_newa (n := 12) (N := 12) 0 di_B_55 rfl rfl (Or.inl rfl) ia_int (by decide) (by decide) (by decide) (by decide) (by decide) (fun q7 => ?_)
  refine cx_putF (ci := 0) (j := 7) (fs := [.null, .ref q1, .ref q2, .ref q3, .ref q4, .ref q5, .ref q6, .null, .null, .null, .int (Int32.ofInt 0), .int (Int32.ofInt 0), .int (Int32.ofInt 0), .int (Int32.ofInt 0), .int (Int32.ofInt 0), .int (Int32.ofInt 0)]) (ws' := [(h0, .inr (0, [.null, .ref q1, .ref q2, .ref q3, .ref q4, .ref q5, .ref q6, .ref q7, .null, .null, .int (Int32.ofInt 0), .int (Int32.ofInt 0), .int (Int32.ofInt 0), .int (Int32.ofInt 0), .int (Int32.ofInt 0), .int (Int32.ofInt 0)])), (q1, cx_a ca 0 12), (q2, cx_a ca 0 12), (q3, cx_a ca 0 12), (q4, cx_a ca 0 12), (q5, cx_a ca 0 12), (q6, cx_a ca 0 12), (q7, cx_a ca 0 12)]) 0 di_B_57 ip_B_30 rfl (Nat.le_of_ble_eq_true rfl) rfl ?_
  refine cx_aload 0 di_B_60 rfl rfl ?_
  refine cx_bipush (v := 12) di_B_61 (by decide) ?_
  refine cx_iconst (v := 3) di_B_63 (by decide) ?_
  refine cx_multi di_B_64 iq_B_33 ia_int (by decide) (by decide) (fun qb => ?_)
  refine cx_putF (ci := 0) (j := 8) (fs := [.null, .ref q1, .ref q2, .ref q3, .ref q4, .ref q5, .ref q6, .ref q7, .null, .null, .int (Int32.ofInt 0), .int (Int32.ofInt 0), .int (Int32.ofInt 0), .int (Int32.ofInt 0), .int (Int32.ofInt 0), .int (Int32.ofInt 0)]) (ws' := [(h0, .inr (0, [.null, .ref q1, .ref q2, .ref q3, .ref q4, .ref q5, .ref q6, .ref q7, .ref (qb 0), .null, .int (Int32.ofInt 0), .int (Int32.ofInt 0), .int (Int32.ofInt 0), .int (Int32.ofInt 0), .int (Int32.ofInt 0), .int (Int32.ofInt 0)])), (q1, cx_a ca 0 12), (q2, cx_a ca 0 12), (q3, cx_a ca 0 12), (q4, cx_a ca 0 12), (q5, cx_a ca 0 12), (q6, cx_a ca 0 12), (q7, cx_a ca 0 12), (qb 0, cx_q ca 4 12 (cx_rf [1, 2, 3, 4, 5, 6, 7, 8, 9, 10, 11, 12] qb)), (qb 1, cx_a ca 0 3), (qb 2, cx_a ca 0 3), (qb 3, cx_a ca 0 3), (qb 4, cx_a ca 0 3), (qb 5, cx_a ca 0 3), (qb 6, cx_a ca 0 3), (qb 7, cx_a ca 0 3), (qb 8, cx_a ca 0 3), (qb 9, cx_a ca 0 3), (qb 10, cx_a ca 0 3), (qb 11, cx_a ca 0 3), (qb 12, cx_a ca 0 3)]) 0 di_B_68 ip_B_35 rfl (Nat.le_of_ble_eq_true rfl) rfl ?_
  refine cx_aload 0 di_B_71 rfl rfl ?_
  refine cx_bipush (v := 12) di_B_72 (by decide) ?_
  refine cx_newa (n := 12) (N := 12) 0 di_B_74 rfl rfl (Or.inl rfl) ia_int (by decide) (by decide) (by decide) (by decide) (by decide) (fun q8 => ?_)
  refine cx_putF (ci := 0) (j := 9) (fs := [.null, .ref q1, .ref q2, .ref q3, .ref q4, .ref q5, .ref q6, .ref q7, .ref (qb 0), .null, .int (Int32.ofInt 0), .int (Int32.ofInt 0), .int (Int32.ofInt 0), .int (Int32.ofInt 0), .int (Int32.ofInt 0), .int (Int32.ofInt 0)]) (ws' := [(h0, .inr (0, [.null, .ref q1, .ref q2, .ref q3, .ref q4, .ref q5, .ref q6, .ref q7, .ref (qb 0), .ref q8, .int (Int32.ofInt 0), .int (Int32.ofInt 0), .int (Int32.ofInt 0), .int (Int32.ofInt 0), .int (Int32.ofInt 0), .int (Int32.ofInt 0)])), (q1, cx_a ca 0 12), (q2, cx_a ca 0 12), (q3, cx_a ca 0 12), (q4, cx_a ca 0 12), (q5, cx_a ca 0 12), (q6, cx_a ca 0 12), (q7, cx_a ca 0 12), (qb 0, cx_q ca 4 12 (cx_rf [1, 2, 3, 4, 5, 6, 7, 8, 9, 10, 11, 12] qb)), (qb 1, cx_a ca 0 3), (qb 2, cx_a ca 0 3), (qb 3, cx_a ca 0 3), (qb 4, cx_a ca 0 3), (qb 5, cx_a ca 0 3), (qb 6, cx_a ca 0 3), (qb 7, cx_a ca 0 3), (qb 8, cx_a ca 0 3), (qb 9, cx_a ca 0 3), (qb 10, cx_a ca 0 3), (qb 11, cx_a ca 0 3), (qb 12, cx_a ca 0 3), (q8, cx_a ca 0 12)]) 0 di_B_76 ip_B_38 rfl (Nat.le_of_ble_eq_true rfl) rfl ?_
  refine cx_aload 0 di_B_79 rfl rfl ?_
  refine cx_aload 1 di_B_80 rfl rfl ?_
  refine cx_putF (ci := 0) (j := 0) (fs := [.null, .ref q1, .ref q2, .ref q3, .ref q4, .ref q5, .ref q6, .ref q7, .ref (qb 0), .ref q8, .int (Int32.ofInt 0), .int (Int32.ofInt 0), .int (Int32.ofInt 0), .int (Int32.ofInt 0), .int (Int32.ofInt 0), .int (Int32.ofInt 0)]) (ws' := [(h0, .inr (0, [.ref pp, .ref q1, .ref q2, .ref q3, .ref q4, .ref q5, .ref q6, .ref q7, .ref (qb 0), .ref q8, .int (Int32.ofInt 0), .int (Int32.ofInt 0), .int (Int32.ofInt 0), .int (Int32.ofInt 0), .int (Int32.ofInt 0), .int (Int32.ofInt 0)])), (q1, cx_a ca 0 12), (q2, cx_a ca 0 12), (q3, cx_a ca 0 12), (q4, cx_a ca 0 12), (q5, cx_a ca 0 12), (q6, cx_a ca 0 12), (q7, cx_a ca 0 12), (qb 0, cx_q ca 4 12 (cx_rf [1, 2, 3, 4, 5, 6, 7, 8, 9, 10, 11, 12] qb)), (qb 1, cx_a ca 0 3), (qb 2, cx_a ca 0 3), (qb 3, cx_a ca 0 3), (qb 4, cx_a ca 0 3), (qb 5, cx_a ca 0 3), (qb 6, cx_a ca 0 3), (qb 7, cx_a ca 0 3), (qb 8, cx_a ca 0 3), (qb 9, cx_a ca 0 3), (qb 10, cx_a ca 0 3), (qb 11, cx_a ca 0 3), (qb 12, cx_a ca 0 3), (q8, cx_a ca 0 12)]) 0 di_B_81 ip_B_41 rfl (Nat.le_of_ble_eq_true rfl) rfl ?_
  refine cx_eqw (ws' := [(h0, .inr (0, [.ref pp, .ref q1, .ref q2, .ref q3, .ref q4, .ref q5, .ref q6, .ref q7, .ref (qb 0), .ref q8, .int (Int32.ofInt 0), .int (Int32.ofInt 0), .int (Int32.ofInt 0), .int (Int32.ofInt 0), .int (Int32.ofInt 0), .int (Int32.ofInt 0)])), (q1, cx_a ca 0 12), (q2, cx_a ca 0 12), (q3, cx_a ca 0 12), (q4, cx_a ca 0 12), (q5, cx_a ca 0 12), (q6, cx_a ca 0 12), (q7, cx_a ca 0 12), (qb 0, cx_q ca 4 12 (cx_rf [10, 11, 12, 13, 14, 15, 16, 17, 18, 19, 20, 21] (fun k => ([h0, q1, q2, q3, q4, q5, q6, q7, qb 0, q8, qb 1, qb 2, qb 3, qb 4, qb 5, qb 6, qb 7, qb 8, qb 9, qb 10, qb 11, qb 12] : List Nat).getD k 0))), (qb 1, cx_a ca 0 3), (qb 2, cx_a ca 0 3), (qb 3, cx_a ca 0 3), (qb 4, cx_a ca 0 3), (qb 5, cx_a ca 0 3), (qb 6, cx_a ca 0 3), (qb 7, cx_a ca 0 3), (qb 8, cx_a ca 0 3), (qb 9, cx_a ca 0 3), (qb 10, cx_a ca 0 3), (qb 11, cx_a ca 0 3), (qb 12, cx_a ca 0 3), (q8, cx_a ca 0 12)]) (by rw [cx_rf_eq (L1 := [1, 2, 3, 4, 5, 6, 7, 8, 9, 10, 11, 12]) (L2 := [10, 11, 12, 13, 14, 15, 16, 17, 18, 19, 20, 21]) (u := qb) (q := (fun k => ([h0, q1, q2, q3, q4, q5, q6, q7, qb 0, q8, qb 1, qb 2, qb 3, qb 4, qb 5, qb 6, qb 7, qb 8, qb 9, qb 10, qb 11, qb 12] : List Nat).getD k 0)) rfl]) ?_
  exact cx_ret (fun k => ([h0, q1, q2, q3, q4, q5, q6, q7, qb 0, q8, qb 1, qb 2, qb 3, qb 4, qb 5, qb 6, qb 7, qb 8, qb 9, qb 10, qb 11, qb 12] : List Nat).getD k 0) [0, 1, 2, 3, 4, 5, 6, 7, 8, 21, 9, 10, 11, 12, 13, 14, 15, 16, 17, 18, 19, 20] di_B_84 rfl (by decide) rfl rfl rfl
set_option maxRecDepth 20000 in
set_option maxHeartbeats 1000000 in
theorem ic_L (D : va_G) (ca : Nat → ClassId) (h0 : Nat) (pp : Nat) : cx_C D ca iy_L ib_L 2 1 4 48 [.ref h0, .ref pp] h0 [(h0, .inr (4, [.null, .null, .null, .null, .null, .int (Int32.ofInt 0), .int (Int32.ofInt 0), .int (Int32.ofInt 0), .int (Int32.ofInt 0)]))] (iF_L ca pp) := by
  refine cx_ofJ (by decide) rfl (Nat.le_of_ble_eq_true rfl) ?_
  show cx_J D ca iy_L ib_L 2 1 4 48 h0 (iF_L ca pp) 0 [(0, .ref h0), (1, .ref pp)] [] [(h0, .inr (4, [.null, .null, .null, .null, .null, .int (Int32.ofInt 0), .int (Int32.ofInt 0), .int (Int32.ofInt 0), .int (Int32.ofInt 0)]))] 0 0
  refine cx_aload 0 di_L_0 rfl rfl ?_
  refine cx_obj di_L_1 io_L (by decide) ?_
  refine cx_aload 0 di_L_4 rfl rfl ?_
  refine cx_bipush (v := 12) di_L_5 (by decide) ?_
  refine cx_newa (n := 12) (N := 12) 0 di_L_7 rfl rfl (Or.inl rfl) ia_int (by decide) (by decide) (by decide) (by decide) (by decide) (fun q1 => ?_)
  refine cx_putF (ci := 4) (j := 1) (fs := [.null, .null, .null, .null, .null, .int (Int32.ofInt 0), .int (Int32.ofInt 0), .int (Int32.ofInt 0), .int (Int32.ofInt 0)]) (ws' := [(h0, .inr (4, [.null, .ref q1, .null, .null, .null, .int (Int32.ofInt 0), .int (Int32.ofInt 0), .int (Int32.ofInt 0), .int (Int32.ofInt 0)])), (q1, cx_a ca 0 12)]) 0 di_L_9 ip_L_9 rfl (Nat.le_of_ble_eq_true rfl) rfl ?_
  refine cx_aload 0 di_L_12 rfl rfl ?_
  refine cx_bipush (v := 12) di_L_13 (by decide) ?_
  refine cx_newa (n := 12) (N := 12) 0 di_L_15 rfl rfl (Or.inl rfl) ia_int (by decide) (by decide) (by decide) (by decide) (by decide) (fun q2 => ?_)
  refine cx_putF (ci := 4) (j := 2) (fs := [.null, .ref q1, .null, .null, .null, .int (Int32.ofInt 0), .int (Int32.ofInt 0), .int (Int32.ofInt 0), .int (Int32.ofInt 0)]) (ws' := [(h0, .inr (4, [.null, .ref q1, .ref q2, .null, .null, .int (Int32.ofInt 0), .int (Int32.ofInt 0), .int (Int32.ofInt 0), .int (Int32.ofInt 0)])), (q1, cx_a ca 0 12), (q2, cx_a ca 0 12)]) 0 di_L_17 ip_L_15 rfl (Nat.le_of_ble_eq_true rfl) rfl ?_
  refine cx_aload 0 di_L_20 rfl rfl ?_
  refine cx_bipush (v := 12) di_L_21 (by decide) ?_
  refine cx_newa (n := 12) (N := 12) 2 di_L_23 rfl rfl (Or.inr (Or.inr rfl)) ia_boolean (by decide) (by decide) (by decide) (by decide) (by decide) (fun q3 => ?_)
  refine cx_putF (ci := 4) (j := 3) (fs := [.null, .ref q1, .ref q2, .null, .null, .int (Int32.ofInt 0), .int (Int32.ofInt 0), .int (Int32.ofInt 0), .int (Int32.ofInt 0)]) (ws' := [(h0, .inr (4, [.null, .ref q1, .ref q2, .ref q3, .null, .int (Int32.ofInt 0), .int (Int32.ofInt 0), .int (Int32.ofInt 0), .int (Int32.ofInt 0)])), (q1, cx_a ca 0 12), (q2, cx_a ca 0 12), (q3, cx_a ca 2 12)]) 0 di_L_25 ip_L_18 rfl (Nat.le_of_ble_eq_true rfl) rfl ?_
  refine cx_aload 0 di_L_28 rfl rfl ?_
  refine cx_bipush (v := 12) di_L_29 (by decide) ?_
  refine cx_newa (n := 12) (N := 12) 0 di_L_31 rfl rfl (Or.inl rfl) ia_int (by decide) (by decide) (by decide) (by decide) (by decide) (fun q4 => ?_)
  refine cx_putF (ci := 4) (j := 4) (fs := [.null, .ref q1, .ref q2, .ref q3, .null, .int (Int32.ofInt 0), .int (Int32.ofInt 0), .int (Int32.ofInt 0), .int (Int32.ofInt 0)]) (ws' := [(h0, .inr (4, [.null, .ref q1, .ref q2, .ref q3, .ref q4, .int (Int32.ofInt 0), .int (Int32.ofInt 0), .int (Int32.ofInt 0), .int (Int32.ofInt 0)])), (q1, cx_a ca 0 12), (q2, cx_a ca 0 12), (q3, cx_a ca 2 12), (q4, cx_a ca 0 12)]) 0 di_L_33 ip_L_22 rfl (Nat.le_of_ble_eq_true rfl) rfl ?_
  refine cx_aload 0 di_L_36 rfl rfl ?_
  refine cx_aload 1 di_L_37 rfl rfl ?_
  refine cx_putF (ci := 4) (j := 0) (fs := [.null, .ref q1, .ref q2, .ref q3, .ref q4, .int (Int32.ofInt 0), .int (Int32.ofInt 0), .int (Int32.ofInt 0), .int (Int32.ofInt 0)]) (ws' := [(h0, .inr (4, [.ref pp, .ref q1, .ref q2, .ref q3, .ref q4, .int (Int32.ofInt 0), .int (Int32.ofInt 0), .int (Int32.ofInt 0), .int (Int32.ofInt 0)])), (q1, cx_a ca 0 12), (q2, cx_a ca 0 12), (q3, cx_a ca 2 12), (q4, cx_a ca 0 12)]) 0 di_L_38 ip_L_25 rfl (Nat.le_of_ble_eq_true rfl) rfl ?_
  exact cx_ret (fun k => ([h0, q1, q2, q3, q4] : List Nat).getD k 0) [0, 1, 2, 3, 4] di_L_41 rfl (by decide) rfl rfl rfl
end
section
/-! the law: its end and entry (the skeleton's rows), its instructions and links (by program gen4.py) -/
/-! THE CLAIM OUT OF ONE WALK OF THE LAW'S BODY. Your part is whole_start (and what it stands on); all else here is the same for every law, but numbers. -/
def R_law : String := "RowsIntoPlaneLaw"
def lw_P (b : Addr) (xs : List Int32) (args : Array Value) (s : State) : Prop := args = #[.ref b] ∧ s.IntsAt b xs ∧ xs.length ≤ 4096 ∧ (Jvm.Cond.and given_1 narrow_1).before args s = true
def lw_Q (_ : Array Value) (s : State) (o : Outcome) (t : State) : Prop := o = .returned (some (.int 1)) ∧ Framed s o t [] 600000 7302250
def lw_Z (below : List Frame) (a : Array Value) (s : State) : State → Prop := fun t => ∃ o, t.status = .running ∧ Ended t below o ∧ lw_Q a s o t
/-- the law's own end, with 1 on the stack, nothing written that was there before, its room as the claim has it -/
theorem lw_ret {p : Program} {l : Launch} {e : Env} {s : State} {m : MethodId} {below : List Frame} {meth : Method} {c : Code} {b : Nat} (hx : p.tables.exec = Jvm.exec) (hb : c.code = code) (hr : meth.sig.returnType = ret) (hlocks : meth.locks = false) {pc : Nat} {H : Heap} {ls : Array Slot} (hdg : decode code pc = .ok (.ireturn, 1)) : W p l e room_1 s m #[Value.ref b] below meth c H [] 600000 7302250 (lw_Z below #[Value.ref b] s) (F0 m pc ls [.int 1]) := by
  intro T hT X
  obtain ⟨fs, hret, hrun, hended, hW, hframe⟩ := X.leave (v := some (.int 1)) (hlocks := hlocks) (fun h => by rw [hr] at h; cases h)
  have hmeth' : T.vm.method? m = some meth := X.method'
  refine ⟨T.setFrames fs, ?_, .returned (some (.int 1)), hrun, hended, rfl, ⟨_, rfl⟩, hW, hframe⟩
  jvm_step X.here [X.here.top, hx, hb, hdg, hmeth', hr, ret, narrow_b1]
  (try refine ⟨rfl, ?_⟩); (try refine ⟨rfl, ?_⟩)
  first | (intro acts; rw [hret _ acts rfl rfl rfl]) | rw [hret _ _ rfl rfl rfl]
  exact Steps.refl _
/-- what holds at the law's entry: the machine, the code, the tables' words (any of lw_tbl by 'hts w (by decide +kernel)'), the script of L ints xs at the cell b, what the Statement gives of the start (any of its parts by flat_of_before) -/
def lw_At (p : Program) (s : State) (m : MethodId) (meth : Method) (c : Code) (b L : Nat) (xs : Nat → Int32) : Prop :=
  p.tables.exec = Jvm.exec ∧ c.code = code ∧ meth.sig.returnType = ret ∧ c.maxLocals = 4 ∧ s.vm.findClass R_law = some m.cls ∧ (∀ w ∈ lw_tbl, w.before #[Value.ref b] s = true) ∧ va_X b L xs s s.heap ∧ b < s.heap.size ∧ meth.locks = false ∧ (Jvm.Cond.and given_1 narrow_1).before #[Value.ref b] s = true
theorem dl_0 : decode code 0 = .ok (.new 7, 3) := by decide +kernel
theorem dl_3 : decode code 3 = .ok (.dup, 1) := by decide +kernel
theorem dl_4 : decode code 4 = .ok (.invokespecial 9, 3) := by decide +kernel
theorem dl_7 : decode code 7 = .ok (.astore_n 1, 1) := by decide +kernel
theorem dl_8 : decode code 8 = .ok (.new 10, 3) := by decide +kernel
theorem dl_11 : decode code 11 = .ok (.dup, 1) := by decide +kernel
theorem dl_12 : decode code 12 = .ok (.invokespecial 12, 3) := by decide +kernel
theorem dl_15 : decode code 15 = .ok (.astore_n 2, 1) := by decide +kernel
theorem dl_16 : decode code 16 = .ok (.iconst 0, 1) := by decide +kernel
theorem dl_17 : decode code 17 = .ok (.istore_n 3, 1) := by decide +kernel
theorem dl_18 : decode code 18 = .ok (.iload_n 3, 1) := by decide +kernel
theorem dl_19 : decode code 19 = .ok (.aload_n 0, 1) := by decide +kernel
theorem dl_20 : decode code 20 = .ok (.arraylength, 1) := by decide +kernel
theorem dl_21 : decode code 21 = .ok (.bipush 8, 2) := by decide +kernel
theorem dl_23 : decode code 23 = .ok (.isub, 1) := by decide +kernel
theorem dl_24 : decode code 24 = .ok (.if_icmp .gt 1001, 3) := by decide +kernel
theorem dl_27 : decode code 27 = .ok (.aload_n 0, 1) := by decide +kernel
theorem dl_28 : decode code 28 = .ok (.iload_n 3, 1) := by decide +kernel
theorem dl_29 : decode code 29 = .ok (.iaload, 1) := by decide +kernel
theorem dl_30 : decode code 30 = .ok (.bipush 31, 2) := by decide +kernel
theorem dl_32 : decode code 32 = .ok (.iand, 1) := by decide +kernel
theorem dl_33 : decode code 33 = .ok (.tableswitch 986 0 27 #[127, 170, 257, 290, 323, 366, 419, 432, 445, 458, 491, 524, 567, 610, 623, 646, 669, 702, 735, 758, 801, 824, 857, 880, 923, 936, 949, 972], 127) := by decide +kernel
theorem dl_160 : decode code 160 = .ok (.aload_n 1, 1) := by decide +kernel
theorem dl_161 : decode code 161 = .ok (.aload_n 0, 1) := by decide +kernel
theorem dl_162 : decode code 162 = .ok (.iload_n 3, 1) := by decide +kernel
theorem dl_163 : decode code 163 = .ok (.iconst 1, 1) := by decide +kernel
theorem dl_164 : decode code 164 = .ok (.iadd, 1) := by decide +kernel
theorem dl_165 : decode code 165 = .ok (.iaload, 1) := by decide +kernel
theorem dl_166 : decode code 166 = .ok (.aload_n 0, 1) := by decide +kernel
theorem dl_167 : decode code 167 = .ok (.iload_n 3, 1) := by decide +kernel
theorem dl_168 : decode code 168 = .ok (.iconst 2, 1) := by decide +kernel
theorem dl_169 : decode code 169 = .ok (.iadd, 1) := by decide +kernel
theorem dl_170 : decode code 170 = .ok (.iaload, 1) := by decide +kernel
theorem dl_171 : decode code 171 = .ok (.aload_n 0, 1) := by decide +kernel
theorem dl_172 : decode code 172 = .ok (.iload_n 3, 1) := by decide +kernel
theorem dl_173 : decode code 173 = .ok (.iconst 3, 1) := by decide +kernel
theorem dl_174 : decode code 174 = .ok (.iadd, 1) := by decide +kernel
theorem dl_175 : decode code 175 = .ok (.iaload, 1) := by decide +kernel
theorem dl_176 : decode code 176 = .ok (.invokevirtual 13, 3) := by decide +kernel
theorem dl_179 : decode code 179 = .ok (.aload_n 2, 1) := by decide +kernel
theorem dl_180 : decode code 180 = .ok (.aload_n 0, 1) := by decide +kernel
theorem dl_181 : decode code 181 = .ok (.iload_n 3, 1) := by decide +kernel
theorem dl_182 : decode code 182 = .ok (.iconst 1, 1) := by decide +kernel
theorem dl_183 : decode code 183 = .ok (.iadd, 1) := by decide +kernel
theorem dl_184 : decode code 184 = .ok (.iaload, 1) := by decide +kernel
theorem dl_185 : decode code 185 = .ok (.aload_n 0, 1) := by decide +kernel
theorem dl_186 : decode code 186 = .ok (.iload_n 3, 1) := by decide +kernel
theorem dl_187 : decode code 187 = .ok (.iconst 2, 1) := by decide +kernel
theorem dl_188 : decode code 188 = .ok (.iadd, 1) := by decide +kernel
theorem dl_189 : decode code 189 = .ok (.iaload, 1) := by decide +kernel
theorem dl_190 : decode code 190 = .ok (.aload_n 0, 1) := by decide +kernel
theorem dl_191 : decode code 191 = .ok (.iload_n 3, 1) := by decide +kernel
theorem dl_192 : decode code 192 = .ok (.iconst 3, 1) := by decide +kernel
theorem dl_193 : decode code 193 = .ok (.iadd, 1) := by decide +kernel
theorem dl_194 : decode code 194 = .ok (.iaload, 1) := by decide +kernel
theorem dl_195 : decode code 195 = .ok (.invokevirtual 17, 3) := by decide +kernel
theorem dl_198 : decode code 198 = .ok (.if_icmp .eq 821, 3) := by decide +kernel
theorem dl_203 : decode code 203 = .ok (.aload_n 1, 1) := by decide +kernel
theorem dl_204 : decode code 204 = .ok (.aload_n 0, 1) := by decide +kernel
theorem dl_205 : decode code 205 = .ok (.iload_n 3, 1) := by decide +kernel
theorem dl_206 : decode code 206 = .ok (.iconst 1, 1) := by decide +kernel
theorem dl_207 : decode code 207 = .ok (.iadd, 1) := by decide +kernel
theorem dl_208 : decode code 208 = .ok (.iaload, 1) := by decide +kernel
theorem dl_209 : decode code 209 = .ok (.aload_n 0, 1) := by decide +kernel
theorem dl_210 : decode code 210 = .ok (.iload_n 3, 1) := by decide +kernel
theorem dl_211 : decode code 211 = .ok (.iconst 2, 1) := by decide +kernel
theorem dl_212 : decode code 212 = .ok (.iadd, 1) := by decide +kernel
theorem dl_213 : decode code 213 = .ok (.iaload, 1) := by decide +kernel
theorem dl_214 : decode code 214 = .ok (.aload_n 0, 1) := by decide +kernel
theorem dl_215 : decode code 215 = .ok (.iload_n 3, 1) := by decide +kernel
theorem dl_216 : decode code 216 = .ok (.iconst 3, 1) := by decide +kernel
theorem dl_217 : decode code 217 = .ok (.iadd, 1) := by decide +kernel
theorem dl_218 : decode code 218 = .ok (.iaload, 1) := by decide +kernel
theorem dl_219 : decode code 219 = .ok (.aload_n 0, 1) := by decide +kernel
theorem dl_220 : decode code 220 = .ok (.iload_n 3, 1) := by decide +kernel
theorem dl_221 : decode code 221 = .ok (.iconst 4, 1) := by decide +kernel
theorem dl_222 : decode code 222 = .ok (.iadd, 1) := by decide +kernel
theorem dl_223 : decode code 223 = .ok (.iaload, 1) := by decide +kernel
theorem dl_224 : decode code 224 = .ok (.aload_n 0, 1) := by decide +kernel
theorem dl_225 : decode code 225 = .ok (.iload_n 3, 1) := by decide +kernel
theorem dl_226 : decode code 226 = .ok (.iconst 5, 1) := by decide +kernel
theorem dl_227 : decode code 227 = .ok (.iadd, 1) := by decide +kernel
theorem dl_228 : decode code 228 = .ok (.iaload, 1) := by decide +kernel
theorem dl_229 : decode code 229 = .ok (.aload_n 0, 1) := by decide +kernel
theorem dl_230 : decode code 230 = .ok (.iload_n 3, 1) := by decide +kernel
theorem dl_231 : decode code 231 = .ok (.bipush 6, 2) := by decide +kernel
theorem dl_233 : decode code 233 = .ok (.iadd, 1) := by decide +kernel
theorem dl_234 : decode code 234 = .ok (.iaload, 1) := by decide +kernel
theorem dl_235 : decode code 235 = .ok (.aload_n 0, 1) := by decide +kernel
theorem dl_236 : decode code 236 = .ok (.iload_n 3, 1) := by decide +kernel
theorem dl_237 : decode code 237 = .ok (.bipush 7, 2) := by decide +kernel
theorem dl_239 : decode code 239 = .ok (.iadd, 1) := by decide +kernel
theorem dl_240 : decode code 240 = .ok (.iaload, 1) := by decide +kernel
theorem dl_241 : decode code 241 = .ok (.invokevirtual 18, 3) := by decide +kernel
theorem dl_244 : decode code 244 = .ok (.aload_n 2, 1) := by decide +kernel
theorem dl_245 : decode code 245 = .ok (.aload_n 0, 1) := by decide +kernel
theorem dl_246 : decode code 246 = .ok (.iload_n 3, 1) := by decide +kernel
theorem dl_247 : decode code 247 = .ok (.iconst 1, 1) := by decide +kernel
theorem dl_248 : decode code 248 = .ok (.iadd, 1) := by decide +kernel
theorem dl_249 : decode code 249 = .ok (.iaload, 1) := by decide +kernel
theorem dl_250 : decode code 250 = .ok (.aload_n 0, 1) := by decide +kernel
theorem dl_251 : decode code 251 = .ok (.iload_n 3, 1) := by decide +kernel
theorem dl_252 : decode code 252 = .ok (.iconst 2, 1) := by decide +kernel
theorem dl_253 : decode code 253 = .ok (.iadd, 1) := by decide +kernel
theorem dl_254 : decode code 254 = .ok (.iaload, 1) := by decide +kernel
theorem dl_255 : decode code 255 = .ok (.aload_n 0, 1) := by decide +kernel
theorem dl_256 : decode code 256 = .ok (.iload_n 3, 1) := by decide +kernel
theorem dl_257 : decode code 257 = .ok (.iconst 3, 1) := by decide +kernel
theorem dl_258 : decode code 258 = .ok (.iadd, 1) := by decide +kernel
theorem dl_259 : decode code 259 = .ok (.iaload, 1) := by decide +kernel
theorem dl_260 : decode code 260 = .ok (.aload_n 0, 1) := by decide +kernel
theorem dl_261 : decode code 261 = .ok (.iload_n 3, 1) := by decide +kernel
theorem dl_262 : decode code 262 = .ok (.iconst 4, 1) := by decide +kernel
theorem dl_263 : decode code 263 = .ok (.iadd, 1) := by decide +kernel
theorem dl_264 : decode code 264 = .ok (.iaload, 1) := by decide +kernel
theorem dl_265 : decode code 265 = .ok (.aload_n 0, 1) := by decide +kernel
theorem dl_266 : decode code 266 = .ok (.iload_n 3, 1) := by decide +kernel
theorem dl_267 : decode code 267 = .ok (.iconst 5, 1) := by decide +kernel
theorem dl_268 : decode code 268 = .ok (.iadd, 1) := by decide +kernel
theorem dl_269 : decode code 269 = .ok (.iaload, 1) := by decide +kernel
theorem dl_270 : decode code 270 = .ok (.aload_n 0, 1) := by decide +kernel
theorem dl_271 : decode code 271 = .ok (.iload_n 3, 1) := by decide +kernel
theorem dl_272 : decode code 272 = .ok (.bipush 6, 2) := by decide +kernel
theorem dl_274 : decode code 274 = .ok (.iadd, 1) := by decide +kernel
theorem dl_275 : decode code 275 = .ok (.iaload, 1) := by decide +kernel
theorem dl_276 : decode code 276 = .ok (.aload_n 0, 1) := by decide +kernel
theorem dl_277 : decode code 277 = .ok (.iload_n 3, 1) := by decide +kernel
theorem dl_278 : decode code 278 = .ok (.bipush 7, 2) := by decide +kernel
theorem dl_280 : decode code 280 = .ok (.iadd, 1) := by decide +kernel
theorem dl_281 : decode code 281 = .ok (.iaload, 1) := by decide +kernel
theorem dl_282 : decode code 282 = .ok (.invokevirtual 22, 3) := by decide +kernel
theorem dl_285 : decode code 285 = .ok (.if_icmp .eq 734, 3) := by decide +kernel
theorem dl_290 : decode code 290 = .ok (.aload_n 1, 1) := by decide +kernel
theorem dl_291 : decode code 291 = .ok (.aload_n 0, 1) := by decide +kernel
theorem dl_292 : decode code 292 = .ok (.iload_n 3, 1) := by decide +kernel
theorem dl_293 : decode code 293 = .ok (.iconst 1, 1) := by decide +kernel
theorem dl_294 : decode code 294 = .ok (.iadd, 1) := by decide +kernel
theorem dl_295 : decode code 295 = .ok (.iaload, 1) := by decide +kernel
theorem dl_296 : decode code 296 = .ok (.aload_n 0, 1) := by decide +kernel
theorem dl_297 : decode code 297 = .ok (.iload_n 3, 1) := by decide +kernel
theorem dl_298 : decode code 298 = .ok (.iconst 2, 1) := by decide +kernel
theorem dl_299 : decode code 299 = .ok (.iadd, 1) := by decide +kernel
theorem dl_300 : decode code 300 = .ok (.iaload, 1) := by decide +kernel
theorem dl_301 : decode code 301 = .ok (.invokevirtual 23, 3) := by decide +kernel
theorem dl_304 : decode code 304 = .ok (.aload_n 2, 1) := by decide +kernel
theorem dl_305 : decode code 305 = .ok (.aload_n 0, 1) := by decide +kernel
theorem dl_306 : decode code 306 = .ok (.iload_n 3, 1) := by decide +kernel
theorem dl_307 : decode code 307 = .ok (.iconst 1, 1) := by decide +kernel
theorem dl_308 : decode code 308 = .ok (.iadd, 1) := by decide +kernel
theorem dl_309 : decode code 309 = .ok (.iaload, 1) := by decide +kernel
theorem dl_310 : decode code 310 = .ok (.aload_n 0, 1) := by decide +kernel
theorem dl_311 : decode code 311 = .ok (.iload_n 3, 1) := by decide +kernel
theorem dl_312 : decode code 312 = .ok (.iconst 2, 1) := by decide +kernel
theorem dl_313 : decode code 313 = .ok (.iadd, 1) := by decide +kernel
theorem dl_314 : decode code 314 = .ok (.iaload, 1) := by decide +kernel
theorem dl_315 : decode code 315 = .ok (.invokevirtual 27, 3) := by decide +kernel
theorem dl_318 : decode code 318 = .ok (.if_icmp .eq 701, 3) := by decide +kernel
theorem dl_323 : decode code 323 = .ok (.aload_n 1, 1) := by decide +kernel
theorem dl_324 : decode code 324 = .ok (.aload_n 0, 1) := by decide +kernel
theorem dl_325 : decode code 325 = .ok (.iload_n 3, 1) := by decide +kernel
theorem dl_326 : decode code 326 = .ok (.iconst 1, 1) := by decide +kernel
theorem dl_327 : decode code 327 = .ok (.iadd, 1) := by decide +kernel
theorem dl_328 : decode code 328 = .ok (.iaload, 1) := by decide +kernel
theorem dl_329 : decode code 329 = .ok (.aload_n 0, 1) := by decide +kernel
theorem dl_330 : decode code 330 = .ok (.iload_n 3, 1) := by decide +kernel
theorem dl_331 : decode code 331 = .ok (.iconst 2, 1) := by decide +kernel
theorem dl_332 : decode code 332 = .ok (.iadd, 1) := by decide +kernel
theorem dl_333 : decode code 333 = .ok (.iaload, 1) := by decide +kernel
theorem dl_334 : decode code 334 = .ok (.invokevirtual 28, 3) := by decide +kernel
theorem dl_337 : decode code 337 = .ok (.aload_n 2, 1) := by decide +kernel
theorem dl_338 : decode code 338 = .ok (.aload_n 0, 1) := by decide +kernel
theorem dl_339 : decode code 339 = .ok (.iload_n 3, 1) := by decide +kernel
theorem dl_340 : decode code 340 = .ok (.iconst 1, 1) := by decide +kernel
theorem dl_341 : decode code 341 = .ok (.iadd, 1) := by decide +kernel
theorem dl_342 : decode code 342 = .ok (.iaload, 1) := by decide +kernel
theorem dl_343 : decode code 343 = .ok (.aload_n 0, 1) := by decide +kernel
theorem dl_344 : decode code 344 = .ok (.iload_n 3, 1) := by decide +kernel
theorem dl_345 : decode code 345 = .ok (.iconst 2, 1) := by decide +kernel
theorem dl_346 : decode code 346 = .ok (.iadd, 1) := by decide +kernel
theorem dl_347 : decode code 347 = .ok (.iaload, 1) := by decide +kernel
theorem dl_348 : decode code 348 = .ok (.invokevirtual 31, 3) := by decide +kernel
theorem dl_351 : decode code 351 = .ok (.if_icmp .eq 668, 3) := by decide +kernel
theorem dl_356 : decode code 356 = .ok (.aload_n 1, 1) := by decide +kernel
theorem dl_357 : decode code 357 = .ok (.aload_n 0, 1) := by decide +kernel
theorem dl_358 : decode code 358 = .ok (.iload_n 3, 1) := by decide +kernel
theorem dl_359 : decode code 359 = .ok (.iconst 1, 1) := by decide +kernel
theorem dl_360 : decode code 360 = .ok (.iadd, 1) := by decide +kernel
theorem dl_361 : decode code 361 = .ok (.iaload, 1) := by decide +kernel
theorem dl_362 : decode code 362 = .ok (.aload_n 0, 1) := by decide +kernel
theorem dl_363 : decode code 363 = .ok (.iload_n 3, 1) := by decide +kernel
theorem dl_364 : decode code 364 = .ok (.iconst 2, 1) := by decide +kernel
theorem dl_365 : decode code 365 = .ok (.iadd, 1) := by decide +kernel
theorem dl_366 : decode code 366 = .ok (.iaload, 1) := by decide +kernel
theorem dl_367 : decode code 367 = .ok (.aload_n 0, 1) := by decide +kernel
theorem dl_368 : decode code 368 = .ok (.iload_n 3, 1) := by decide +kernel
theorem dl_369 : decode code 369 = .ok (.iconst 3, 1) := by decide +kernel
theorem dl_370 : decode code 370 = .ok (.iadd, 1) := by decide +kernel
theorem dl_371 : decode code 371 = .ok (.iaload, 1) := by decide +kernel
theorem dl_372 : decode code 372 = .ok (.invokevirtual 32, 3) := by decide +kernel
theorem dl_375 : decode code 375 = .ok (.aload_n 2, 1) := by decide +kernel
theorem dl_376 : decode code 376 = .ok (.aload_n 0, 1) := by decide +kernel
theorem dl_377 : decode code 377 = .ok (.iload_n 3, 1) := by decide +kernel
theorem dl_378 : decode code 378 = .ok (.iconst 1, 1) := by decide +kernel
theorem dl_379 : decode code 379 = .ok (.iadd, 1) := by decide +kernel
theorem dl_380 : decode code 380 = .ok (.iaload, 1) := by decide +kernel
theorem dl_381 : decode code 381 = .ok (.aload_n 0, 1) := by decide +kernel
theorem dl_382 : decode code 382 = .ok (.iload_n 3, 1) := by decide +kernel
theorem dl_383 : decode code 383 = .ok (.iconst 2, 1) := by decide +kernel
theorem dl_384 : decode code 384 = .ok (.iadd, 1) := by decide +kernel
theorem dl_385 : decode code 385 = .ok (.iaload, 1) := by decide +kernel
theorem dl_386 : decode code 386 = .ok (.aload_n 0, 1) := by decide +kernel
theorem dl_387 : decode code 387 = .ok (.iload_n 3, 1) := by decide +kernel
theorem dl_388 : decode code 388 = .ok (.iconst 3, 1) := by decide +kernel
theorem dl_389 : decode code 389 = .ok (.iadd, 1) := by decide +kernel
theorem dl_390 : decode code 390 = .ok (.iaload, 1) := by decide +kernel
theorem dl_391 : decode code 391 = .ok (.invokevirtual 35, 3) := by decide +kernel
theorem dl_394 : decode code 394 = .ok (.if_icmp .eq 625, 3) := by decide +kernel
theorem dl_399 : decode code 399 = .ok (.aload_n 1, 1) := by decide +kernel
theorem dl_400 : decode code 400 = .ok (.aload_n 0, 1) := by decide +kernel
theorem dl_401 : decode code 401 = .ok (.iload_n 3, 1) := by decide +kernel
theorem dl_402 : decode code 402 = .ok (.iconst 1, 1) := by decide +kernel
theorem dl_403 : decode code 403 = .ok (.iadd, 1) := by decide +kernel
theorem dl_404 : decode code 404 = .ok (.iaload, 1) := by decide +kernel
theorem dl_405 : decode code 405 = .ok (.i2l, 1) := by decide +kernel
theorem dl_406 : decode code 406 = .ok (.bipush 32, 2) := by decide +kernel
theorem dl_408 : decode code 408 = .ok (.lshl, 1) := by decide +kernel
theorem dl_409 : decode code 409 = .ok (.aload_n 0, 1) := by decide +kernel
theorem dl_410 : decode code 410 = .ok (.iload_n 3, 1) := by decide +kernel
theorem dl_411 : decode code 411 = .ok (.iconst 2, 1) := by decide +kernel
theorem dl_412 : decode code 412 = .ok (.iadd, 1) := by decide +kernel
theorem dl_413 : decode code 413 = .ok (.iaload, 1) := by decide +kernel
theorem dl_414 : decode code 414 = .ok (.i2l, 1) := by decide +kernel
theorem dl_415 : decode code 415 = .ok (.ldc2_w 36, 3) := by decide +kernel
theorem dl_418 : decode code 418 = .ok (.land, 1) := by decide +kernel
theorem dl_419 : decode code 419 = .ok (.lor, 1) := by decide +kernel
theorem dl_420 : decode code 420 = .ok (.invokevirtual 38, 3) := by decide +kernel
theorem dl_423 : decode code 423 = .ok (.aload_n 2, 1) := by decide +kernel
theorem dl_424 : decode code 424 = .ok (.aload_n 0, 1) := by decide +kernel
theorem dl_425 : decode code 425 = .ok (.iload_n 3, 1) := by decide +kernel
theorem dl_426 : decode code 426 = .ok (.iconst 1, 1) := by decide +kernel
theorem dl_427 : decode code 427 = .ok (.iadd, 1) := by decide +kernel
theorem dl_428 : decode code 428 = .ok (.iaload, 1) := by decide +kernel
theorem dl_429 : decode code 429 = .ok (.i2l, 1) := by decide +kernel
theorem dl_430 : decode code 430 = .ok (.bipush 32, 2) := by decide +kernel
theorem dl_432 : decode code 432 = .ok (.lshl, 1) := by decide +kernel
theorem dl_433 : decode code 433 = .ok (.aload_n 0, 1) := by decide +kernel
theorem dl_434 : decode code 434 = .ok (.iload_n 3, 1) := by decide +kernel
theorem dl_435 : decode code 435 = .ok (.iconst 2, 1) := by decide +kernel
theorem dl_436 : decode code 436 = .ok (.iadd, 1) := by decide +kernel
theorem dl_437 : decode code 437 = .ok (.iaload, 1) := by decide +kernel
theorem dl_438 : decode code 438 = .ok (.i2l, 1) := by decide +kernel
theorem dl_439 : decode code 439 = .ok (.ldc2_w 36, 3) := by decide +kernel
theorem dl_442 : decode code 442 = .ok (.land, 1) := by decide +kernel
theorem dl_443 : decode code 443 = .ok (.lor, 1) := by decide +kernel
theorem dl_444 : decode code 444 = .ok (.invokevirtual 42, 3) := by decide +kernel
theorem dl_447 : decode code 447 = .ok (.if_icmp .eq 572, 3) := by decide +kernel
theorem dl_452 : decode code 452 = .ok (.aload_n 1, 1) := by decide +kernel
theorem dl_453 : decode code 453 = .ok (.invokevirtual 43, 3) := by decide +kernel
theorem dl_456 : decode code 456 = .ok (.aload_n 2, 1) := by decide +kernel
theorem dl_457 : decode code 457 = .ok (.invokevirtual 47, 3) := by decide +kernel
theorem dl_460 : decode code 460 = .ok (.if_icmp .eq 559, 3) := by decide +kernel
theorem dl_465 : decode code 465 = .ok (.aload_n 1, 1) := by decide +kernel
theorem dl_466 : decode code 466 = .ok (.invokevirtual 48, 3) := by decide +kernel
theorem dl_469 : decode code 469 = .ok (.aload_n 2, 1) := by decide +kernel
theorem dl_470 : decode code 470 = .ok (.invokevirtual 51, 3) := by decide +kernel
theorem dl_473 : decode code 473 = .ok (.if_icmp .eq 546, 3) := by decide +kernel
theorem dl_478 : decode code 478 = .ok (.aload_n 1, 1) := by decide +kernel
theorem dl_479 : decode code 479 = .ok (.invokevirtual 52, 3) := by decide +kernel
theorem dl_482 : decode code 482 = .ok (.aload_n 2, 1) := by decide +kernel
theorem dl_483 : decode code 483 = .ok (.invokevirtual 55, 3) := by decide +kernel
theorem dl_486 : decode code 486 = .ok (.if_icmp .eq 533, 3) := by decide +kernel
theorem dl_491 : decode code 491 = .ok (.aload_n 1, 1) := by decide +kernel
theorem dl_492 : decode code 492 = .ok (.aload_n 0, 1) := by decide +kernel
theorem dl_493 : decode code 493 = .ok (.iload_n 3, 1) := by decide +kernel
theorem dl_494 : decode code 494 = .ok (.iconst 1, 1) := by decide +kernel
theorem dl_495 : decode code 495 = .ok (.iadd, 1) := by decide +kernel
theorem dl_496 : decode code 496 = .ok (.iaload, 1) := by decide +kernel
theorem dl_497 : decode code 497 = .ok (.aload_n 0, 1) := by decide +kernel
theorem dl_498 : decode code 498 = .ok (.iload_n 3, 1) := by decide +kernel
theorem dl_499 : decode code 499 = .ok (.iconst 2, 1) := by decide +kernel
theorem dl_500 : decode code 500 = .ok (.iadd, 1) := by decide +kernel
theorem dl_501 : decode code 501 = .ok (.iaload, 1) := by decide +kernel
theorem dl_502 : decode code 502 = .ok (.invokevirtual 56, 3) := by decide +kernel
theorem dl_505 : decode code 505 = .ok (.aload_n 2, 1) := by decide +kernel
theorem dl_506 : decode code 506 = .ok (.aload_n 0, 1) := by decide +kernel
theorem dl_507 : decode code 507 = .ok (.iload_n 3, 1) := by decide +kernel
theorem dl_508 : decode code 508 = .ok (.iconst 1, 1) := by decide +kernel
theorem dl_509 : decode code 509 = .ok (.iadd, 1) := by decide +kernel
theorem dl_510 : decode code 510 = .ok (.iaload, 1) := by decide +kernel
theorem dl_511 : decode code 511 = .ok (.aload_n 0, 1) := by decide +kernel
theorem dl_512 : decode code 512 = .ok (.iload_n 3, 1) := by decide +kernel
theorem dl_513 : decode code 513 = .ok (.iconst 2, 1) := by decide +kernel
theorem dl_514 : decode code 514 = .ok (.iadd, 1) := by decide +kernel
theorem dl_515 : decode code 515 = .ok (.iaload, 1) := by decide +kernel
theorem dl_516 : decode code 516 = .ok (.invokevirtual 59, 3) := by decide +kernel
theorem dl_519 : decode code 519 = .ok (.if_icmp .eq 500, 3) := by decide +kernel
theorem dl_524 : decode code 524 = .ok (.aload_n 1, 1) := by decide +kernel
theorem dl_525 : decode code 525 = .ok (.aload_n 0, 1) := by decide +kernel
theorem dl_526 : decode code 526 = .ok (.iload_n 3, 1) := by decide +kernel
theorem dl_527 : decode code 527 = .ok (.iconst 1, 1) := by decide +kernel
theorem dl_528 : decode code 528 = .ok (.iadd, 1) := by decide +kernel
theorem dl_529 : decode code 529 = .ok (.iaload, 1) := by decide +kernel
theorem dl_530 : decode code 530 = .ok (.aload_n 0, 1) := by decide +kernel
theorem dl_531 : decode code 531 = .ok (.iload_n 3, 1) := by decide +kernel
theorem dl_532 : decode code 532 = .ok (.iconst 2, 1) := by decide +kernel
theorem dl_533 : decode code 533 = .ok (.iadd, 1) := by decide +kernel
theorem dl_534 : decode code 534 = .ok (.iaload, 1) := by decide +kernel
theorem dl_535 : decode code 535 = .ok (.invokevirtual 60, 3) := by decide +kernel
theorem dl_538 : decode code 538 = .ok (.aload_n 2, 1) := by decide +kernel
theorem dl_539 : decode code 539 = .ok (.aload_n 0, 1) := by decide +kernel
theorem dl_540 : decode code 540 = .ok (.iload_n 3, 1) := by decide +kernel
theorem dl_541 : decode code 541 = .ok (.iconst 1, 1) := by decide +kernel
theorem dl_542 : decode code 542 = .ok (.iadd, 1) := by decide +kernel
theorem dl_543 : decode code 543 = .ok (.iaload, 1) := by decide +kernel
theorem dl_544 : decode code 544 = .ok (.aload_n 0, 1) := by decide +kernel
theorem dl_545 : decode code 545 = .ok (.iload_n 3, 1) := by decide +kernel
theorem dl_546 : decode code 546 = .ok (.iconst 2, 1) := by decide +kernel
theorem dl_547 : decode code 547 = .ok (.iadd, 1) := by decide +kernel
theorem dl_548 : decode code 548 = .ok (.iaload, 1) := by decide +kernel
theorem dl_549 : decode code 549 = .ok (.invokevirtual 63, 3) := by decide +kernel
theorem dl_552 : decode code 552 = .ok (.if_icmp .eq 467, 3) := by decide +kernel
theorem dl_557 : decode code 557 = .ok (.aload_n 1, 1) := by decide +kernel
theorem dl_558 : decode code 558 = .ok (.aload_n 0, 1) := by decide +kernel
theorem dl_559 : decode code 559 = .ok (.iload_n 3, 1) := by decide +kernel
theorem dl_560 : decode code 560 = .ok (.iconst 1, 1) := by decide +kernel
theorem dl_561 : decode code 561 = .ok (.iadd, 1) := by decide +kernel
theorem dl_562 : decode code 562 = .ok (.iaload, 1) := by decide +kernel
theorem dl_563 : decode code 563 = .ok (.aload_n 0, 1) := by decide +kernel
theorem dl_564 : decode code 564 = .ok (.iload_n 3, 1) := by decide +kernel
theorem dl_565 : decode code 565 = .ok (.iconst 2, 1) := by decide +kernel
theorem dl_566 : decode code 566 = .ok (.iadd, 1) := by decide +kernel
theorem dl_567 : decode code 567 = .ok (.iaload, 1) := by decide +kernel
theorem dl_568 : decode code 568 = .ok (.aload_n 0, 1) := by decide +kernel
theorem dl_569 : decode code 569 = .ok (.iload_n 3, 1) := by decide +kernel
theorem dl_570 : decode code 570 = .ok (.iconst 3, 1) := by decide +kernel
theorem dl_571 : decode code 571 = .ok (.iadd, 1) := by decide +kernel
theorem dl_572 : decode code 572 = .ok (.iaload, 1) := by decide +kernel
theorem dl_573 : decode code 573 = .ok (.invokevirtual 64, 3) := by decide +kernel
theorem dl_576 : decode code 576 = .ok (.aload_n 2, 1) := by decide +kernel
theorem dl_577 : decode code 577 = .ok (.aload_n 0, 1) := by decide +kernel
theorem dl_578 : decode code 578 = .ok (.iload_n 3, 1) := by decide +kernel
theorem dl_579 : decode code 579 = .ok (.iconst 1, 1) := by decide +kernel
theorem dl_580 : decode code 580 = .ok (.iadd, 1) := by decide +kernel
theorem dl_581 : decode code 581 = .ok (.iaload, 1) := by decide +kernel
theorem dl_582 : decode code 582 = .ok (.aload_n 0, 1) := by decide +kernel
theorem dl_583 : decode code 583 = .ok (.iload_n 3, 1) := by decide +kernel
theorem dl_584 : decode code 584 = .ok (.iconst 2, 1) := by decide +kernel
theorem dl_585 : decode code 585 = .ok (.iadd, 1) := by decide +kernel
theorem dl_586 : decode code 586 = .ok (.iaload, 1) := by decide +kernel
theorem dl_587 : decode code 587 = .ok (.aload_n 0, 1) := by decide +kernel
theorem dl_588 : decode code 588 = .ok (.iload_n 3, 1) := by decide +kernel
theorem dl_589 : decode code 589 = .ok (.iconst 3, 1) := by decide +kernel
theorem dl_590 : decode code 590 = .ok (.iadd, 1) := by decide +kernel
theorem dl_591 : decode code 591 = .ok (.iaload, 1) := by decide +kernel
theorem dl_592 : decode code 592 = .ok (.invokevirtual 67, 3) := by decide +kernel
theorem dl_595 : decode code 595 = .ok (.if_icmp .eq 424, 3) := by decide +kernel
theorem dl_600 : decode code 600 = .ok (.aload_n 1, 1) := by decide +kernel
theorem dl_601 : decode code 601 = .ok (.aload_n 0, 1) := by decide +kernel
theorem dl_602 : decode code 602 = .ok (.iload_n 3, 1) := by decide +kernel
theorem dl_603 : decode code 603 = .ok (.iconst 1, 1) := by decide +kernel
theorem dl_604 : decode code 604 = .ok (.iadd, 1) := by decide +kernel
theorem dl_605 : decode code 605 = .ok (.iaload, 1) := by decide +kernel
theorem dl_606 : decode code 606 = .ok (.aload_n 0, 1) := by decide +kernel
theorem dl_607 : decode code 607 = .ok (.iload_n 3, 1) := by decide +kernel
theorem dl_608 : decode code 608 = .ok (.iconst 2, 1) := by decide +kernel
theorem dl_609 : decode code 609 = .ok (.iadd, 1) := by decide +kernel
theorem dl_610 : decode code 610 = .ok (.iaload, 1) := by decide +kernel
theorem dl_611 : decode code 611 = .ok (.aload_n 0, 1) := by decide +kernel
theorem dl_612 : decode code 612 = .ok (.iload_n 3, 1) := by decide +kernel
theorem dl_613 : decode code 613 = .ok (.iconst 3, 1) := by decide +kernel
theorem dl_614 : decode code 614 = .ok (.iadd, 1) := by decide +kernel
theorem dl_615 : decode code 615 = .ok (.iaload, 1) := by decide +kernel
theorem dl_616 : decode code 616 = .ok (.invokevirtual 68, 3) := by decide +kernel
theorem dl_619 : decode code 619 = .ok (.aload_n 2, 1) := by decide +kernel
theorem dl_620 : decode code 620 = .ok (.aload_n 0, 1) := by decide +kernel
theorem dl_621 : decode code 621 = .ok (.iload_n 3, 1) := by decide +kernel
theorem dl_622 : decode code 622 = .ok (.iconst 1, 1) := by decide +kernel
theorem dl_623 : decode code 623 = .ok (.iadd, 1) := by decide +kernel
theorem dl_624 : decode code 624 = .ok (.iaload, 1) := by decide +kernel
theorem dl_625 : decode code 625 = .ok (.aload_n 0, 1) := by decide +kernel
theorem dl_626 : decode code 626 = .ok (.iload_n 3, 1) := by decide +kernel
theorem dl_627 : decode code 627 = .ok (.iconst 2, 1) := by decide +kernel
theorem dl_628 : decode code 628 = .ok (.iadd, 1) := by decide +kernel
theorem dl_629 : decode code 629 = .ok (.iaload, 1) := by decide +kernel
theorem dl_630 : decode code 630 = .ok (.aload_n 0, 1) := by decide +kernel
theorem dl_631 : decode code 631 = .ok (.iload_n 3, 1) := by decide +kernel
theorem dl_632 : decode code 632 = .ok (.iconst 3, 1) := by decide +kernel
theorem dl_633 : decode code 633 = .ok (.iadd, 1) := by decide +kernel
theorem dl_634 : decode code 634 = .ok (.iaload, 1) := by decide +kernel
theorem dl_635 : decode code 635 = .ok (.invokevirtual 71, 3) := by decide +kernel
theorem dl_638 : decode code 638 = .ok (.if_icmp .eq 381, 3) := by decide +kernel
theorem dl_643 : decode code 643 = .ok (.aload_n 1, 1) := by decide +kernel
theorem dl_644 : decode code 644 = .ok (.invokevirtual 72, 3) := by decide +kernel
theorem dl_647 : decode code 647 = .ok (.aload_n 2, 1) := by decide +kernel
theorem dl_648 : decode code 648 = .ok (.invokevirtual 75, 3) := by decide +kernel
theorem dl_651 : decode code 651 = .ok (.if_icmp .eq 368, 3) := by decide +kernel
theorem dl_656 : decode code 656 = .ok (.aload_n 1, 1) := by decide +kernel
theorem dl_657 : decode code 657 = .ok (.aload_n 0, 1) := by decide +kernel
theorem dl_658 : decode code 658 = .ok (.iload_n 3, 1) := by decide +kernel
theorem dl_659 : decode code 659 = .ok (.iconst 1, 1) := by decide +kernel
theorem dl_660 : decode code 660 = .ok (.iadd, 1) := by decide +kernel
theorem dl_661 : decode code 661 = .ok (.iaload, 1) := by decide +kernel
theorem dl_662 : decode code 662 = .ok (.invokevirtual 76, 3) := by decide +kernel
theorem dl_665 : decode code 665 = .ok (.aload_n 2, 1) := by decide +kernel
theorem dl_666 : decode code 666 = .ok (.aload_n 0, 1) := by decide +kernel
theorem dl_667 : decode code 667 = .ok (.iload_n 3, 1) := by decide +kernel
theorem dl_668 : decode code 668 = .ok (.iconst 1, 1) := by decide +kernel
theorem dl_669 : decode code 669 = .ok (.iadd, 1) := by decide +kernel
theorem dl_670 : decode code 670 = .ok (.iaload, 1) := by decide +kernel
theorem dl_671 : decode code 671 = .ok (.invokevirtual 80, 3) := by decide +kernel
theorem dl_674 : decode code 674 = .ok (.if_icmp .eq 345, 3) := by decide +kernel
theorem dl_679 : decode code 679 = .ok (.aload_n 1, 1) := by decide +kernel
theorem dl_680 : decode code 680 = .ok (.aload_n 0, 1) := by decide +kernel
theorem dl_681 : decode code 681 = .ok (.iload_n 3, 1) := by decide +kernel
theorem dl_682 : decode code 682 = .ok (.iconst 1, 1) := by decide +kernel
theorem dl_683 : decode code 683 = .ok (.iadd, 1) := by decide +kernel
theorem dl_684 : decode code 684 = .ok (.iaload, 1) := by decide +kernel
theorem dl_685 : decode code 685 = .ok (.invokevirtual 81, 3) := by decide +kernel
theorem dl_688 : decode code 688 = .ok (.aload_n 2, 1) := by decide +kernel
theorem dl_689 : decode code 689 = .ok (.aload_n 0, 1) := by decide +kernel
theorem dl_690 : decode code 690 = .ok (.iload_n 3, 1) := by decide +kernel
theorem dl_691 : decode code 691 = .ok (.iconst 1, 1) := by decide +kernel
theorem dl_692 : decode code 692 = .ok (.iadd, 1) := by decide +kernel
theorem dl_693 : decode code 693 = .ok (.iaload, 1) := by decide +kernel
theorem dl_694 : decode code 694 = .ok (.invokevirtual 84, 3) := by decide +kernel
theorem dl_697 : decode code 697 = .ok (.if_icmp .eq 322, 3) := by decide +kernel
theorem dl_702 : decode code 702 = .ok (.aload_n 1, 1) := by decide +kernel
theorem dl_703 : decode code 703 = .ok (.aload_n 0, 1) := by decide +kernel
theorem dl_704 : decode code 704 = .ok (.iload_n 3, 1) := by decide +kernel
theorem dl_705 : decode code 705 = .ok (.iconst 1, 1) := by decide +kernel
theorem dl_706 : decode code 706 = .ok (.iadd, 1) := by decide +kernel
theorem dl_707 : decode code 707 = .ok (.iaload, 1) := by decide +kernel
theorem dl_708 : decode code 708 = .ok (.aload_n 0, 1) := by decide +kernel
theorem dl_709 : decode code 709 = .ok (.iload_n 3, 1) := by decide +kernel
theorem dl_710 : decode code 710 = .ok (.iconst 2, 1) := by decide +kernel
theorem dl_711 : decode code 711 = .ok (.iadd, 1) := by decide +kernel
theorem dl_712 : decode code 712 = .ok (.iaload, 1) := by decide +kernel
theorem dl_713 : decode code 713 = .ok (.invokevirtual 85, 3) := by decide +kernel
theorem dl_716 : decode code 716 = .ok (.aload_n 2, 1) := by decide +kernel
theorem dl_717 : decode code 717 = .ok (.aload_n 0, 1) := by decide +kernel
theorem dl_718 : decode code 718 = .ok (.iload_n 3, 1) := by decide +kernel
theorem dl_719 : decode code 719 = .ok (.iconst 1, 1) := by decide +kernel
theorem dl_720 : decode code 720 = .ok (.iadd, 1) := by decide +kernel
theorem dl_721 : decode code 721 = .ok (.iaload, 1) := by decide +kernel
theorem dl_722 : decode code 722 = .ok (.aload_n 0, 1) := by decide +kernel
theorem dl_723 : decode code 723 = .ok (.iload_n 3, 1) := by decide +kernel
theorem dl_724 : decode code 724 = .ok (.iconst 2, 1) := by decide +kernel
theorem dl_725 : decode code 725 = .ok (.iadd, 1) := by decide +kernel
theorem dl_726 : decode code 726 = .ok (.iaload, 1) := by decide +kernel
theorem dl_727 : decode code 727 = .ok (.invokevirtual 88, 3) := by decide +kernel
theorem dl_730 : decode code 730 = .ok (.if_icmp .eq 289, 3) := by decide +kernel
theorem dl_735 : decode code 735 = .ok (.aload_n 1, 1) := by decide +kernel
theorem dl_736 : decode code 736 = .ok (.aload_n 0, 1) := by decide +kernel
theorem dl_737 : decode code 737 = .ok (.iload_n 3, 1) := by decide +kernel
theorem dl_738 : decode code 738 = .ok (.iconst 1, 1) := by decide +kernel
theorem dl_739 : decode code 739 = .ok (.iadd, 1) := by decide +kernel
theorem dl_740 : decode code 740 = .ok (.iaload, 1) := by decide +kernel
theorem dl_741 : decode code 741 = .ok (.aload_n 0, 1) := by decide +kernel
theorem dl_742 : decode code 742 = .ok (.iload_n 3, 1) := by decide +kernel
theorem dl_743 : decode code 743 = .ok (.iconst 2, 1) := by decide +kernel
theorem dl_744 : decode code 744 = .ok (.iadd, 1) := by decide +kernel
theorem dl_745 : decode code 745 = .ok (.iaload, 1) := by decide +kernel
theorem dl_746 : decode code 746 = .ok (.invokevirtual 89, 3) := by decide +kernel
theorem dl_749 : decode code 749 = .ok (.aload_n 2, 1) := by decide +kernel
theorem dl_750 : decode code 750 = .ok (.aload_n 0, 1) := by decide +kernel
theorem dl_751 : decode code 751 = .ok (.iload_n 3, 1) := by decide +kernel
theorem dl_752 : decode code 752 = .ok (.iconst 1, 1) := by decide +kernel
theorem dl_753 : decode code 753 = .ok (.iadd, 1) := by decide +kernel
theorem dl_754 : decode code 754 = .ok (.iaload, 1) := by decide +kernel
theorem dl_755 : decode code 755 = .ok (.aload_n 0, 1) := by decide +kernel
theorem dl_756 : decode code 756 = .ok (.iload_n 3, 1) := by decide +kernel
theorem dl_757 : decode code 757 = .ok (.iconst 2, 1) := by decide +kernel
theorem dl_758 : decode code 758 = .ok (.iadd, 1) := by decide +kernel
theorem dl_759 : decode code 759 = .ok (.iaload, 1) := by decide +kernel
theorem dl_760 : decode code 760 = .ok (.invokevirtual 92, 3) := by decide +kernel
theorem dl_763 : decode code 763 = .ok (.if_icmp .eq 256, 3) := by decide +kernel
theorem dl_768 : decode code 768 = .ok (.aload_n 1, 1) := by decide +kernel
theorem dl_769 : decode code 769 = .ok (.aload_n 0, 1) := by decide +kernel
theorem dl_770 : decode code 770 = .ok (.iload_n 3, 1) := by decide +kernel
theorem dl_771 : decode code 771 = .ok (.iconst 1, 1) := by decide +kernel
theorem dl_772 : decode code 772 = .ok (.iadd, 1) := by decide +kernel
theorem dl_773 : decode code 773 = .ok (.iaload, 1) := by decide +kernel
theorem dl_774 : decode code 774 = .ok (.invokevirtual 93, 3) := by decide +kernel
theorem dl_777 : decode code 777 = .ok (.aload_n 2, 1) := by decide +kernel
theorem dl_778 : decode code 778 = .ok (.aload_n 0, 1) := by decide +kernel
theorem dl_779 : decode code 779 = .ok (.iload_n 3, 1) := by decide +kernel
theorem dl_780 : decode code 780 = .ok (.iconst 1, 1) := by decide +kernel
theorem dl_781 : decode code 781 = .ok (.iadd, 1) := by decide +kernel
theorem dl_782 : decode code 782 = .ok (.iaload, 1) := by decide +kernel
theorem dl_783 : decode code 783 = .ok (.invokevirtual 96, 3) := by decide +kernel
theorem dl_786 : decode code 786 = .ok (.if_icmp .eq 233, 3) := by decide +kernel
theorem dl_791 : decode code 791 = .ok (.aload_n 1, 1) := by decide +kernel
theorem dl_792 : decode code 792 = .ok (.aload_n 0, 1) := by decide +kernel
theorem dl_793 : decode code 793 = .ok (.iload_n 3, 1) := by decide +kernel
theorem dl_794 : decode code 794 = .ok (.iconst 1, 1) := by decide +kernel
theorem dl_795 : decode code 795 = .ok (.iadd, 1) := by decide +kernel
theorem dl_796 : decode code 796 = .ok (.iaload, 1) := by decide +kernel
theorem dl_797 : decode code 797 = .ok (.aload_n 0, 1) := by decide +kernel
theorem dl_798 : decode code 798 = .ok (.iload_n 3, 1) := by decide +kernel
theorem dl_799 : decode code 799 = .ok (.iconst 2, 1) := by decide +kernel
theorem dl_800 : decode code 800 = .ok (.iadd, 1) := by decide +kernel
theorem dl_801 : decode code 801 = .ok (.iaload, 1) := by decide +kernel
theorem dl_802 : decode code 802 = .ok (.aload_n 0, 1) := by decide +kernel
theorem dl_803 : decode code 803 = .ok (.iload_n 3, 1) := by decide +kernel
theorem dl_804 : decode code 804 = .ok (.iconst 3, 1) := by decide +kernel
theorem dl_805 : decode code 805 = .ok (.iadd, 1) := by decide +kernel
theorem dl_806 : decode code 806 = .ok (.iaload, 1) := by decide +kernel
theorem dl_807 : decode code 807 = .ok (.invokevirtual 97, 3) := by decide +kernel
theorem dl_810 : decode code 810 = .ok (.aload_n 2, 1) := by decide +kernel
theorem dl_811 : decode code 811 = .ok (.aload_n 0, 1) := by decide +kernel
theorem dl_812 : decode code 812 = .ok (.iload_n 3, 1) := by decide +kernel
theorem dl_813 : decode code 813 = .ok (.iconst 1, 1) := by decide +kernel
theorem dl_814 : decode code 814 = .ok (.iadd, 1) := by decide +kernel
theorem dl_815 : decode code 815 = .ok (.iaload, 1) := by decide +kernel
theorem dl_816 : decode code 816 = .ok (.aload_n 0, 1) := by decide +kernel
theorem dl_817 : decode code 817 = .ok (.iload_n 3, 1) := by decide +kernel
theorem dl_818 : decode code 818 = .ok (.iconst 2, 1) := by decide +kernel
theorem dl_819 : decode code 819 = .ok (.iadd, 1) := by decide +kernel
theorem dl_820 : decode code 820 = .ok (.iaload, 1) := by decide +kernel
theorem dl_821 : decode code 821 = .ok (.aload_n 0, 1) := by decide +kernel
theorem dl_822 : decode code 822 = .ok (.iload_n 3, 1) := by decide +kernel
theorem dl_823 : decode code 823 = .ok (.iconst 3, 1) := by decide +kernel
theorem dl_824 : decode code 824 = .ok (.iadd, 1) := by decide +kernel
theorem dl_825 : decode code 825 = .ok (.iaload, 1) := by decide +kernel
theorem dl_826 : decode code 826 = .ok (.invokevirtual 100, 3) := by decide +kernel
theorem dl_829 : decode code 829 = .ok (.if_icmp .eq 190, 3) := by decide +kernel
theorem dl_834 : decode code 834 = .ok (.aload_n 1, 1) := by decide +kernel
theorem dl_835 : decode code 835 = .ok (.aload_n 0, 1) := by decide +kernel
theorem dl_836 : decode code 836 = .ok (.iload_n 3, 1) := by decide +kernel
theorem dl_837 : decode code 837 = .ok (.iconst 1, 1) := by decide +kernel
theorem dl_838 : decode code 838 = .ok (.iadd, 1) := by decide +kernel
theorem dl_839 : decode code 839 = .ok (.iaload, 1) := by decide +kernel
theorem dl_840 : decode code 840 = .ok (.invokevirtual 101, 3) := by decide +kernel
theorem dl_843 : decode code 843 = .ok (.aload_n 2, 1) := by decide +kernel
theorem dl_844 : decode code 844 = .ok (.aload_n 0, 1) := by decide +kernel
theorem dl_845 : decode code 845 = .ok (.iload_n 3, 1) := by decide +kernel
theorem dl_846 : decode code 846 = .ok (.iconst 1, 1) := by decide +kernel
theorem dl_847 : decode code 847 = .ok (.iadd, 1) := by decide +kernel
theorem dl_848 : decode code 848 = .ok (.iaload, 1) := by decide +kernel
theorem dl_849 : decode code 849 = .ok (.invokevirtual 104, 3) := by decide +kernel
theorem dl_852 : decode code 852 = .ok (.if_icmp .eq 167, 3) := by decide +kernel
theorem dl_857 : decode code 857 = .ok (.aload_n 1, 1) := by decide +kernel
theorem dl_858 : decode code 858 = .ok (.aload_n 0, 1) := by decide +kernel
theorem dl_859 : decode code 859 = .ok (.iload_n 3, 1) := by decide +kernel
theorem dl_860 : decode code 860 = .ok (.iconst 1, 1) := by decide +kernel
theorem dl_861 : decode code 861 = .ok (.iadd, 1) := by decide +kernel
theorem dl_862 : decode code 862 = .ok (.iaload, 1) := by decide +kernel
theorem dl_863 : decode code 863 = .ok (.aload_n 0, 1) := by decide +kernel
theorem dl_864 : decode code 864 = .ok (.iload_n 3, 1) := by decide +kernel
theorem dl_865 : decode code 865 = .ok (.iconst 2, 1) := by decide +kernel
theorem dl_866 : decode code 866 = .ok (.iadd, 1) := by decide +kernel
theorem dl_867 : decode code 867 = .ok (.iaload, 1) := by decide +kernel
theorem dl_868 : decode code 868 = .ok (.invokevirtual 105, 3) := by decide +kernel
theorem dl_871 : decode code 871 = .ok (.aload_n 2, 1) := by decide +kernel
theorem dl_872 : decode code 872 = .ok (.aload_n 0, 1) := by decide +kernel
theorem dl_873 : decode code 873 = .ok (.iload_n 3, 1) := by decide +kernel
theorem dl_874 : decode code 874 = .ok (.iconst 1, 1) := by decide +kernel
theorem dl_875 : decode code 875 = .ok (.iadd, 1) := by decide +kernel
theorem dl_876 : decode code 876 = .ok (.iaload, 1) := by decide +kernel
theorem dl_877 : decode code 877 = .ok (.aload_n 0, 1) := by decide +kernel
theorem dl_878 : decode code 878 = .ok (.iload_n 3, 1) := by decide +kernel
theorem dl_879 : decode code 879 = .ok (.iconst 2, 1) := by decide +kernel
theorem dl_880 : decode code 880 = .ok (.iadd, 1) := by decide +kernel
theorem dl_881 : decode code 881 = .ok (.iaload, 1) := by decide +kernel
theorem dl_882 : decode code 882 = .ok (.invokevirtual 108, 3) := by decide +kernel
theorem dl_885 : decode code 885 = .ok (.if_icmp .eq 134, 3) := by decide +kernel
theorem dl_890 : decode code 890 = .ok (.aload_n 1, 1) := by decide +kernel
theorem dl_891 : decode code 891 = .ok (.aload_n 0, 1) := by decide +kernel
theorem dl_892 : decode code 892 = .ok (.iload_n 3, 1) := by decide +kernel
theorem dl_893 : decode code 893 = .ok (.iconst 1, 1) := by decide +kernel
theorem dl_894 : decode code 894 = .ok (.iadd, 1) := by decide +kernel
theorem dl_895 : decode code 895 = .ok (.iaload, 1) := by decide +kernel
theorem dl_896 : decode code 896 = .ok (.invokevirtual 109, 3) := by decide +kernel
theorem dl_899 : decode code 899 = .ok (.aload_n 2, 1) := by decide +kernel
theorem dl_900 : decode code 900 = .ok (.aload_n 0, 1) := by decide +kernel
theorem dl_901 : decode code 901 = .ok (.iload_n 3, 1) := by decide +kernel
theorem dl_902 : decode code 902 = .ok (.iconst 1, 1) := by decide +kernel
theorem dl_903 : decode code 903 = .ok (.iadd, 1) := by decide +kernel
theorem dl_904 : decode code 904 = .ok (.iaload, 1) := by decide +kernel
theorem dl_905 : decode code 905 = .ok (.invokevirtual 112, 3) := by decide +kernel
theorem dl_908 : decode code 908 = .ok (.if_icmp .eq 111, 3) := by decide +kernel
theorem dl_913 : decode code 913 = .ok (.aload_n 1, 1) := by decide +kernel
theorem dl_914 : decode code 914 = .ok (.aload_n 0, 1) := by decide +kernel
theorem dl_915 : decode code 915 = .ok (.iload_n 3, 1) := by decide +kernel
theorem dl_916 : decode code 916 = .ok (.iconst 1, 1) := by decide +kernel
theorem dl_917 : decode code 917 = .ok (.iadd, 1) := by decide +kernel
theorem dl_918 : decode code 918 = .ok (.iaload, 1) := by decide +kernel
theorem dl_919 : decode code 919 = .ok (.aload_n 0, 1) := by decide +kernel
theorem dl_920 : decode code 920 = .ok (.iload_n 3, 1) := by decide +kernel
theorem dl_921 : decode code 921 = .ok (.iconst 2, 1) := by decide +kernel
theorem dl_922 : decode code 922 = .ok (.iadd, 1) := by decide +kernel
theorem dl_923 : decode code 923 = .ok (.iaload, 1) := by decide +kernel
theorem dl_924 : decode code 924 = .ok (.aload_n 0, 1) := by decide +kernel
theorem dl_925 : decode code 925 = .ok (.iload_n 3, 1) := by decide +kernel
theorem dl_926 : decode code 926 = .ok (.iconst 3, 1) := by decide +kernel
theorem dl_927 : decode code 927 = .ok (.iadd, 1) := by decide +kernel
theorem dl_928 : decode code 928 = .ok (.iaload, 1) := by decide +kernel
theorem dl_929 : decode code 929 = .ok (.invokevirtual 113, 3) := by decide +kernel
theorem dl_932 : decode code 932 = .ok (.aload_n 2, 1) := by decide +kernel
theorem dl_933 : decode code 933 = .ok (.aload_n 0, 1) := by decide +kernel
theorem dl_934 : decode code 934 = .ok (.iload_n 3, 1) := by decide +kernel
theorem dl_935 : decode code 935 = .ok (.iconst 1, 1) := by decide +kernel
theorem dl_936 : decode code 936 = .ok (.iadd, 1) := by decide +kernel
theorem dl_937 : decode code 937 = .ok (.iaload, 1) := by decide +kernel
theorem dl_938 : decode code 938 = .ok (.aload_n 0, 1) := by decide +kernel
theorem dl_939 : decode code 939 = .ok (.iload_n 3, 1) := by decide +kernel
theorem dl_940 : decode code 940 = .ok (.iconst 2, 1) := by decide +kernel
theorem dl_941 : decode code 941 = .ok (.iadd, 1) := by decide +kernel
theorem dl_942 : decode code 942 = .ok (.iaload, 1) := by decide +kernel
theorem dl_943 : decode code 943 = .ok (.aload_n 0, 1) := by decide +kernel
theorem dl_944 : decode code 944 = .ok (.iload_n 3, 1) := by decide +kernel
theorem dl_945 : decode code 945 = .ok (.iconst 3, 1) := by decide +kernel
theorem dl_946 : decode code 946 = .ok (.iadd, 1) := by decide +kernel
theorem dl_947 : decode code 947 = .ok (.iaload, 1) := by decide +kernel
theorem dl_948 : decode code 948 = .ok (.invokevirtual 116, 3) := by decide +kernel
theorem dl_951 : decode code 951 = .ok (.if_icmp .eq 68, 3) := by decide +kernel
theorem dl_956 : decode code 956 = .ok (.aload_n 1, 1) := by decide +kernel
theorem dl_957 : decode code 957 = .ok (.invokevirtual 117, 3) := by decide +kernel
theorem dl_960 : decode code 960 = .ok (.aload_n 2, 1) := by decide +kernel
theorem dl_961 : decode code 961 = .ok (.invokevirtual 120, 3) := by decide +kernel
theorem dl_964 : decode code 964 = .ok (.if_icmp .eq 55, 3) := by decide +kernel
theorem dl_969 : decode code 969 = .ok (.aload_n 1, 1) := by decide +kernel
theorem dl_970 : decode code 970 = .ok (.invokevirtual 121, 3) := by decide +kernel
theorem dl_973 : decode code 973 = .ok (.aload_n 2, 1) := by decide +kernel
theorem dl_974 : decode code 974 = .ok (.invokevirtual 124, 3) := by decide +kernel
theorem dl_977 : decode code 977 = .ok (.if_icmp .eq 42, 3) := by decide +kernel
theorem dl_982 : decode code 982 = .ok (.aload_n 1, 1) := by decide +kernel
theorem dl_983 : decode code 983 = .ok (.aload_n 0, 1) := by decide +kernel
theorem dl_984 : decode code 984 = .ok (.iload_n 3, 1) := by decide +kernel
theorem dl_985 : decode code 985 = .ok (.iconst 1, 1) := by decide +kernel
theorem dl_986 : decode code 986 = .ok (.iadd, 1) := by decide +kernel
theorem dl_987 : decode code 987 = .ok (.iaload, 1) := by decide +kernel
theorem dl_988 : decode code 988 = .ok (.invokevirtual 125, 3) := by decide +kernel
theorem dl_991 : decode code 991 = .ok (.aload_n 2, 1) := by decide +kernel
theorem dl_992 : decode code 992 = .ok (.aload_n 0, 1) := by decide +kernel
theorem dl_993 : decode code 993 = .ok (.iload_n 3, 1) := by decide +kernel
theorem dl_994 : decode code 994 = .ok (.iconst 1, 1) := by decide +kernel
theorem dl_995 : decode code 995 = .ok (.iadd, 1) := by decide +kernel
theorem dl_996 : decode code 996 = .ok (.iaload, 1) := by decide +kernel
theorem dl_997 : decode code 997 = .ok (.invokevirtual 128, 3) := by decide +kernel
theorem dl_1000 : decode code 1000 = .ok (.if_icmp .eq 19, 3) := by decide +kernel
theorem dl_1005 : decode code 1005 = .ok (.aload_n 1, 1) := by decide +kernel
theorem dl_1006 : decode code 1006 = .ok (.invokevirtual 129, 3) := by decide +kernel
theorem dl_1009 : decode code 1009 = .ok (.aload_n 2, 1) := by decide +kernel
theorem dl_1010 : decode code 1010 = .ok (.invokevirtual 133, 3) := by decide +kernel
theorem dl_1013 : decode code 1013 = .ok (.lcmp, 1) := by decide +kernel
theorem dl_1014 : decode code 1014 = .ok (.ifCond .eq 5, 3) := by decide +kernel
theorem dl_1019 : decode code 1019 = .ok (.iinc 3 8, 3) := by decide +kernel
theorem dl_1022 : decode code 1022 = .ok (.goto (-1004), 3) := by decide +kernel
theorem dl_1025 : decode code 1025 = .ok (.iconst 1, 1) := by decide +kernel
theorem dl_1026 : decode code 1026 = .ok (.ireturn, 1) := by decide +kernel
theorem nl_36 : Cond.constantLong "RowsIntoPlaneLaw" 36 4294967295 ∈ ax_Ts := ax_mem 1182 (by decide +kernel) (by decide +kernel)
theorem ll_13 : ax_LV "RowsIntoPlaneLaw" 13 yX_cabin bX_cabin 4 (some .int) 3 := ⟨ax_mem 375 (by decide +kernel) (by decide +kernel), wvX_cabin.1, wvX_cabin.2.1, wvX_cabin.2.2, wX_cabin, by decide, by decide, by decide +kernel, by decide⟩
theorem ll_17 : ax_LV "RowsIntoPlaneLaw" 17 yM_cabin bM_cabin 4 (some .int) 3 := ⟨ax_mem 885 (by decide +kernel) (by decide +kernel), wvM_cabin.1, wvM_cabin.2.1, wvM_cabin.2.2, wM_cabin, by decide, by decide, by decide +kernel, by decide⟩
theorem ll_18 : ax_LV "RowsIntoPlaneLaw" 18 yX_person bX_person 9 (some .int) 7 := ⟨ax_mem 390 (by decide +kernel) (by decide +kernel), wvX_person.1, wvX_person.2.1, wvX_person.2.2, wX_person, by decide, by decide, by decide +kernel, by decide⟩
theorem ll_22 : ax_LV "RowsIntoPlaneLaw" 22 yM_person bM_person 11 (some .int) 7 := ⟨ax_mem 896 (by decide +kernel) (by decide +kernel), wvM_person.1, wvM_person.2.1, wvM_person.2.2, wM_person, by decide, by decide, by decide +kernel, by decide⟩
theorem ll_23 : ax_LV "RowsIntoPlaneLaw" 23 yX_as bX_as 3 (some .int) 2 := ⟨ax_mem 411 (by decide +kernel) (by decide +kernel), wvX_as.1, wvX_as.2.1, wvX_as.2.2, wX_as, by decide, by decide, by decide +kernel, by decide⟩
theorem ll_27 : ax_LV "RowsIntoPlaneLaw" 27 yM_as bM_as 5 (some .int) 2 := ⟨ax_mem 913 (by decide +kernel) (by decide +kernel), wvM_as.1, wvM_as.2.1, wvM_as.2.2, wM_as, by decide, by decide, by decide +kernel, by decide⟩
theorem ll_28 : ax_LV "RowsIntoPlaneLaw" 28 yX_about bX_about 3 (some .int) 2 := ⟨ax_mem 419 (by decide +kernel) (by decide +kernel), wvX_about.1, wvX_about.2.1, wvX_about.2.2, wX_about, by decide, by decide, by decide +kernel, by decide⟩
theorem ll_31 : ax_LV "RowsIntoPlaneLaw" 31 yM_about bM_about 3 (some .int) 2 := ⟨ax_mem 917 (by decide +kernel) (by decide +kernel), wvM_about.1, wvM_about.2.1, wvM_about.2.2, wM_about, by decide, by decide, by decide +kernel, by decide⟩
theorem ll_32 : ax_LV "RowsIntoPlaneLaw" 32 yX_change bX_change 5 (some .int) 3 := ⟨ax_mem 427 (by decide +kernel) (by decide +kernel), wvX_change.1, wvX_change.2.1, wvX_change.2.2, wX_change, by decide, by decide, by decide +kernel, by decide⟩
theorem ll_35 : ax_LV "RowsIntoPlaneLaw" 35 yM_change bM_change 5 (some .int) 3 := ⟨ax_mem 921 (by decide +kernel) (by decide +kernel), wvM_change.1, wvM_change.2.1, wvM_change.2.2, wM_change, by decide, by decide, by decide +kernel, by decide⟩
theorem ll_38 : ax_LV "RowsIntoPlaneLaw" 38 yX_letters bX_letters 4 (some .int) 1 := ⟨ax_mem 431 (by decide +kernel) (by decide +kernel), wvX_letters.1, wvX_letters.2.1, wvX_letters.2.2, wX_letters, by decide, by decide, by decide +kernel, by decide⟩
theorem ll_42 : ax_LV "RowsIntoPlaneLaw" 42 yM_letters bM_letters 9 (some .int) 1 := ⟨ax_mem 926 (by decide +kernel) (by decide +kernel), wvM_letters.1, wvM_letters.2.1, wvM_letters.2.2, wM_letters, by decide, by decide, by decide +kernel, by decide⟩
theorem ll_43 : ax_LV "RowsIntoPlaneLaw" 43 yX_blank bX_blank 2 (some .int) 0 := ⟨ax_mem 446 (by decide +kernel) (by decide +kernel), wvX_blank.1, wvX_blank.2.1, wvX_blank.2.2, wX_blank, by decide, by decide, by decide +kernel, by decide⟩
theorem ll_47 : ax_LV "RowsIntoPlaneLaw" 47 yM_blank bM_blank 2 (some .int) 0 := ⟨ax_mem 931 (by decide +kernel) (by decide +kernel), wvM_blank.1, wvM_blank.2.1, wvM_blank.2.2, wM_blank, by decide, by decide, by decide +kernel, by decide⟩
theorem ll_48 : ax_LV "RowsIntoPlaneLaw" 48 yX_fault bX_fault 1 (some .int) 0 := ⟨ax_mem 450 (by decide +kernel) (by decide +kernel), wvX_fault.1, wvX_fault.2.1, wvX_fault.2.2, wX_fault, by decide, by decide, by decide +kernel, by decide⟩
theorem ll_51 : ax_LV "RowsIntoPlaneLaw" 51 yM_fault bM_fault 1 (some .int) 0 := ⟨ax_mem 935 (by decide +kernel) (by decide +kernel), wvM_fault.1, wvM_fault.2.1, wvM_fault.2.2, wM_fault, by decide, by decide, by decide +kernel, by decide⟩
theorem ll_52 : ax_LV "RowsIntoPlaneLaw" 52 yX_call bX_call 1 (some .int) 0 := ⟨ax_mem 465 (by decide +kernel) (by decide +kernel), wvX_call.1, wvX_call.2.1, wvX_call.2.2, wX_call, by decide, by decide, by decide +kernel, by decide⟩
theorem ll_55 : ax_LV "RowsIntoPlaneLaw" 55 yM_call bM_call 2 (some .int) 0 := ⟨ax_mem 952 (by decide +kernel) (by decide +kernel), wvM_call.1, wvM_call.2.1, wvM_call.2.2, wM_call, by decide, by decide, by decide +kernel, by decide⟩
theorem ll_56 : ax_LV "RowsIntoPlaneLaw" 56 yX_order bX_order 4 (some .int) 2 := ⟨ax_mem 478 (by decide +kernel) (by decide +kernel), wvX_order.1, wvX_order.2.1, wvX_order.2.2, wX_order, by decide, by decide, by decide +kernel, by decide⟩
theorem ll_59 : ax_LV "RowsIntoPlaneLaw" 59 yM_order bM_order 3 (some .int) 2 := ⟨ax_mem 956 (by decide +kernel) (by decide +kernel), wvM_order.1, wvM_order.2.1, wvM_order.2.2, wM_order, by decide, by decide, by decide +kernel, by decide⟩
theorem ll_60 : ax_LV "RowsIntoPlaneLaw" 60 yX_board bX_board 4 (some .int) 2 := ⟨ax_mem 528 (by decide +kernel) (by decide +kernel), wvX_board.1, wvX_board.2.1, wvX_board.2.2, wX_board, by decide, by decide, by decide +kernel, by decide⟩
theorem ll_63 : ax_LV "RowsIntoPlaneLaw" 63 yM_board bM_board 3 (some .int) 2 := ⟨ax_mem 1000 (by decide +kernel) (by decide +kernel), wvM_board.1, wvM_board.2.1, wvM_board.2.2, wM_board, by decide, by decide, by decide +kernel, by decide⟩
theorem ll_64 : ax_LV "RowsIntoPlaneLaw" 64 yX_sits bX_sits 4 (some .int) 3 := ⟨ax_mem 580 (by decide +kernel) (by decide +kernel), wvX_sits.1, wvX_sits.2.1, wvX_sits.2.2, wX_sits, by decide, by decide, by decide +kernel, by decide⟩
theorem ll_67 : ax_LV "RowsIntoPlaneLaw" 67 yM_sits bM_sits 5 (some .int) 3 := ⟨ax_mem 1040 (by decide +kernel) (by decide +kernel), wvM_sits.1, wvM_sits.2.1, wvM_sits.2.2, wM_sits, by decide, by decide, by decide +kernel, by decide⟩
theorem ll_68 : ax_LV "RowsIntoPlaneLaw" 68 yX_stands bX_stands 5 (some .int) 3 := ⟨ax_mem 588 (by decide +kernel) (by decide +kernel), wvX_stands.1, wvX_stands.2.1, wvX_stands.2.2, wX_stands, by decide, by decide, by decide +kernel, by decide⟩
theorem ll_71 : ax_LV "RowsIntoPlaneLaw" 71 yM_stands bM_stands 5 (some .int) 3 := ⟨ax_mem 1045 (by decide +kernel) (by decide +kernel), wvM_stands.1, wvM_stands.2.1, wvM_stands.2.2, wM_stands, by decide, by decide, by decide +kernel, by decide⟩
theorem ll_72 : ax_LV "RowsIntoPlaneLaw" 72 yX_least bX_least 4 (some .int) 0 := ⟨ax_mem 592 (by decide +kernel) (by decide +kernel), wvX_least.1, wvX_least.2.1, wvX_least.2.2, wX_least, by decide, by decide, by decide +kernel, by decide⟩
theorem ll_75 : ax_LV "RowsIntoPlaneLaw" 75 yM_least bM_least 1 (some .int) 0 := ⟨ax_mem 1049 (by decide +kernel) (by decide +kernel), wvM_least.1, wvM_least.2.1, wvM_least.2.2, wM_least, by decide, by decide, by decide +kernel, by decide⟩
theorem ll_76 : ax_LV "RowsIntoPlaneLaw" 76 yX_bestOrder bX_bestOrder 3 (some .int) 1 := ⟨ax_mem 596 (by decide +kernel) (by decide +kernel), wvX_bestOrder.1, wvX_bestOrder.2.1, wvX_bestOrder.2.2, wX_bestOrder, by decide, by decide, by decide +kernel, by decide⟩
theorem ll_80 : ax_LV "RowsIntoPlaneLaw" 80 yM_bestOrder bM_bestOrder 7 (some .int) 1 := ⟨ax_mem 1058 (by decide +kernel) (by decide +kernel), wvM_bestOrder.1, wvM_bestOrder.2.1, wvM_bestOrder.2.2, wM_bestOrder, by decide, by decide, by decide +kernel, by decide⟩
theorem ll_81 : ax_LV "RowsIntoPlaneLaw" 81 yX_swap bX_swap 7 (some .int) 1 := ⟨ax_mem 629 (by decide +kernel) (by decide +kernel), wvX_swap.1, wvX_swap.2.1, wvX_swap.2.2, wX_swap, by decide, by decide, by decide +kernel, by decide⟩
theorem ll_84 : ax_LV "RowsIntoPlaneLaw" 84 yM_swap bM_swap 7 (some .int) 1 := ⟨ax_mem 1070 (by decide +kernel) (by decide +kernel), wvM_swap.1, wvM_swap.2.1, wvM_swap.2.2, wM_swap, by decide, by decide, by decide +kernel, by decide⟩
theorem ll_85 : ax_LV "RowsIntoPlaneLaw" 85 yX_later bX_later 3 (some .int) 2 := ⟨ax_mem 634 (by decide +kernel) (by decide +kernel), wvX_later.1, wvX_later.2.1, wvX_later.2.2, wX_later, by decide, by decide, by decide +kernel, by decide⟩
theorem ll_88 : ax_LV "RowsIntoPlaneLaw" 88 yM_later bM_later 4 (some .int) 2 := ⟨ax_mem 1078 (by decide +kernel) (by decide +kernel), wvM_later.1, wvM_later.2.1, wvM_later.2.2, wM_later, by decide, by decide, by decide +kernel, by decide⟩
theorem ll_89 : ax_LV "RowsIntoPlaneLaw" 89 yX_bound bX_bound 4 (some .int) 2 := ⟨ax_mem 640 (by decide +kernel) (by decide +kernel), wvX_bound.1, wvX_bound.2.1, wvX_bound.2.2, wX_bound, by decide, by decide, by decide +kernel, by decide⟩
theorem ll_92 : ax_LV "RowsIntoPlaneLaw" 92 yM_bound bM_bound 3 (some .int) 2 := ⟨ax_mem 1082 (by decide +kernel) (by decide +kernel), wvM_bound.1, wvM_bound.2.1, wvM_bound.2.2, wM_bound, by decide, by decide, by decide +kernel, by decide⟩
theorem ll_93 : ax_LV "RowsIntoPlaneLaw" 93 yX_doors bX_doors 3 (some .int) 1 := ⟨ax_mem 644 (by decide +kernel) (by decide +kernel), wvX_doors.1, wvX_doors.2.1, wvX_doors.2.2, wX_doors, by decide, by decide, by decide +kernel, by decide⟩
theorem ll_96 : ax_LV "RowsIntoPlaneLaw" 96 yM_doors bM_doors 2 (some .int) 1 := ⟨ax_mem 1086 (by decide +kernel) (by decide +kernel), wvM_doors.1, wvM_doors.2.1, wvM_doors.2.2, wM_doors, by decide, by decide, by decide +kernel, by decide⟩
theorem ll_97 : ax_LV "RowsIntoPlaneLaw" 97 yX_mixed bX_mixed 8 (some .int) 3 := ⟨ax_mem 666 (by decide +kernel) (by decide +kernel), wvX_mixed.1, wvX_mixed.2.1, wvX_mixed.2.2, wX_mixed, by decide, by decide, by decide +kernel, by decide⟩
theorem ll_100 : ax_LV "RowsIntoPlaneLaw" 100 yM_mixed bM_mixed 4 (some .int) 3 := ⟨ax_mem 1098 (by decide +kernel) (by decide +kernel), wvM_mixed.1, wvM_mixed.2.1, wvM_mixed.2.2, wM_mixed, by decide, by decide, by decide +kernel, by decide⟩
theorem ll_101 : ax_LV "RowsIntoPlaneLaw" 101 yX_out bX_out 2 (some .int) 1 := ⟨ax_mem 679 (by decide +kernel) (by decide +kernel), wvX_out.1, wvX_out.2.1, wvX_out.2.2, wX_out, by decide, by decide, by decide +kernel, by decide⟩
theorem ll_104 : ax_LV "RowsIntoPlaneLaw" 104 yM_out bM_out 2 (some .int) 1 := ⟨ax_mem 1115 (by decide +kernel) (by decide +kernel), wvM_out.1, wvM_out.2.1, wvM_out.2.2, wM_out, by decide, by decide, by decide +kernel, by decide⟩
theorem ll_105 : ax_LV "RowsIntoPlaneLaw" 105 yX_outOf bX_outOf 3 (some .int) 2 := ⟨ax_mem 712 (by decide +kernel) (by decide +kernel), wvX_outOf.1, wvX_outOf.2.1, wvX_outOf.2.2, wX_outOf, by decide, by decide, by decide +kernel, by decide⟩
theorem ll_108 : ax_LV "RowsIntoPlaneLaw" 108 yM_outOf bM_outOf 4 (some .int) 2 := ⟨ax_mem 1135 (by decide +kernel) (by decide +kernel), wvM_outOf.1, wvM_outOf.2.1, wvM_outOf.2.2, wM_outOf, by decide, by decide, by decide +kernel, by decide⟩
theorem ll_109 : ax_LV "RowsIntoPlaneLaw" 109 yX_missed bX_missed 4 (some .int) 1 := ⟨ax_mem 716 (by decide +kernel) (by decide +kernel), wvX_missed.1, wvX_missed.2.1, wvX_missed.2.2, wX_missed, by decide, by decide, by decide +kernel, by decide⟩
theorem ll_112 : ax_LV "RowsIntoPlaneLaw" 112 yM_missed bM_missed 5 (some .int) 1 := ⟨ax_mem 1139 (by decide +kernel) (by decide +kernel), wvM_missed.1, wvM_missed.2.1, wvM_missed.2.2, wM_missed, by decide, by decide, by decide +kernel, by decide⟩
theorem ll_113 : ax_LV "RowsIntoPlaneLaw" 113 yX_stay bX_stay 5 (some .int) 3 := ⟨ax_mem 720 (by decide +kernel) (by decide +kernel), wvX_stay.1, wvX_stay.2.1, wvX_stay.2.2, wX_stay, by decide, by decide, by decide +kernel, by decide⟩
theorem ll_116 : ax_LV "RowsIntoPlaneLaw" 116 yM_stay bM_stay 7 (some .int) 3 := ⟨ax_mem 1143 (by decide +kernel) (by decide +kernel), wvM_stay.1, wvM_stay.2.1, wvM_stay.2.2, wM_stay, by decide, by decide, by decide +kernel, by decide⟩
theorem ll_117 : ax_LV "RowsIntoPlaneLaw" 117 yX_image bX_image 1 (some .int) 0 := ⟨ax_mem 728 (by decide +kernel) (by decide +kernel), wvX_image.1, wvX_image.2.1, wvX_image.2.2, wX_image, by decide, by decide, by decide +kernel, by decide⟩
theorem ll_120 : ax_LV "RowsIntoPlaneLaw" 120 yM_image bM_image 2 (some .int) 0 := ⟨ax_mem 1148 (by decide +kernel) (by decide +kernel), wvM_image.1, wvM_image.2.1, wvM_image.2.2, wM_image, by decide, by decide, by decide +kernel, by decide⟩
theorem ll_121 : ax_LV "RowsIntoPlaneLaw" 121 yX_restore bX_restore 1 (some .int) 0 := ⟨ax_mem 737 (by decide +kernel) (by decide +kernel), wvX_restore.1, wvX_restore.2.1, wvX_restore.2.2, wX_restore, by decide, by decide, by decide +kernel, by decide⟩
theorem ll_124 : ax_LV "RowsIntoPlaneLaw" 124 yM_restore bM_restore 2 (some .int) 0 := ⟨ax_mem 1152 (by decide +kernel) (by decide +kernel), wvM_restore.1, wvM_restore.2.1, wvM_restore.2.2, wM_restore, by decide, by decide, by decide +kernel, by decide⟩
theorem ll_125 : ax_LV "RowsIntoPlaneLaw" 125 yX_count bX_count 2 (some .int) 1 := ⟨ax_mem 745 (by decide +kernel) (by decide +kernel), wvX_count.1, wvX_count.2.1, wvX_count.2.2, wX_count, by decide, by decide, by decide +kernel, by decide⟩
theorem ll_128 : ax_LV "RowsIntoPlaneLaw" 128 yM_count bM_count 2 (some .int) 1 := ⟨ax_mem 1156 (by decide +kernel) (by decide +kernel), wvM_count.1, wvM_count.2.1, wvM_count.2.2, wM_count, by decide, by decide, by decide +kernel, by decide⟩
theorem ll_129 : ax_LV "RowsIntoPlaneLaw" 129 yX_digest bX_digest 5 (some .long) 0 := ⟨ax_mem 753 (by decide +kernel) (by decide +kernel), wvX_digest.1, wvX_digest.2.1, wvX_digest.2.2, wX_digest, by decide, by decide, by decide +kernel, by decide⟩
theorem ll_133 : ax_LV "RowsIntoPlaneLaw" 133 yM_digest bM_digest 2 (some .long) 0 := ⟨ax_mem 1168 (by decide +kernel) (by decide +kernel), wvM_digest.1, wvM_digest.2.1, wvM_digest.2.2, wM_digest, by decide, by decide, by decide +kernel, by decide⟩
end
section
/-! rows for the law: the two worlds beside each other -/
/-- what stands fixed while the law runs, behind its two constructors -/
def lx_F (p : Program) (s : State) (m : MethodId) (meth : Method) (c : Code) (b L : Nat) (xs : Nat → Int32) (D : va_G) (ca : Nat → ClassId) (aX aM : Nat → Nat) : Prop :=
  lw_At p s m meth c b L xs ∧ va_K D ax_cl (ax_tys ca) s ∧ va_Nw ax_nest s ∧ ax_I shX aX ∧ ax_I shM aM ∧ (∀ i j, i < shX.length → j < shM.length → aX i ≠ aM j) ∧ (∀ i, i < shX.length → s.heap.size ≤ aX i) ∧ (∀ j, j < shM.length → s.heap.size ≤ aM j)
def lx_J (p : Program) (l : Launch) (e : Env) (s : State) (m : MethodId) (below : List Frame) (meth : Method) (c : Code) (b : Nat) (D : va_G) (ca : Nat → ClassId) (aX aM : Nat → Nat) (pc : Nat) (ls : List (Nat × Value)) (st : List Value) (X Y : ax_Mem) : Prop :=
  ∀ (H : Heap) (locs : List Loc) (lsA : Array Slot), ax_n shX X → ax_n shM Y → va_P D ax_cl (ax_w shX ca aX X) H → va_P D ax_cl (ax_w shM ca aM Y) H → va_S (fun q : Nat => s.heap.size ≤ q) s.heap H locs → lv_has lsA 4 ls →
    W p l e room_1 s m #[Value.ref b] below meth c H locs 90 910 (lw_Z below #[Value.ref b] s) (F0 m pc lsA st)
abbrev lx_ls (b : Nat) (aX aM : Nat → Nat) (i : Nat) : List (Nat × Value) := [(3, .int (Int32.ofInt (i : Int))), (2, .ref (aM 0)), (1, .ref (aX 0)), (0, .ref b)]
/-- the argument of letters -/
def lx_w (xs : Nat → Int32) (i : Nat) : Int64 := ((Int32.ofInt (xs (i + 1)).toInt).toInt64 <<< ((32 : Int32).toInt64 &&& 63)) ||| ((Int32.ofInt (xs (i + 2)).toInt).toInt64 &&& 4294967295)
theorem lx_r (x : Int32) : ax_r x.toInt := ⟨Int32.le_toInt x, Int32.toInt_lt x⟩
theorem lx_v0 : ∀ v ∈ ([] : List ax_V), ax_vr v := fun _ h => absurd h List.not_mem_nil
section LX
variable {p : Program} {l : Launch} {e : Env} {s : State} {m : MethodId} {below : List Frame} {meth : Method} {c : Code} {b L : Nat} {xs : Nat → Int32} {D : va_G} {ca : Nat → ClassId} {aX aM : Nat → Nat} {pc : Nat} {ls : List (Nat × Value)} {st : List Value} {X Y : ax_Mem}
theorem lx_aload (F : lx_F p s m meth c b L xs D ca aX aM) {q : Fin 4} {i a : Nat} (j : Nat) (hd : decode code pc = .ok (.aload_n q, 1)) (hi : q.val = i) (hj : ls[j]? = some (i, .ref a)) (k : lx_J p l e s m below meth c b D ca aX aM (pc + 1) ls (.ref a :: st) X Y) : lx_J p l e s m below meth c b D ca aX aM pc ls st X Y := by
  intro H locs lsA nX nY hX hY hS hl
  exact lv_aload_n F.1.1 F.1.2.1 hd hi (lv_at hl j hj) (k H locs lsA nX nY hX hY hS hl)
/-- a number of the script -/
theorem lx_at (F : lx_F p s m meth c b L xs D ca aX aM) {i k : Nat} {st' : List Value} (hi : i + k < L) (hL : L ≤ 4096) (hd : decode code pc = .ok (.iaload, 1)) (kk : lx_J p l e s m below meth c b D ca aX aM (pc + 1) ls (.int (Int32.ofInt (xs (i + k)).toInt) :: st') X Y) : lx_J p l e s m below meth c b D ca aX aM pc ls (.int (Int32.ofInt ((i : Int) + (k : Int))) :: .ref b :: st') X Y := by
  intro H locs lsA nX nY hX hY hS hl
  obtain ⟨hx, hb, hr, hml, hown, hts, hXs, hbl, hlocks, hgv⟩ := F.1
  have hr2 : ax_r ((i : Int) + (k : Int)) := ⟨by omega, by omega⟩
  refine va_sld hx hb hXs hbl (Nat.not_le.mpr hbl) hS (ax_in hr2 (by omega) (by omega)) hd ?_
  rw [ax_cl0 hr2, show ((i : Int) + (k : Int)).toNat = i + k by omega]
  have h := kk H locs lsA nX nY hX hY hS hl
  rw [Int32.ofInt_toInt] at h
  exact h
theorem lx_sc (F : lx_F p s m meth c b L xs D ca aX aM) {i k : Nat} {n : Int} (hi : i + 8 ≤ L) (hL : L ≤ 4096) (hk : k < 8) (hn : n = (k : Int)) (d0 : decode code pc = .ok (.aload_n 0, 1)) (d1 : decode code (pc + 1) = .ok (.iload_n 3, 1)) (d2 : decode code (pc + 2) = .ok (.iconst n, 1)) (d3 : decode code (pc + 3) = .ok (.iadd, 1)) (d4 : decode code (pc + 4) = .ok (.iaload, 1)) (kk : lx_J p l e s m below meth c b D ca aX aM (pc + 5) (lx_ls b aX aM i) (.int (Int32.ofInt (xs (i + k)).toInt) :: st) X Y) : lx_J p l e s m below meth c b D ca aX aM pc (lx_ls b aX aM i) st X Y := by
  subst hn
  have h4 := lx_at (pc := pc + 4) F (show i + k < L by omega) hL d4 kk
  intro H locs lsA nX nY hX hY hS hl
  have hx := F.1.1
  have hb := F.1.2.1
  refine lv_aload_n hx hb d0 rfl (lv_at hl 3 rfl) ?_
  refine lv_iload_n hx hb d1 rfl (lv_at hl 0 rfl) ?_
  refine lv_iconst hx hb d2 rfl ?_
  refine lv_iadd hx hb d3 ?_
  rw [← Int32.ofInt_add]
  exact h4 H locs lsA nX nY hX hY hS hl
theorem lx_sb (F : lx_F p s m meth c b L xs D ca aX aM) {i k : Nat} {n : Int} (hi : i + 8 ≤ L) (hL : L ≤ 4096) (hk : k < 8) (hn : n = (k : Int)) (d0 : decode code pc = .ok (.aload_n 0, 1)) (d1 : decode code (pc + 1) = .ok (.iload_n 3, 1)) (d2 : decode code (pc + 2) = .ok (.bipush n, 2)) (d3 : decode code (pc + 4) = .ok (.iadd, 1)) (d4 : decode code (pc + 5) = .ok (.iaload, 1)) (kk : lx_J p l e s m below meth c b D ca aX aM (pc + 6) (lx_ls b aX aM i) (.int (Int32.ofInt (xs (i + k)).toInt) :: st) X Y) : lx_J p l e s m below meth c b D ca aX aM pc (lx_ls b aX aM i) st X Y := by
  subst hn
  have h4 := lx_at (pc := pc + 5) F (show i + k < L by omega) hL d4 kk
  intro H locs lsA nX nY hX hY hS hl
  have hx := F.1.1
  have hb := F.1.2.1
  have hv : (Int8.ofInt (k : Int)).toInt32 = Int32.ofInt (k : Int) := by
    have h1 : (Int8.ofInt (k : Int)).toInt = (k : Int) := Int8.toInt_ofInt_of_le (by omega) (by omega)
    apply Int32.toInt_inj.mp
    rw [ax_i32 ⟨by omega, by omega⟩, Int8.toInt_toInt32, h1]
  refine lv_aload_n hx hb d0 rfl (lv_at hl 3 rfl) ?_
  refine lv_iload_n hx hb d1 rfl (lv_at hl 0 rfl) ?_
  refine lv_bipush hx hb d2 hv ?_
  refine lv_iadd hx hb d3 ?_
  rw [← Int32.ofInt_add]
  exact h4 H locs lsA nX nY hX hY hS hl
theorem lx_i2l (F : lx_F p s m meth c b L xs D ca aX aM) {x : Int32} (hd : decode code pc = .ok (.i2l, 1)) (k : lx_J p l e s m below meth c b D ca aX aM (pc + 1) ls (.long x.toInt64 :: st) X Y) : lx_J p l e s m below meth c b D ca aX aM pc ls (.int x :: st) X Y := by
  intro H locs lsA nX nY hX hY hS hl
  exact lv_i2l F.1.1 F.1.2.1 hd rfl (k H locs lsA nX nY hX hY hS hl)
theorem lx_bipush (F : lx_F p s m meth c b L xs D ca aX aM) {n : Int} {v : Int32} (hd : decode code pc = .ok (.bipush n, 2)) (hv : (Int8.ofInt n).toInt32 = v) (k : lx_J p l e s m below meth c b D ca aX aM (pc + 2) ls (.int v :: st) X Y) : lx_J p l e s m below meth c b D ca aX aM pc ls st X Y := by
  intro H locs lsA nX nY hX hY hS hl
  exact lv_bipush F.1.1 F.1.2.1 hd hv (k H locs lsA nX nY hX hY hS hl)
theorem lx_lshl (F : lx_F p s m meth c b L xs D ca aX aM) {x : Int64} {v : Int32} (hd : decode code pc = .ok (.lshl, 1)) (k : lx_J p l e s m below meth c b D ca aX aM (pc + 1) ls (.long (x <<< (v.toInt64 &&& 63)) :: st) X Y) : lx_J p l e s m below meth c b D ca aX aM pc ls (.int v :: .long x :: st) X Y := by
  intro H locs lsA nX nY hX hY hS hl
  exact lv_lshl F.1.1 F.1.2.1 hd rfl (k H locs lsA nX nY hX hY hS hl)
theorem lx_ldc2 (F : lx_F p s m meth c b L xs D ca aX aM) {idx : Nat} {v : Int64} (hd : decode code pc = .ok (.ldc2_w idx, 3)) (hc : Cond.constantLong "RowsIntoPlaneLaw" idx v ∈ ax_Ts) (k : lx_J p l e s m below meth c b D ca aX aM (pc + 3) ls (.long v :: st) X Y) : lx_J p l e s m below meth c b D ca aX aM pc ls st X Y := by
  intro H locs lsA nX nY hX hY hS hl
  exact lv_ldc2 F.1.1 F.1.2.1 F.1.2.2.2.2.1 (F.1.2.2.2.2.2.1 _ (ax_Ts_sub _ hc)) hd (k H locs lsA nX nY hX hY hS hl)
theorem lx_land (F : lx_F p s m meth c b L xs D ca aX aM) {x v : Int64} (hd : decode code pc = .ok (.land, 1)) (k : lx_J p l e s m below meth c b D ca aX aM (pc + 1) ls (.long (x &&& v) :: st) X Y) : lx_J p l e s m below meth c b D ca aX aM pc ls (.long v :: .long x :: st) X Y := by
  intro H locs lsA nX nY hX hY hS hl
  exact lv_land F.1.1 F.1.2.1 hd (k H locs lsA nX nY hX hY hS hl)
theorem lx_lor (F : lx_F p s m meth c b L xs D ca aX aM) {x v : Int64} (hd : decode code pc = .ok (.lor, 1)) (k : lx_J p l e s m below meth c b D ca aX aM (pc + 1) ls (.long (x ||| v) :: st) X Y) : lx_J p l e s m below meth c b D ca aX aM pc ls (.long v :: .long x :: st) X Y := by
  intro H locs lsA nX nY hX hY hS hl
  exact lv_lor F.1.1 F.1.2.1 hd (k H locs lsA nX nY hX hY hS hl)
theorem lx_tol {w : Int64} (k : lx_J p l e s m below meth c b D ca aX aM pc ls (.long (Int64.ofInt w.toInt) :: st) X Y) : lx_J p l e s m below meth c b D ca aX aM pc ls (.long w :: st) X Y := by
  rw [Int64.ofInt_toInt] at k
  exact k
theorem lx_eqi (F : lx_F p s m meth c b L xs D ca aX aM) {r : Int32} {off : Int} {tgt : Nat} (hd : decode code pc = .ok (.if_icmp .eq off, 3)) (ht : (pc : Int) + off = (tgt : Int)) (k : lx_J p l e s m below meth c b D ca aX aM tgt ls st X Y) : lx_J p l e s m below meth c b D ca aX aM pc ls (.int r :: .int r :: st) X Y := by
  intro H locs lsA nX nY hX hY hS hl
  exact lv_icmp_eq F.1.1 F.1.2.1 hd ht (fun _ => k H locs lsA nX nY hX hY hS hl) (fun h => absurd rfl h)
theorem lx_eql (F : lx_F p s m meth c b L xs D ca aX aM) {r : Int64} {off : Int} {tgt : Nat} (d0 : decode code pc = .ok (.lcmp, 1)) (hd : decode code (pc + 1) = .ok (.ifCond .eq off, 3)) (ht : ((pc + 1 : Nat) : Int) + off = (tgt : Int)) (k : lx_J p l e s m below meth c b D ca aX aM tgt ls st X Y) : lx_J p l e s m below meth c b D ca aX aM pc ls (.long r :: .long r :: st) X Y := by
  intro H locs lsA nX nY hX hY hS hl
  refine W.lcmp F.1.1 F.1.2.1 d0 ?_
  have e0 : lg_cmp r r = 0 := by simp [lg_cmp, Int64.lt_iff_toInt_lt]
  rw [e0]
  exact lv_if_eq F.1.1 F.1.2.1 hd ht (fun _ => k H locs lsA nX nY hX hY hS hl) (fun h => absurd rfl h)
theorem lx_notX {i : Nat} {q : Nat × va_E} (hXM : ∀ i j, i < shX.length → j < shM.length → aX i ≠ aM j) (hq : (ax_w shM ca aM Y)[i]? = some q) : ¬ ax_As shX aX q.1 := by
  obtain ⟨s', -, hj, rfl⟩ := ax_w_at hq
  rintro ⟨k, hk, e⟩
  exact hXM k i hk hj e.symm
theorem lx_notM {i : Nat} {q : Nat × va_E} (hXM : ∀ i j, i < shX.length → j < shM.length → aX i ≠ aM j) (hq : (ax_w shX ca aX X)[i]? = some q) : ¬ ax_As shM aM q.1 := by
  obtain ⟨s', -, hj, rfl⟩ := ax_w_at hq
  rintro ⟨k, hk, e⟩
  exact hXM i k hj hk e
/-- the run of a call on the class's object, on the reference's -/
theorem lx_runX {y2 : MethodName} {cc2 : ByteArray} {mL2 : Nat} {ret2 : Option FieldType} {dp2 idx n : Nat} {as : List ax_V} {st0 : List Value} {P : Int → ax_Mem → Prop} (F : lx_F p s m meth c b L xs D ca aX aM) (hd : decode code pc = .ok (.invokevirtual idx, 3)) (hl : ax_LV "RowsIntoPlaneLaw" idx y2 cc2 mL2 ret2 n) (hc : ∃ (T : u_T) (N : Nat), ax_cl[8]? = some (y2.cls, T, N)) (hn : as.length = n) (h0 : st0 = (as.map (ax_c aX)).reverse ++ .ref (aX 0) :: st) (hz : (st.map fun v => v.category).sum ≤ 8) (hdp : dp2 + 1 ≤ 11 ∧ 8 + (mL2 + 11) + 36 * dp2 ≤ 410) (has : ∀ v ∈ as, ax_vr v)
    (kk : ax_C shX y2 cc2 mL2 ret2 dp2 (.inr (.inr 0) :: as) X P) {H : Heap} {locs : List Loc} {lsA : Array Slot} (nX : ax_n shX X) (hX : va_P D ax_cl (ax_w shX ca aX X) H) (hls : lv_has lsA 4 ls) :
    va_Run p l e room_1 s m #[Value.ref b] below meth c H locs 90 910 0 0 (F0 m pc lsA st0) st (ax_Q shX ret2 D ca aX P (Value.ref (aX 0) :: as.map (ax_c aX)).toArray) (ax_As shX aX) := by
  obtain ⟨C0, hK, hNw, hIX, hIM, hXM, hbX, hbM⟩ := F
  obtain ⟨hx, hb, hr, hml, hown, hts, hXs, hbl, hlocks, hgv⟩ := C0
  have htsG : ∀ w ∈ ax_Ts, w.before #[Value.ref b] s = true := fun w h => hts w (ax_Ts_sub w h)
  obtain ⟨T, N, hc⟩ := hc
  obtain ⟨l1, l2, l3, l4, l5, l6, l7, l8, l9⟩ := hl
  subst h0
  refine va_runV (As := as.map (ax_c aX)) (b := aX 0) (C := y2.cls) (n := n) (Ts := ax_Ts) (bytes := cc2) (maxL := mL2) (ret := ret2) (own := "RowsIntoPlaneLaw") ⟨hx, hb, hml, hown, htsG⟩ (kk l D ca aX hIX nX (ax_cc (v := .inr (.inr 0)) trivial has)) ⟨?_, htsG _ l2, htsG _ l3⟩ ⟨ax_pre (as := []) _, ?_, ?_⟩ rfl (by rw [List.length_map]; exact hn) hls.1 rfl (lv_room hz) hd ⟨Nat.le_of_ble_eq_true rfl, Nat.le_of_ble_eq_true rfl⟩
  · exact callB_of n htsG (ax_good l5) rfl rfl rfl (htsG _ l4) (htsG _ l1) ⟨l6, l7, l8⟩ ⟨hdp.1, hdp.2⟩
  · exact va_recv hK hX hc (ax_w_get sX_0)
  · intro U hU hW
    exact ⟨rfl, by rw [hU]; exact hX, va_K.moved hW.alike hK, va_Nw.warmM hW hNw⟩
theorem lx_runM {y2 : MethodName} {cc2 : ByteArray} {mL2 : Nat} {ret2 : Option FieldType} {dp2 idx n : Nat} {as : List ax_V} {st0 : List Value} {P : Int → ax_Mem → Prop} (F : lx_F p s m meth c b L xs D ca aX aM) (hd : decode code pc = .ok (.invokevirtual idx, 3)) (hl : ax_LV "RowsIntoPlaneLaw" idx y2 cc2 mL2 ret2 n) (hc : ∃ (T : u_T) (N : Nat), ax_cl[9]? = some (y2.cls, T, N)) (hn : as.length = n) (h0 : st0 = (as.map (ax_c aM)).reverse ++ .ref (aM 0) :: st) (hz : (st.map fun v => v.category).sum ≤ 8) (hdp : dp2 + 1 ≤ 11 ∧ 8 + (mL2 + 11) + 36 * dp2 ≤ 410) (has : ∀ v ∈ as, ax_vr v)
    (kk : ax_C shM y2 cc2 mL2 ret2 dp2 (.inr (.inr 0) :: as) Y P) {H : Heap} {locs : List Loc} {lsA : Array Slot} (nY : ax_n shM Y) (hY : va_P D ax_cl (ax_w shM ca aM Y) H) (hls : lv_has lsA 4 ls) :
    va_Run p l e room_1 s m #[Value.ref b] below meth c H locs 90 910 0 0 (F0 m pc lsA st0) st (ax_Q shM ret2 D ca aM P (Value.ref (aM 0) :: as.map (ax_c aM)).toArray) (ax_As shM aM) := by
  obtain ⟨C0, hK, hNw, hIX, hIM, hXM, hbX, hbM⟩ := F
  obtain ⟨hx, hb, hr, hml, hown, hts, hXs, hbl, hlocks, hgv⟩ := C0
  have htsG : ∀ w ∈ ax_Ts, w.before #[Value.ref b] s = true := fun w h => hts w (ax_Ts_sub w h)
  obtain ⟨T, N, hc⟩ := hc
  obtain ⟨l1, l2, l3, l4, l5, l6, l7, l8, l9⟩ := hl
  subst h0
  refine va_runV (As := as.map (ax_c aM)) (b := aM 0) (C := y2.cls) (n := n) (Ts := ax_Ts) (bytes := cc2) (maxL := mL2) (ret := ret2) (own := "RowsIntoPlaneLaw") ⟨hx, hb, hml, hown, htsG⟩ (kk l D ca aM hIM nY (ax_cc (v := .inr (.inr 0)) trivial has)) ⟨?_, htsG _ l2, htsG _ l3⟩ ⟨ax_pre (as := []) _, ?_, ?_⟩ rfl (by rw [List.length_map]; exact hn) hls.1 rfl (lv_room hz) hd ⟨Nat.le_of_ble_eq_true rfl, Nat.le_of_ble_eq_true rfl⟩
  · exact callB_of n htsG (ax_good l5) rfl rfl rfl (htsG _ l4) (htsG _ l1) ⟨l6, l7, l8⟩ ⟨hdp.1, hdp.2⟩
  · exact va_recv hK hY hc (ax_w_get sM_0)
  · intro U hU hW
    exact ⟨rfl, by rw [hU]; exact hY, va_K.moved hW.alike hK, va_Nw.warmM hW hNw⟩
theorem lx_callXi {y2 : MethodName} {cc2 : ByteArray} {mL2 dp2 idx n : Nat} {as : List ax_V} {st0 : List Value} {P : Int → ax_Mem → Prop} (F : lx_F p s m meth c b L xs D ca aX aM) (hd : decode code pc = .ok (.invokevirtual idx, 3)) (hl : ax_LV "RowsIntoPlaneLaw" idx y2 cc2 mL2 (some .int) n) (hc : ∃ (T : u_T) (N : Nat), ax_cl[8]? = some (y2.cls, T, N)) (hn : as.length = n) (h0 : st0 = (as.map (ax_c aX)).reverse ++ .ref (aX 0) :: st) (hz : (st.map fun v => v.category).sum ≤ 8) (hdp : dp2 + 1 ≤ 11 ∧ 8 + (mL2 + 11) + 36 * dp2 ≤ 410) (has : ∀ v ∈ as, ax_vr v)
    (kk : ax_C shX y2 cc2 mL2 (some .int) dp2 (.inr (.inr 0) :: as) X P) (k : ∀ r X2, P r X2 → lx_J p l e s m below meth c b D ca aX aM (pc + 3) ls (.int (Int32.ofInt r) :: st) X2 Y) : lx_J p l e s m below meth c b D ca aX aM pc ls st0 X Y := by
  intro H locs lsA nX nY hX hY hS hls
  have hA1 : ∀ q, ax_As shX aX q → s.heap.size ≤ q := fun q ⟨k, hk, e⟩ => e ▸ F.2.2.2.2.2.2.1 k hk
  refine va_calli (S := ax_Mem) (post := fun r u => ∃ i, ax_r i ∧ r = Int32.ofInt i ∧ P i u) (B := ax_B shX D ca aX) (A1 := ax_As shX aX) (a := (Value.ref (aX 0) :: as.map (ax_c aX)).toArray) (lx_runX F hd hl hc hn h0 hz hdp has kk nX hX hls) hS (fun q _ h => hA1 q h) hA1 (fun r u t H1 locs1 ht hvm hpost hB hz1 hk1 hS1 => ?_)
  obtain ⟨i, hi, rfl, hp⟩ := hpost
  obtain ⟨hn1, hP1⟩ := hB
  rw [ht] at hP1
  exact k i u hp H1 locs1 lsA hn1 nY hP1 (hY.kept (fun j q hq => hk1 q.1 ((hY j q hq).lt) (lx_notX F.2.2.2.2.2.1 hq))) hS1 hls
theorem lx_callXl {y2 : MethodName} {cc2 : ByteArray} {mL2 dp2 idx n : Nat} {as : List ax_V} {st0 : List Value} {P : Int → ax_Mem → Prop} (F : lx_F p s m meth c b L xs D ca aX aM) (hd : decode code pc = .ok (.invokevirtual idx, 3)) (hl : ax_LV "RowsIntoPlaneLaw" idx y2 cc2 mL2 (some .long) n) (hc : ∃ (T : u_T) (N : Nat), ax_cl[8]? = some (y2.cls, T, N)) (hn : as.length = n) (h0 : st0 = (as.map (ax_c aX)).reverse ++ .ref (aX 0) :: st) (hz : (st.map fun v => v.category).sum ≤ 8) (hdp : dp2 + 1 ≤ 11 ∧ 8 + (mL2 + 11) + 36 * dp2 ≤ 410) (has : ∀ v ∈ as, ax_vr v)
    (kk : ax_C shX y2 cc2 mL2 (some .long) dp2 (.inr (.inr 0) :: as) X P) (k : ∀ r X2, P r X2 → lx_J p l e s m below meth c b D ca aX aM (pc + 3) ls (.long (Int64.ofInt r) :: st) X2 Y) : lx_J p l e s m below meth c b D ca aX aM pc ls st0 X Y := by
  intro H locs lsA nX nY hX hY hS hls
  have hA1 : ∀ q, ax_As shX aX q → s.heap.size ≤ q := fun q ⟨k, hk, e⟩ => e ▸ F.2.2.2.2.2.2.1 k hk
  refine va_calll (S := ax_Mem) (post := fun r u => ∃ i, r = Int64.ofInt i ∧ P i u) (B := ax_B shX D ca aX) (A1 := ax_As shX aX) (a := (Value.ref (aX 0) :: as.map (ax_c aX)).toArray) (lx_runX F hd hl hc hn h0 hz hdp has kk nX hX hls) hS (fun q _ h => hA1 q h) hA1 (fun r u t H1 locs1 ht hvm hpost hB hz1 hk1 hS1 => ?_)
  obtain ⟨i, rfl, hp⟩ := hpost
  obtain ⟨hn1, hP1⟩ := hB
  rw [ht] at hP1
  exact k i u hp H1 locs1 lsA hn1 nY hP1 (hY.kept (fun j q hq => hk1 q.1 ((hY j q hq).lt) (lx_notX F.2.2.2.2.2.1 hq))) hS1 hls
theorem lx_callMi {y2 : MethodName} {cc2 : ByteArray} {mL2 dp2 idx n : Nat} {as : List ax_V} {st0 : List Value} {P : Int → ax_Mem → Prop} (F : lx_F p s m meth c b L xs D ca aX aM) (hd : decode code pc = .ok (.invokevirtual idx, 3)) (hl : ax_LV "RowsIntoPlaneLaw" idx y2 cc2 mL2 (some .int) n) (hc : ∃ (T : u_T) (N : Nat), ax_cl[9]? = some (y2.cls, T, N)) (hn : as.length = n) (h0 : st0 = (as.map (ax_c aM)).reverse ++ .ref (aM 0) :: st) (hz : (st.map fun v => v.category).sum ≤ 8) (hdp : dp2 + 1 ≤ 11 ∧ 8 + (mL2 + 11) + 36 * dp2 ≤ 410) (has : ∀ v ∈ as, ax_vr v)
    (kk : ax_C shM y2 cc2 mL2 (some .int) dp2 (.inr (.inr 0) :: as) Y P) (k : ∀ r Y2, P r Y2 → lx_J p l e s m below meth c b D ca aX aM (pc + 3) ls (.int (Int32.ofInt r) :: st) X Y2) : lx_J p l e s m below meth c b D ca aX aM pc ls st0 X Y := by
  intro H locs lsA nX nY hX hY hS hls
  have hA1 : ∀ q, ax_As shM aM q → s.heap.size ≤ q := fun q ⟨k, hk, e⟩ => e ▸ F.2.2.2.2.2.2.2 k hk
  refine va_calli (S := ax_Mem) (post := fun r u => ∃ i, ax_r i ∧ r = Int32.ofInt i ∧ P i u) (B := ax_B shM D ca aM) (A1 := ax_As shM aM) (a := (Value.ref (aM 0) :: as.map (ax_c aM)).toArray) (lx_runM F hd hl hc hn h0 hz hdp has kk nY hY hls) hS (fun q _ h => hA1 q h) hA1 (fun r u t H1 locs1 ht hvm hpost hB hz1 hk1 hS1 => ?_)
  obtain ⟨i, hi, rfl, hp⟩ := hpost
  obtain ⟨hn1, hP1⟩ := hB
  rw [ht] at hP1
  exact k i u hp H1 locs1 lsA nX hn1 (hX.kept (fun j q hq => hk1 q.1 ((hX j q hq).lt) (lx_notM F.2.2.2.2.2.1 hq))) hP1 hS1 hls
theorem lx_callMl {y2 : MethodName} {cc2 : ByteArray} {mL2 dp2 idx n : Nat} {as : List ax_V} {st0 : List Value} {P : Int → ax_Mem → Prop} (F : lx_F p s m meth c b L xs D ca aX aM) (hd : decode code pc = .ok (.invokevirtual idx, 3)) (hl : ax_LV "RowsIntoPlaneLaw" idx y2 cc2 mL2 (some .long) n) (hc : ∃ (T : u_T) (N : Nat), ax_cl[9]? = some (y2.cls, T, N)) (hn : as.length = n) (h0 : st0 = (as.map (ax_c aM)).reverse ++ .ref (aM 0) :: st) (hz : (st.map fun v => v.category).sum ≤ 8) (hdp : dp2 + 1 ≤ 11 ∧ 8 + (mL2 + 11) + 36 * dp2 ≤ 410) (has : ∀ v ∈ as, ax_vr v)
    (kk : ax_C shM y2 cc2 mL2 (some .long) dp2 (.inr (.inr 0) :: as) Y P) (k : ∀ r Y2, P r Y2 → lx_J p l e s m below meth c b D ca aX aM (pc + 3) ls (.long (Int64.ofInt r) :: st) X Y2) : lx_J p l e s m below meth c b D ca aX aM pc ls st0 X Y := by
  intro H locs lsA nX nY hX hY hS hls
  have hA1 : ∀ q, ax_As shM aM q → s.heap.size ≤ q := fun q ⟨k, hk, e⟩ => e ▸ F.2.2.2.2.2.2.2 k hk
  refine va_calll (S := ax_Mem) (post := fun r u => ∃ i, r = Int64.ofInt i ∧ P i u) (B := ax_B shM D ca aM) (A1 := ax_As shM aM) (a := (Value.ref (aM 0) :: as.map (ax_c aM)).toArray) (lx_runM F hd hl hc hn h0 hz hdp has kk nY hY hls) hS (fun q _ h => hA1 q h) hA1 (fun r u t H1 locs1 ht hvm hpost hB hz1 hk1 hS1 => ?_)
  obtain ⟨i, rfl, hp⟩ := hpost
  obtain ⟨hn1, hP1⟩ := hB
  rw [ht] at hP1
  exact k i u hp H1 locs1 lsA nX hn1 (hX.kept (fun j q hq => hk1 q.1 ((hX j q hq).lt) (lx_notM F.2.2.2.2.2.1 hq))) hP1 hS1 hls
end LX
end
section
/-! the law's cases (by program gen4.py) -/
section LC
variable {p : Program} {l : Launch} {e : Env} {s : State} {m : MethodId} {below : List Frame} {meth : Method} {c : Code} {b L : Nat} {xs : Nat → Int32} {D : va_G} {ca : Nat → ClassId} {aX aM : Nat → Nat} {i : Nat} {X Y : ax_Mem} {J : ax_Mem → ax_Mem → Prop}
theorem lc_cabin (F : lx_F p s m meth c b L xs D ca aX aM) (hi : i + 8 ≤ L) (hL : L ≤ 4096) (hq : kX_cabin [.inr (.inr 0), .inl (xs (i + 1)).toInt, .inl (xs (i + 2)).toInt, .inl (xs (i + 3)).toInt] X (fun r X2 => kM_cabin [.inr (.inr 0), .inl (xs (i + 1)).toInt, .inl (xs (i + 2)).toInt, .inl (xs (i + 3)).toInt] Y (fun r2 Y2 => r2 = r ∧ J X2 Y2))) (k : ∀ X2 Y2, J X2 Y2 → lx_J p l e s m below meth c b D ca aX aM 1019 (lx_ls b aX aM i) [] X2 Y2) : lx_J p l e s m below meth c b D ca aX aM 160 (lx_ls b aX aM i) [] X Y := by
  refine lx_aload F 2 dl_160 rfl rfl ?_
  refine lx_sc F hi hL (k := 1) (by decide) rfl dl_161 dl_162 dl_163 dl_164 dl_165 ?_
  refine lx_sc F hi hL (k := 2) (by decide) rfl dl_166 dl_167 dl_168 dl_169 dl_170 ?_
  refine lx_sc F hi hL (k := 3) (by decide) rfl dl_171 dl_172 dl_173 dl_174 dl_175 ?_
  refine lx_callXi F (as := [.inl (xs (i + 1)).toInt, .inl (xs (i + 2)).toInt, .inl (xs (i + 3)).toInt]) dl_176 ll_13 ⟨_, _, rfl⟩ rfl rfl (Nat.le_of_ble_eq_true rfl) ⟨by decide, by decide⟩ (ax_cc (v := .inl (xs (i + 1)).toInt) (lx_r _) (ax_cc (v := .inl (xs (i + 2)).toInt) (lx_r _) (ax_cc (v := .inl (xs (i + 3)).toInt) (lx_r _) lx_v0))) hq (fun r X2 hp => ?_)
  refine lx_aload F 1 dl_179 rfl rfl ?_
  refine lx_sc F hi hL (k := 1) (by decide) rfl dl_180 dl_181 dl_182 dl_183 dl_184 ?_
  refine lx_sc F hi hL (k := 2) (by decide) rfl dl_185 dl_186 dl_187 dl_188 dl_189 ?_
  refine lx_sc F hi hL (k := 3) (by decide) rfl dl_190 dl_191 dl_192 dl_193 dl_194 ?_
  refine lx_callMi F (as := [.inl (xs (i + 1)).toInt, .inl (xs (i + 2)).toInt, .inl (xs (i + 3)).toInt]) dl_195 ll_17 ⟨_, _, rfl⟩ rfl rfl (Nat.le_of_ble_eq_true rfl) ⟨by decide, by decide⟩ (ax_cc (v := .inl (xs (i + 1)).toInt) (lx_r _) (ax_cc (v := .inl (xs (i + 2)).toInt) (lx_r _) (ax_cc (v := .inl (xs (i + 3)).toInt) (lx_r _) lx_v0))) hp (fun r2 Y2 hp2 => ?_)
  obtain ⟨rfl, hJ⟩ := hp2
  exact lx_eqi F (tgt := 1019) dl_198 (by decide) (k _ _ hJ)
theorem lc_person (F : lx_F p s m meth c b L xs D ca aX aM) (hi : i + 8 ≤ L) (hL : L ≤ 4096) (hq : kX_person [.inr (.inr 0), .inl (xs (i + 1)).toInt, .inl (xs (i + 2)).toInt, .inl (xs (i + 3)).toInt, .inl (xs (i + 4)).toInt, .inl (xs (i + 5)).toInt, .inl (xs (i + 6)).toInt, .inl (xs (i + 7)).toInt] X (fun r X2 => kM_person [.inr (.inr 0), .inl (xs (i + 1)).toInt, .inl (xs (i + 2)).toInt, .inl (xs (i + 3)).toInt, .inl (xs (i + 4)).toInt, .inl (xs (i + 5)).toInt, .inl (xs (i + 6)).toInt, .inl (xs (i + 7)).toInt] Y (fun r2 Y2 => r2 = r ∧ J X2 Y2))) (k : ∀ X2 Y2, J X2 Y2 → lx_J p l e s m below meth c b D ca aX aM 1019 (lx_ls b aX aM i) [] X2 Y2) : lx_J p l e s m below meth c b D ca aX aM 203 (lx_ls b aX aM i) [] X Y := by
  refine lx_aload F 2 dl_203 rfl rfl ?_
  refine lx_sc F hi hL (k := 1) (by decide) rfl dl_204 dl_205 dl_206 dl_207 dl_208 ?_
  refine lx_sc F hi hL (k := 2) (by decide) rfl dl_209 dl_210 dl_211 dl_212 dl_213 ?_
  refine lx_sc F hi hL (k := 3) (by decide) rfl dl_214 dl_215 dl_216 dl_217 dl_218 ?_
  refine lx_sc F hi hL (k := 4) (by decide) rfl dl_219 dl_220 dl_221 dl_222 dl_223 ?_
  refine lx_sc F hi hL (k := 5) (by decide) rfl dl_224 dl_225 dl_226 dl_227 dl_228 ?_
  refine lx_sb F hi hL (k := 6) (by decide) rfl dl_229 dl_230 dl_231 dl_233 dl_234 ?_
  refine lx_sb F hi hL (k := 7) (by decide) rfl dl_235 dl_236 dl_237 dl_239 dl_240 ?_
  refine lx_callXi F (as := [.inl (xs (i + 1)).toInt, .inl (xs (i + 2)).toInt, .inl (xs (i + 3)).toInt, .inl (xs (i + 4)).toInt, .inl (xs (i + 5)).toInt, .inl (xs (i + 6)).toInt, .inl (xs (i + 7)).toInt]) dl_241 ll_18 ⟨_, _, rfl⟩ rfl rfl (Nat.le_of_ble_eq_true rfl) ⟨by decide, by decide⟩ (ax_cc (v := .inl (xs (i + 1)).toInt) (lx_r _) (ax_cc (v := .inl (xs (i + 2)).toInt) (lx_r _) (ax_cc (v := .inl (xs (i + 3)).toInt) (lx_r _) (ax_cc (v := .inl (xs (i + 4)).toInt) (lx_r _) (ax_cc (v := .inl (xs (i + 5)).toInt) (lx_r _) (ax_cc (v := .inl (xs (i + 6)).toInt) (lx_r _) (ax_cc (v := .inl (xs (i + 7)).toInt) (lx_r _) lx_v0))))))) hq (fun r X2 hp => ?_)
  refine lx_aload F 1 dl_244 rfl rfl ?_
  refine lx_sc F hi hL (k := 1) (by decide) rfl dl_245 dl_246 dl_247 dl_248 dl_249 ?_
  refine lx_sc F hi hL (k := 2) (by decide) rfl dl_250 dl_251 dl_252 dl_253 dl_254 ?_
  refine lx_sc F hi hL (k := 3) (by decide) rfl dl_255 dl_256 dl_257 dl_258 dl_259 ?_
  refine lx_sc F hi hL (k := 4) (by decide) rfl dl_260 dl_261 dl_262 dl_263 dl_264 ?_
  refine lx_sc F hi hL (k := 5) (by decide) rfl dl_265 dl_266 dl_267 dl_268 dl_269 ?_
  refine lx_sb F hi hL (k := 6) (by decide) rfl dl_270 dl_271 dl_272 dl_274 dl_275 ?_
  refine lx_sb F hi hL (k := 7) (by decide) rfl dl_276 dl_277 dl_278 dl_280 dl_281 ?_
  refine lx_callMi F (as := [.inl (xs (i + 1)).toInt, .inl (xs (i + 2)).toInt, .inl (xs (i + 3)).toInt, .inl (xs (i + 4)).toInt, .inl (xs (i + 5)).toInt, .inl (xs (i + 6)).toInt, .inl (xs (i + 7)).toInt]) dl_282 ll_22 ⟨_, _, rfl⟩ rfl rfl (Nat.le_of_ble_eq_true rfl) ⟨by decide, by decide⟩ (ax_cc (v := .inl (xs (i + 1)).toInt) (lx_r _) (ax_cc (v := .inl (xs (i + 2)).toInt) (lx_r _) (ax_cc (v := .inl (xs (i + 3)).toInt) (lx_r _) (ax_cc (v := .inl (xs (i + 4)).toInt) (lx_r _) (ax_cc (v := .inl (xs (i + 5)).toInt) (lx_r _) (ax_cc (v := .inl (xs (i + 6)).toInt) (lx_r _) (ax_cc (v := .inl (xs (i + 7)).toInt) (lx_r _) lx_v0))))))) hp (fun r2 Y2 hp2 => ?_)
  obtain ⟨rfl, hJ⟩ := hp2
  exact lx_eqi F (tgt := 1019) dl_285 (by decide) (k _ _ hJ)
theorem lc_as (F : lx_F p s m meth c b L xs D ca aX aM) (hi : i + 8 ≤ L) (hL : L ≤ 4096) (hq : kX_as [.inr (.inr 0), .inl (xs (i + 1)).toInt, .inl (xs (i + 2)).toInt] X (fun r X2 => kM_as [.inr (.inr 0), .inl (xs (i + 1)).toInt, .inl (xs (i + 2)).toInt] Y (fun r2 Y2 => r2 = r ∧ J X2 Y2))) (k : ∀ X2 Y2, J X2 Y2 → lx_J p l e s m below meth c b D ca aX aM 1019 (lx_ls b aX aM i) [] X2 Y2) : lx_J p l e s m below meth c b D ca aX aM 290 (lx_ls b aX aM i) [] X Y := by
  refine lx_aload F 2 dl_290 rfl rfl ?_
  refine lx_sc F hi hL (k := 1) (by decide) rfl dl_291 dl_292 dl_293 dl_294 dl_295 ?_
  refine lx_sc F hi hL (k := 2) (by decide) rfl dl_296 dl_297 dl_298 dl_299 dl_300 ?_
  refine lx_callXi F (as := [.inl (xs (i + 1)).toInt, .inl (xs (i + 2)).toInt]) dl_301 ll_23 ⟨_, _, rfl⟩ rfl rfl (Nat.le_of_ble_eq_true rfl) ⟨by decide, by decide⟩ (ax_cc (v := .inl (xs (i + 1)).toInt) (lx_r _) (ax_cc (v := .inl (xs (i + 2)).toInt) (lx_r _) lx_v0)) hq (fun r X2 hp => ?_)
  refine lx_aload F 1 dl_304 rfl rfl ?_
  refine lx_sc F hi hL (k := 1) (by decide) rfl dl_305 dl_306 dl_307 dl_308 dl_309 ?_
  refine lx_sc F hi hL (k := 2) (by decide) rfl dl_310 dl_311 dl_312 dl_313 dl_314 ?_
  refine lx_callMi F (as := [.inl (xs (i + 1)).toInt, .inl (xs (i + 2)).toInt]) dl_315 ll_27 ⟨_, _, rfl⟩ rfl rfl (Nat.le_of_ble_eq_true rfl) ⟨by decide, by decide⟩ (ax_cc (v := .inl (xs (i + 1)).toInt) (lx_r _) (ax_cc (v := .inl (xs (i + 2)).toInt) (lx_r _) lx_v0)) hp (fun r2 Y2 hp2 => ?_)
  obtain ⟨rfl, hJ⟩ := hp2
  exact lx_eqi F (tgt := 1019) dl_318 (by decide) (k _ _ hJ)
theorem lc_about (F : lx_F p s m meth c b L xs D ca aX aM) (hi : i + 8 ≤ L) (hL : L ≤ 4096) (hq : kX_about [.inr (.inr 0), .inl (xs (i + 1)).toInt, .inl (xs (i + 2)).toInt] X (fun r X2 => kM_about [.inr (.inr 0), .inl (xs (i + 1)).toInt, .inl (xs (i + 2)).toInt] Y (fun r2 Y2 => r2 = r ∧ J X2 Y2))) (k : ∀ X2 Y2, J X2 Y2 → lx_J p l e s m below meth c b D ca aX aM 1019 (lx_ls b aX aM i) [] X2 Y2) : lx_J p l e s m below meth c b D ca aX aM 323 (lx_ls b aX aM i) [] X Y := by
  refine lx_aload F 2 dl_323 rfl rfl ?_
  refine lx_sc F hi hL (k := 1) (by decide) rfl dl_324 dl_325 dl_326 dl_327 dl_328 ?_
  refine lx_sc F hi hL (k := 2) (by decide) rfl dl_329 dl_330 dl_331 dl_332 dl_333 ?_
  refine lx_callXi F (as := [.inl (xs (i + 1)).toInt, .inl (xs (i + 2)).toInt]) dl_334 ll_28 ⟨_, _, rfl⟩ rfl rfl (Nat.le_of_ble_eq_true rfl) ⟨by decide, by decide⟩ (ax_cc (v := .inl (xs (i + 1)).toInt) (lx_r _) (ax_cc (v := .inl (xs (i + 2)).toInt) (lx_r _) lx_v0)) hq (fun r X2 hp => ?_)
  refine lx_aload F 1 dl_337 rfl rfl ?_
  refine lx_sc F hi hL (k := 1) (by decide) rfl dl_338 dl_339 dl_340 dl_341 dl_342 ?_
  refine lx_sc F hi hL (k := 2) (by decide) rfl dl_343 dl_344 dl_345 dl_346 dl_347 ?_
  refine lx_callMi F (as := [.inl (xs (i + 1)).toInt, .inl (xs (i + 2)).toInt]) dl_348 ll_31 ⟨_, _, rfl⟩ rfl rfl (Nat.le_of_ble_eq_true rfl) ⟨by decide, by decide⟩ (ax_cc (v := .inl (xs (i + 1)).toInt) (lx_r _) (ax_cc (v := .inl (xs (i + 2)).toInt) (lx_r _) lx_v0)) hp (fun r2 Y2 hp2 => ?_)
  obtain ⟨rfl, hJ⟩ := hp2
  exact lx_eqi F (tgt := 1019) dl_351 (by decide) (k _ _ hJ)
theorem lc_change (F : lx_F p s m meth c b L xs D ca aX aM) (hi : i + 8 ≤ L) (hL : L ≤ 4096) (hq : kX_change [.inr (.inr 0), .inl (xs (i + 1)).toInt, .inl (xs (i + 2)).toInt, .inl (xs (i + 3)).toInt] X (fun r X2 => kM_change [.inr (.inr 0), .inl (xs (i + 1)).toInt, .inl (xs (i + 2)).toInt, .inl (xs (i + 3)).toInt] Y (fun r2 Y2 => r2 = r ∧ J X2 Y2))) (k : ∀ X2 Y2, J X2 Y2 → lx_J p l e s m below meth c b D ca aX aM 1019 (lx_ls b aX aM i) [] X2 Y2) : lx_J p l e s m below meth c b D ca aX aM 356 (lx_ls b aX aM i) [] X Y := by
  refine lx_aload F 2 dl_356 rfl rfl ?_
  refine lx_sc F hi hL (k := 1) (by decide) rfl dl_357 dl_358 dl_359 dl_360 dl_361 ?_
  refine lx_sc F hi hL (k := 2) (by decide) rfl dl_362 dl_363 dl_364 dl_365 dl_366 ?_
  refine lx_sc F hi hL (k := 3) (by decide) rfl dl_367 dl_368 dl_369 dl_370 dl_371 ?_
  refine lx_callXi F (as := [.inl (xs (i + 1)).toInt, .inl (xs (i + 2)).toInt, .inl (xs (i + 3)).toInt]) dl_372 ll_32 ⟨_, _, rfl⟩ rfl rfl (Nat.le_of_ble_eq_true rfl) ⟨by decide, by decide⟩ (ax_cc (v := .inl (xs (i + 1)).toInt) (lx_r _) (ax_cc (v := .inl (xs (i + 2)).toInt) (lx_r _) (ax_cc (v := .inl (xs (i + 3)).toInt) (lx_r _) lx_v0))) hq (fun r X2 hp => ?_)
  refine lx_aload F 1 dl_375 rfl rfl ?_
  refine lx_sc F hi hL (k := 1) (by decide) rfl dl_376 dl_377 dl_378 dl_379 dl_380 ?_
  refine lx_sc F hi hL (k := 2) (by decide) rfl dl_381 dl_382 dl_383 dl_384 dl_385 ?_
  refine lx_sc F hi hL (k := 3) (by decide) rfl dl_386 dl_387 dl_388 dl_389 dl_390 ?_
  refine lx_callMi F (as := [.inl (xs (i + 1)).toInt, .inl (xs (i + 2)).toInt, .inl (xs (i + 3)).toInt]) dl_391 ll_35 ⟨_, _, rfl⟩ rfl rfl (Nat.le_of_ble_eq_true rfl) ⟨by decide, by decide⟩ (ax_cc (v := .inl (xs (i + 1)).toInt) (lx_r _) (ax_cc (v := .inl (xs (i + 2)).toInt) (lx_r _) (ax_cc (v := .inl (xs (i + 3)).toInt) (lx_r _) lx_v0))) hp (fun r2 Y2 hp2 => ?_)
  obtain ⟨rfl, hJ⟩ := hp2
  exact lx_eqi F (tgt := 1019) dl_394 (by decide) (k _ _ hJ)
theorem lc_letters (F : lx_F p s m meth c b L xs D ca aX aM) (hi : i + 8 ≤ L) (hL : L ≤ 4096) (hq : kX_letters [.inr (.inr 0), .inr (.inl (lx_w xs i).toInt)] X (fun r X2 => kM_letters [.inr (.inr 0), .inr (.inl (lx_w xs i).toInt)] Y (fun r2 Y2 => r2 = r ∧ J X2 Y2))) (k : ∀ X2 Y2, J X2 Y2 → lx_J p l e s m below meth c b D ca aX aM 1019 (lx_ls b aX aM i) [] X2 Y2) : lx_J p l e s m below meth c b D ca aX aM 399 (lx_ls b aX aM i) [] X Y := by
  refine lx_aload F 2 dl_399 rfl rfl ?_
  refine lx_sc F hi hL (k := 1) (by decide) rfl dl_400 dl_401 dl_402 dl_403 dl_404 ?_
  refine lx_i2l F dl_405 ?_
  refine lx_bipush F (v := 32) dl_406 (by decide) ?_
  refine lx_lshl F dl_408 ?_
  refine lx_sc F hi hL (k := 2) (by decide) rfl dl_409 dl_410 dl_411 dl_412 dl_413 ?_
  refine lx_i2l F dl_414 ?_
  refine lx_ldc2 F dl_415 nl_36 ?_
  refine lx_land F dl_418 ?_
  refine lx_lor F dl_419 ?_
  refine lx_tol ?_
  refine lx_callXi F (as := [.inr (.inl (lx_w xs i).toInt)]) dl_420 ll_38 ⟨_, _, rfl⟩ rfl rfl (Nat.le_of_ble_eq_true rfl) ⟨by decide, by decide⟩ (ax_cc (v := .inr (.inl (lx_w xs i).toInt)) trivial lx_v0) hq (fun r X2 hp => ?_)
  refine lx_aload F 1 dl_423 rfl rfl ?_
  refine lx_sc F hi hL (k := 1) (by decide) rfl dl_424 dl_425 dl_426 dl_427 dl_428 ?_
  refine lx_i2l F dl_429 ?_
  refine lx_bipush F (v := 32) dl_430 (by decide) ?_
  refine lx_lshl F dl_432 ?_
  refine lx_sc F hi hL (k := 2) (by decide) rfl dl_433 dl_434 dl_435 dl_436 dl_437 ?_
  refine lx_i2l F dl_438 ?_
  refine lx_ldc2 F dl_439 nl_36 ?_
  refine lx_land F dl_442 ?_
  refine lx_lor F dl_443 ?_
  refine lx_tol ?_
  refine lx_callMi F (as := [.inr (.inl (lx_w xs i).toInt)]) dl_444 ll_42 ⟨_, _, rfl⟩ rfl rfl (Nat.le_of_ble_eq_true rfl) ⟨by decide, by decide⟩ (ax_cc (v := .inr (.inl (lx_w xs i).toInt)) trivial lx_v0) hp (fun r2 Y2 hp2 => ?_)
  obtain ⟨rfl, hJ⟩ := hp2
  exact lx_eqi F (tgt := 1019) dl_447 (by decide) (k _ _ hJ)
theorem lc_blank (F : lx_F p s m meth c b L xs D ca aX aM) (hi : i + 8 ≤ L) (hL : L ≤ 4096) (hq : kX_blank [.inr (.inr 0)] X (fun r X2 => kM_blank [.inr (.inr 0)] Y (fun r2 Y2 => r2 = r ∧ J X2 Y2))) (k : ∀ X2 Y2, J X2 Y2 → lx_J p l e s m below meth c b D ca aX aM 1019 (lx_ls b aX aM i) [] X2 Y2) : lx_J p l e s m below meth c b D ca aX aM 452 (lx_ls b aX aM i) [] X Y := by
  refine lx_aload F 2 dl_452 rfl rfl ?_
  refine lx_callXi F (as := []) dl_453 ll_43 ⟨_, _, rfl⟩ rfl rfl (Nat.le_of_ble_eq_true rfl) ⟨by decide, by decide⟩ lx_v0 hq (fun r X2 hp => ?_)
  refine lx_aload F 1 dl_456 rfl rfl ?_
  refine lx_callMi F (as := []) dl_457 ll_47 ⟨_, _, rfl⟩ rfl rfl (Nat.le_of_ble_eq_true rfl) ⟨by decide, by decide⟩ lx_v0 hp (fun r2 Y2 hp2 => ?_)
  obtain ⟨rfl, hJ⟩ := hp2
  exact lx_eqi F (tgt := 1019) dl_460 (by decide) (k _ _ hJ)
theorem lc_fault (F : lx_F p s m meth c b L xs D ca aX aM) (hi : i + 8 ≤ L) (hL : L ≤ 4096) (hq : kX_fault [.inr (.inr 0)] X (fun r X2 => kM_fault [.inr (.inr 0)] Y (fun r2 Y2 => r2 = r ∧ J X2 Y2))) (k : ∀ X2 Y2, J X2 Y2 → lx_J p l e s m below meth c b D ca aX aM 1019 (lx_ls b aX aM i) [] X2 Y2) : lx_J p l e s m below meth c b D ca aX aM 465 (lx_ls b aX aM i) [] X Y := by
  refine lx_aload F 2 dl_465 rfl rfl ?_
  refine lx_callXi F (as := []) dl_466 ll_48 ⟨_, _, rfl⟩ rfl rfl (Nat.le_of_ble_eq_true rfl) ⟨by decide, by decide⟩ lx_v0 hq (fun r X2 hp => ?_)
  refine lx_aload F 1 dl_469 rfl rfl ?_
  refine lx_callMi F (as := []) dl_470 ll_51 ⟨_, _, rfl⟩ rfl rfl (Nat.le_of_ble_eq_true rfl) ⟨by decide, by decide⟩ lx_v0 hp (fun r2 Y2 hp2 => ?_)
  obtain ⟨rfl, hJ⟩ := hp2
  exact lx_eqi F (tgt := 1019) dl_473 (by decide) (k _ _ hJ)
theorem lc_call (F : lx_F p s m meth c b L xs D ca aX aM) (hi : i + 8 ≤ L) (hL : L ≤ 4096) (hq : kX_call [.inr (.inr 0)] X (fun r X2 => kM_call [.inr (.inr 0)] Y (fun r2 Y2 => r2 = r ∧ J X2 Y2))) (k : ∀ X2 Y2, J X2 Y2 → lx_J p l e s m below meth c b D ca aX aM 1019 (lx_ls b aX aM i) [] X2 Y2) : lx_J p l e s m below meth c b D ca aX aM 478 (lx_ls b aX aM i) [] X Y := by
  refine lx_aload F 2 dl_478 rfl rfl ?_
  refine lx_callXi F (as := []) dl_479 ll_52 ⟨_, _, rfl⟩ rfl rfl (Nat.le_of_ble_eq_true rfl) ⟨by decide, by decide⟩ lx_v0 hq (fun r X2 hp => ?_)
  refine lx_aload F 1 dl_482 rfl rfl ?_
  refine lx_callMi F (as := []) dl_483 ll_55 ⟨_, _, rfl⟩ rfl rfl (Nat.le_of_ble_eq_true rfl) ⟨by decide, by decide⟩ lx_v0 hp (fun r2 Y2 hp2 => ?_)
  obtain ⟨rfl, hJ⟩ := hp2
  exact lx_eqi F (tgt := 1019) dl_486 (by decide) (k _ _ hJ)
theorem lc_order (F : lx_F p s m meth c b L xs D ca aX aM) (hi : i + 8 ≤ L) (hL : L ≤ 4096) (hq : kX_order [.inr (.inr 0), .inl (xs (i + 1)).toInt, .inl (xs (i + 2)).toInt] X (fun r X2 => kM_order [.inr (.inr 0), .inl (xs (i + 1)).toInt, .inl (xs (i + 2)).toInt] Y (fun r2 Y2 => r2 = r ∧ J X2 Y2))) (k : ∀ X2 Y2, J X2 Y2 → lx_J p l e s m below meth c b D ca aX aM 1019 (lx_ls b aX aM i) [] X2 Y2) : lx_J p l e s m below meth c b D ca aX aM 491 (lx_ls b aX aM i) [] X Y := by
  refine lx_aload F 2 dl_491 rfl rfl ?_
  refine lx_sc F hi hL (k := 1) (by decide) rfl dl_492 dl_493 dl_494 dl_495 dl_496 ?_
  refine lx_sc F hi hL (k := 2) (by decide) rfl dl_497 dl_498 dl_499 dl_500 dl_501 ?_
  refine lx_callXi F (as := [.inl (xs (i + 1)).toInt, .inl (xs (i + 2)).toInt]) dl_502 ll_56 ⟨_, _, rfl⟩ rfl rfl (Nat.le_of_ble_eq_true rfl) ⟨by decide, by decide⟩ (ax_cc (v := .inl (xs (i + 1)).toInt) (lx_r _) (ax_cc (v := .inl (xs (i + 2)).toInt) (lx_r _) lx_v0)) hq (fun r X2 hp => ?_)
  refine lx_aload F 1 dl_505 rfl rfl ?_
  refine lx_sc F hi hL (k := 1) (by decide) rfl dl_506 dl_507 dl_508 dl_509 dl_510 ?_
  refine lx_sc F hi hL (k := 2) (by decide) rfl dl_511 dl_512 dl_513 dl_514 dl_515 ?_
  refine lx_callMi F (as := [.inl (xs (i + 1)).toInt, .inl (xs (i + 2)).toInt]) dl_516 ll_59 ⟨_, _, rfl⟩ rfl rfl (Nat.le_of_ble_eq_true rfl) ⟨by decide, by decide⟩ (ax_cc (v := .inl (xs (i + 1)).toInt) (lx_r _) (ax_cc (v := .inl (xs (i + 2)).toInt) (lx_r _) lx_v0)) hp (fun r2 Y2 hp2 => ?_)
  obtain ⟨rfl, hJ⟩ := hp2
  exact lx_eqi F (tgt := 1019) dl_519 (by decide) (k _ _ hJ)
theorem lc_board (F : lx_F p s m meth c b L xs D ca aX aM) (hi : i + 8 ≤ L) (hL : L ≤ 4096) (hq : kX_board [.inr (.inr 0), .inl (xs (i + 1)).toInt, .inl (xs (i + 2)).toInt] X (fun r X2 => kM_board [.inr (.inr 0), .inl (xs (i + 1)).toInt, .inl (xs (i + 2)).toInt] Y (fun r2 Y2 => r2 = r ∧ J X2 Y2))) (k : ∀ X2 Y2, J X2 Y2 → lx_J p l e s m below meth c b D ca aX aM 1019 (lx_ls b aX aM i) [] X2 Y2) : lx_J p l e s m below meth c b D ca aX aM 524 (lx_ls b aX aM i) [] X Y := by
  refine lx_aload F 2 dl_524 rfl rfl ?_
  refine lx_sc F hi hL (k := 1) (by decide) rfl dl_525 dl_526 dl_527 dl_528 dl_529 ?_
  refine lx_sc F hi hL (k := 2) (by decide) rfl dl_530 dl_531 dl_532 dl_533 dl_534 ?_
  refine lx_callXi F (as := [.inl (xs (i + 1)).toInt, .inl (xs (i + 2)).toInt]) dl_535 ll_60 ⟨_, _, rfl⟩ rfl rfl (Nat.le_of_ble_eq_true rfl) ⟨by decide, by decide⟩ (ax_cc (v := .inl (xs (i + 1)).toInt) (lx_r _) (ax_cc (v := .inl (xs (i + 2)).toInt) (lx_r _) lx_v0)) hq (fun r X2 hp => ?_)
  refine lx_aload F 1 dl_538 rfl rfl ?_
  refine lx_sc F hi hL (k := 1) (by decide) rfl dl_539 dl_540 dl_541 dl_542 dl_543 ?_
  refine lx_sc F hi hL (k := 2) (by decide) rfl dl_544 dl_545 dl_546 dl_547 dl_548 ?_
  refine lx_callMi F (as := [.inl (xs (i + 1)).toInt, .inl (xs (i + 2)).toInt]) dl_549 ll_63 ⟨_, _, rfl⟩ rfl rfl (Nat.le_of_ble_eq_true rfl) ⟨by decide, by decide⟩ (ax_cc (v := .inl (xs (i + 1)).toInt) (lx_r _) (ax_cc (v := .inl (xs (i + 2)).toInt) (lx_r _) lx_v0)) hp (fun r2 Y2 hp2 => ?_)
  obtain ⟨rfl, hJ⟩ := hp2
  exact lx_eqi F (tgt := 1019) dl_552 (by decide) (k _ _ hJ)
theorem lc_sits (F : lx_F p s m meth c b L xs D ca aX aM) (hi : i + 8 ≤ L) (hL : L ≤ 4096) (hq : kX_sits [.inr (.inr 0), .inl (xs (i + 1)).toInt, .inl (xs (i + 2)).toInt, .inl (xs (i + 3)).toInt] X (fun r X2 => kM_sits [.inr (.inr 0), .inl (xs (i + 1)).toInt, .inl (xs (i + 2)).toInt, .inl (xs (i + 3)).toInt] Y (fun r2 Y2 => r2 = r ∧ J X2 Y2))) (k : ∀ X2 Y2, J X2 Y2 → lx_J p l e s m below meth c b D ca aX aM 1019 (lx_ls b aX aM i) [] X2 Y2) : lx_J p l e s m below meth c b D ca aX aM 557 (lx_ls b aX aM i) [] X Y := by
  refine lx_aload F 2 dl_557 rfl rfl ?_
  refine lx_sc F hi hL (k := 1) (by decide) rfl dl_558 dl_559 dl_560 dl_561 dl_562 ?_
  refine lx_sc F hi hL (k := 2) (by decide) rfl dl_563 dl_564 dl_565 dl_566 dl_567 ?_
  refine lx_sc F hi hL (k := 3) (by decide) rfl dl_568 dl_569 dl_570 dl_571 dl_572 ?_
  refine lx_callXi F (as := [.inl (xs (i + 1)).toInt, .inl (xs (i + 2)).toInt, .inl (xs (i + 3)).toInt]) dl_573 ll_64 ⟨_, _, rfl⟩ rfl rfl (Nat.le_of_ble_eq_true rfl) ⟨by decide, by decide⟩ (ax_cc (v := .inl (xs (i + 1)).toInt) (lx_r _) (ax_cc (v := .inl (xs (i + 2)).toInt) (lx_r _) (ax_cc (v := .inl (xs (i + 3)).toInt) (lx_r _) lx_v0))) hq (fun r X2 hp => ?_)
  refine lx_aload F 1 dl_576 rfl rfl ?_
  refine lx_sc F hi hL (k := 1) (by decide) rfl dl_577 dl_578 dl_579 dl_580 dl_581 ?_
  refine lx_sc F hi hL (k := 2) (by decide) rfl dl_582 dl_583 dl_584 dl_585 dl_586 ?_
  refine lx_sc F hi hL (k := 3) (by decide) rfl dl_587 dl_588 dl_589 dl_590 dl_591 ?_
  refine lx_callMi F (as := [.inl (xs (i + 1)).toInt, .inl (xs (i + 2)).toInt, .inl (xs (i + 3)).toInt]) dl_592 ll_67 ⟨_, _, rfl⟩ rfl rfl (Nat.le_of_ble_eq_true rfl) ⟨by decide, by decide⟩ (ax_cc (v := .inl (xs (i + 1)).toInt) (lx_r _) (ax_cc (v := .inl (xs (i + 2)).toInt) (lx_r _) (ax_cc (v := .inl (xs (i + 3)).toInt) (lx_r _) lx_v0))) hp (fun r2 Y2 hp2 => ?_)
  obtain ⟨rfl, hJ⟩ := hp2
  exact lx_eqi F (tgt := 1019) dl_595 (by decide) (k _ _ hJ)
theorem lc_stands (F : lx_F p s m meth c b L xs D ca aX aM) (hi : i + 8 ≤ L) (hL : L ≤ 4096) (hq : kX_stands [.inr (.inr 0), .inl (xs (i + 1)).toInt, .inl (xs (i + 2)).toInt, .inl (xs (i + 3)).toInt] X (fun r X2 => kM_stands [.inr (.inr 0), .inl (xs (i + 1)).toInt, .inl (xs (i + 2)).toInt, .inl (xs (i + 3)).toInt] Y (fun r2 Y2 => r2 = r ∧ J X2 Y2))) (k : ∀ X2 Y2, J X2 Y2 → lx_J p l e s m below meth c b D ca aX aM 1019 (lx_ls b aX aM i) [] X2 Y2) : lx_J p l e s m below meth c b D ca aX aM 600 (lx_ls b aX aM i) [] X Y := by
  refine lx_aload F 2 dl_600 rfl rfl ?_
  refine lx_sc F hi hL (k := 1) (by decide) rfl dl_601 dl_602 dl_603 dl_604 dl_605 ?_
  refine lx_sc F hi hL (k := 2) (by decide) rfl dl_606 dl_607 dl_608 dl_609 dl_610 ?_
  refine lx_sc F hi hL (k := 3) (by decide) rfl dl_611 dl_612 dl_613 dl_614 dl_615 ?_
  refine lx_callXi F (as := [.inl (xs (i + 1)).toInt, .inl (xs (i + 2)).toInt, .inl (xs (i + 3)).toInt]) dl_616 ll_68 ⟨_, _, rfl⟩ rfl rfl (Nat.le_of_ble_eq_true rfl) ⟨by decide, by decide⟩ (ax_cc (v := .inl (xs (i + 1)).toInt) (lx_r _) (ax_cc (v := .inl (xs (i + 2)).toInt) (lx_r _) (ax_cc (v := .inl (xs (i + 3)).toInt) (lx_r _) lx_v0))) hq (fun r X2 hp => ?_)
  refine lx_aload F 1 dl_619 rfl rfl ?_
  refine lx_sc F hi hL (k := 1) (by decide) rfl dl_620 dl_621 dl_622 dl_623 dl_624 ?_
  refine lx_sc F hi hL (k := 2) (by decide) rfl dl_625 dl_626 dl_627 dl_628 dl_629 ?_
  refine lx_sc F hi hL (k := 3) (by decide) rfl dl_630 dl_631 dl_632 dl_633 dl_634 ?_
  refine lx_callMi F (as := [.inl (xs (i + 1)).toInt, .inl (xs (i + 2)).toInt, .inl (xs (i + 3)).toInt]) dl_635 ll_71 ⟨_, _, rfl⟩ rfl rfl (Nat.le_of_ble_eq_true rfl) ⟨by decide, by decide⟩ (ax_cc (v := .inl (xs (i + 1)).toInt) (lx_r _) (ax_cc (v := .inl (xs (i + 2)).toInt) (lx_r _) (ax_cc (v := .inl (xs (i + 3)).toInt) (lx_r _) lx_v0))) hp (fun r2 Y2 hp2 => ?_)
  obtain ⟨rfl, hJ⟩ := hp2
  exact lx_eqi F (tgt := 1019) dl_638 (by decide) (k _ _ hJ)
theorem lc_least (F : lx_F p s m meth c b L xs D ca aX aM) (hi : i + 8 ≤ L) (hL : L ≤ 4096) (hq : kX_least [.inr (.inr 0)] X (fun r X2 => kM_least [.inr (.inr 0)] Y (fun r2 Y2 => r2 = r ∧ J X2 Y2))) (k : ∀ X2 Y2, J X2 Y2 → lx_J p l e s m below meth c b D ca aX aM 1019 (lx_ls b aX aM i) [] X2 Y2) : lx_J p l e s m below meth c b D ca aX aM 643 (lx_ls b aX aM i) [] X Y := by
  refine lx_aload F 2 dl_643 rfl rfl ?_
  refine lx_callXi F (as := []) dl_644 ll_72 ⟨_, _, rfl⟩ rfl rfl (Nat.le_of_ble_eq_true rfl) ⟨by decide, by decide⟩ lx_v0 hq (fun r X2 hp => ?_)
  refine lx_aload F 1 dl_647 rfl rfl ?_
  refine lx_callMi F (as := []) dl_648 ll_75 ⟨_, _, rfl⟩ rfl rfl (Nat.le_of_ble_eq_true rfl) ⟨by decide, by decide⟩ lx_v0 hp (fun r2 Y2 hp2 => ?_)
  obtain ⟨rfl, hJ⟩ := hp2
  exact lx_eqi F (tgt := 1019) dl_651 (by decide) (k _ _ hJ)
theorem lc_bestOrder (F : lx_F p s m meth c b L xs D ca aX aM) (hi : i + 8 ≤ L) (hL : L ≤ 4096) (hq : kX_bestOrder [.inr (.inr 0), .inl (xs (i + 1)).toInt] X (fun r X2 => kM_bestOrder [.inr (.inr 0), .inl (xs (i + 1)).toInt] Y (fun r2 Y2 => r2 = r ∧ J X2 Y2))) (k : ∀ X2 Y2, J X2 Y2 → lx_J p l e s m below meth c b D ca aX aM 1019 (lx_ls b aX aM i) [] X2 Y2) : lx_J p l e s m below meth c b D ca aX aM 656 (lx_ls b aX aM i) [] X Y := by
  refine lx_aload F 2 dl_656 rfl rfl ?_
  refine lx_sc F hi hL (k := 1) (by decide) rfl dl_657 dl_658 dl_659 dl_660 dl_661 ?_
  refine lx_callXi F (as := [.inl (xs (i + 1)).toInt]) dl_662 ll_76 ⟨_, _, rfl⟩ rfl rfl (Nat.le_of_ble_eq_true rfl) ⟨by decide, by decide⟩ (ax_cc (v := .inl (xs (i + 1)).toInt) (lx_r _) lx_v0) hq (fun r X2 hp => ?_)
  refine lx_aload F 1 dl_665 rfl rfl ?_
  refine lx_sc F hi hL (k := 1) (by decide) rfl dl_666 dl_667 dl_668 dl_669 dl_670 ?_
  refine lx_callMi F (as := [.inl (xs (i + 1)).toInt]) dl_671 ll_80 ⟨_, _, rfl⟩ rfl rfl (Nat.le_of_ble_eq_true rfl) ⟨by decide, by decide⟩ (ax_cc (v := .inl (xs (i + 1)).toInt) (lx_r _) lx_v0) hp (fun r2 Y2 hp2 => ?_)
  obtain ⟨rfl, hJ⟩ := hp2
  exact lx_eqi F (tgt := 1019) dl_674 (by decide) (k _ _ hJ)
theorem lc_swap (F : lx_F p s m meth c b L xs D ca aX aM) (hi : i + 8 ≤ L) (hL : L ≤ 4096) (hq : kX_swap [.inr (.inr 0), .inl (xs (i + 1)).toInt] X (fun r X2 => kM_swap [.inr (.inr 0), .inl (xs (i + 1)).toInt] Y (fun r2 Y2 => r2 = r ∧ J X2 Y2))) (k : ∀ X2 Y2, J X2 Y2 → lx_J p l e s m below meth c b D ca aX aM 1019 (lx_ls b aX aM i) [] X2 Y2) : lx_J p l e s m below meth c b D ca aX aM 679 (lx_ls b aX aM i) [] X Y := by
  refine lx_aload F 2 dl_679 rfl rfl ?_
  refine lx_sc F hi hL (k := 1) (by decide) rfl dl_680 dl_681 dl_682 dl_683 dl_684 ?_
  refine lx_callXi F (as := [.inl (xs (i + 1)).toInt]) dl_685 ll_81 ⟨_, _, rfl⟩ rfl rfl (Nat.le_of_ble_eq_true rfl) ⟨by decide, by decide⟩ (ax_cc (v := .inl (xs (i + 1)).toInt) (lx_r _) lx_v0) hq (fun r X2 hp => ?_)
  refine lx_aload F 1 dl_688 rfl rfl ?_
  refine lx_sc F hi hL (k := 1) (by decide) rfl dl_689 dl_690 dl_691 dl_692 dl_693 ?_
  refine lx_callMi F (as := [.inl (xs (i + 1)).toInt]) dl_694 ll_84 ⟨_, _, rfl⟩ rfl rfl (Nat.le_of_ble_eq_true rfl) ⟨by decide, by decide⟩ (ax_cc (v := .inl (xs (i + 1)).toInt) (lx_r _) lx_v0) hp (fun r2 Y2 hp2 => ?_)
  obtain ⟨rfl, hJ⟩ := hp2
  exact lx_eqi F (tgt := 1019) dl_697 (by decide) (k _ _ hJ)
theorem lc_later (F : lx_F p s m meth c b L xs D ca aX aM) (hi : i + 8 ≤ L) (hL : L ≤ 4096) (hq : kX_later [.inr (.inr 0), .inl (xs (i + 1)).toInt, .inl (xs (i + 2)).toInt] X (fun r X2 => kM_later [.inr (.inr 0), .inl (xs (i + 1)).toInt, .inl (xs (i + 2)).toInt] Y (fun r2 Y2 => r2 = r ∧ J X2 Y2))) (k : ∀ X2 Y2, J X2 Y2 → lx_J p l e s m below meth c b D ca aX aM 1019 (lx_ls b aX aM i) [] X2 Y2) : lx_J p l e s m below meth c b D ca aX aM 702 (lx_ls b aX aM i) [] X Y := by
  refine lx_aload F 2 dl_702 rfl rfl ?_
  refine lx_sc F hi hL (k := 1) (by decide) rfl dl_703 dl_704 dl_705 dl_706 dl_707 ?_
  refine lx_sc F hi hL (k := 2) (by decide) rfl dl_708 dl_709 dl_710 dl_711 dl_712 ?_
  refine lx_callXi F (as := [.inl (xs (i + 1)).toInt, .inl (xs (i + 2)).toInt]) dl_713 ll_85 ⟨_, _, rfl⟩ rfl rfl (Nat.le_of_ble_eq_true rfl) ⟨by decide, by decide⟩ (ax_cc (v := .inl (xs (i + 1)).toInt) (lx_r _) (ax_cc (v := .inl (xs (i + 2)).toInt) (lx_r _) lx_v0)) hq (fun r X2 hp => ?_)
  refine lx_aload F 1 dl_716 rfl rfl ?_
  refine lx_sc F hi hL (k := 1) (by decide) rfl dl_717 dl_718 dl_719 dl_720 dl_721 ?_
  refine lx_sc F hi hL (k := 2) (by decide) rfl dl_722 dl_723 dl_724 dl_725 dl_726 ?_
  refine lx_callMi F (as := [.inl (xs (i + 1)).toInt, .inl (xs (i + 2)).toInt]) dl_727 ll_88 ⟨_, _, rfl⟩ rfl rfl (Nat.le_of_ble_eq_true rfl) ⟨by decide, by decide⟩ (ax_cc (v := .inl (xs (i + 1)).toInt) (lx_r _) (ax_cc (v := .inl (xs (i + 2)).toInt) (lx_r _) lx_v0)) hp (fun r2 Y2 hp2 => ?_)
  obtain ⟨rfl, hJ⟩ := hp2
  exact lx_eqi F (tgt := 1019) dl_730 (by decide) (k _ _ hJ)
theorem lc_bound (F : lx_F p s m meth c b L xs D ca aX aM) (hi : i + 8 ≤ L) (hL : L ≤ 4096) (hq : kX_bound [.inr (.inr 0), .inl (xs (i + 1)).toInt, .inl (xs (i + 2)).toInt] X (fun r X2 => kM_bound [.inr (.inr 0), .inl (xs (i + 1)).toInt, .inl (xs (i + 2)).toInt] Y (fun r2 Y2 => r2 = r ∧ J X2 Y2))) (k : ∀ X2 Y2, J X2 Y2 → lx_J p l e s m below meth c b D ca aX aM 1019 (lx_ls b aX aM i) [] X2 Y2) : lx_J p l e s m below meth c b D ca aX aM 735 (lx_ls b aX aM i) [] X Y := by
  refine lx_aload F 2 dl_735 rfl rfl ?_
  refine lx_sc F hi hL (k := 1) (by decide) rfl dl_736 dl_737 dl_738 dl_739 dl_740 ?_
  refine lx_sc F hi hL (k := 2) (by decide) rfl dl_741 dl_742 dl_743 dl_744 dl_745 ?_
  refine lx_callXi F (as := [.inl (xs (i + 1)).toInt, .inl (xs (i + 2)).toInt]) dl_746 ll_89 ⟨_, _, rfl⟩ rfl rfl (Nat.le_of_ble_eq_true rfl) ⟨by decide, by decide⟩ (ax_cc (v := .inl (xs (i + 1)).toInt) (lx_r _) (ax_cc (v := .inl (xs (i + 2)).toInt) (lx_r _) lx_v0)) hq (fun r X2 hp => ?_)
  refine lx_aload F 1 dl_749 rfl rfl ?_
  refine lx_sc F hi hL (k := 1) (by decide) rfl dl_750 dl_751 dl_752 dl_753 dl_754 ?_
  refine lx_sc F hi hL (k := 2) (by decide) rfl dl_755 dl_756 dl_757 dl_758 dl_759 ?_
  refine lx_callMi F (as := [.inl (xs (i + 1)).toInt, .inl (xs (i + 2)).toInt]) dl_760 ll_92 ⟨_, _, rfl⟩ rfl rfl (Nat.le_of_ble_eq_true rfl) ⟨by decide, by decide⟩ (ax_cc (v := .inl (xs (i + 1)).toInt) (lx_r _) (ax_cc (v := .inl (xs (i + 2)).toInt) (lx_r _) lx_v0)) hp (fun r2 Y2 hp2 => ?_)
  obtain ⟨rfl, hJ⟩ := hp2
  exact lx_eqi F (tgt := 1019) dl_763 (by decide) (k _ _ hJ)
theorem lc_doors (F : lx_F p s m meth c b L xs D ca aX aM) (hi : i + 8 ≤ L) (hL : L ≤ 4096) (hq : kX_doors [.inr (.inr 0), .inl (xs (i + 1)).toInt] X (fun r X2 => kM_doors [.inr (.inr 0), .inl (xs (i + 1)).toInt] Y (fun r2 Y2 => r2 = r ∧ J X2 Y2))) (k : ∀ X2 Y2, J X2 Y2 → lx_J p l e s m below meth c b D ca aX aM 1019 (lx_ls b aX aM i) [] X2 Y2) : lx_J p l e s m below meth c b D ca aX aM 768 (lx_ls b aX aM i) [] X Y := by
  refine lx_aload F 2 dl_768 rfl rfl ?_
  refine lx_sc F hi hL (k := 1) (by decide) rfl dl_769 dl_770 dl_771 dl_772 dl_773 ?_
  refine lx_callXi F (as := [.inl (xs (i + 1)).toInt]) dl_774 ll_93 ⟨_, _, rfl⟩ rfl rfl (Nat.le_of_ble_eq_true rfl) ⟨by decide, by decide⟩ (ax_cc (v := .inl (xs (i + 1)).toInt) (lx_r _) lx_v0) hq (fun r X2 hp => ?_)
  refine lx_aload F 1 dl_777 rfl rfl ?_
  refine lx_sc F hi hL (k := 1) (by decide) rfl dl_778 dl_779 dl_780 dl_781 dl_782 ?_
  refine lx_callMi F (as := [.inl (xs (i + 1)).toInt]) dl_783 ll_96 ⟨_, _, rfl⟩ rfl rfl (Nat.le_of_ble_eq_true rfl) ⟨by decide, by decide⟩ (ax_cc (v := .inl (xs (i + 1)).toInt) (lx_r _) lx_v0) hp (fun r2 Y2 hp2 => ?_)
  obtain ⟨rfl, hJ⟩ := hp2
  exact lx_eqi F (tgt := 1019) dl_786 (by decide) (k _ _ hJ)
theorem lc_mixed (F : lx_F p s m meth c b L xs D ca aX aM) (hi : i + 8 ≤ L) (hL : L ≤ 4096) (hq : kX_mixed [.inr (.inr 0), .inl (xs (i + 1)).toInt, .inl (xs (i + 2)).toInt, .inl (xs (i + 3)).toInt] X (fun r X2 => kM_mixed [.inr (.inr 0), .inl (xs (i + 1)).toInt, .inl (xs (i + 2)).toInt, .inl (xs (i + 3)).toInt] Y (fun r2 Y2 => r2 = r ∧ J X2 Y2))) (k : ∀ X2 Y2, J X2 Y2 → lx_J p l e s m below meth c b D ca aX aM 1019 (lx_ls b aX aM i) [] X2 Y2) : lx_J p l e s m below meth c b D ca aX aM 791 (lx_ls b aX aM i) [] X Y := by
  refine lx_aload F 2 dl_791 rfl rfl ?_
  refine lx_sc F hi hL (k := 1) (by decide) rfl dl_792 dl_793 dl_794 dl_795 dl_796 ?_
  refine lx_sc F hi hL (k := 2) (by decide) rfl dl_797 dl_798 dl_799 dl_800 dl_801 ?_
  refine lx_sc F hi hL (k := 3) (by decide) rfl dl_802 dl_803 dl_804 dl_805 dl_806 ?_
  refine lx_callXi F (as := [.inl (xs (i + 1)).toInt, .inl (xs (i + 2)).toInt, .inl (xs (i + 3)).toInt]) dl_807 ll_97 ⟨_, _, rfl⟩ rfl rfl (Nat.le_of_ble_eq_true rfl) ⟨by decide, by decide⟩ (ax_cc (v := .inl (xs (i + 1)).toInt) (lx_r _) (ax_cc (v := .inl (xs (i + 2)).toInt) (lx_r _) (ax_cc (v := .inl (xs (i + 3)).toInt) (lx_r _) lx_v0))) hq (fun r X2 hp => ?_)
  refine lx_aload F 1 dl_810 rfl rfl ?_
  refine lx_sc F hi hL (k := 1) (by decide) rfl dl_811 dl_812 dl_813 dl_814 dl_815 ?_
  refine lx_sc F hi hL (k := 2) (by decide) rfl dl_816 dl_817 dl_818 dl_819 dl_820 ?_
  refine lx_sc F hi hL (k := 3) (by decide) rfl dl_821 dl_822 dl_823 dl_824 dl_825 ?_
  refine lx_callMi F (as := [.inl (xs (i + 1)).toInt, .inl (xs (i + 2)).toInt, .inl (xs (i + 3)).toInt]) dl_826 ll_100 ⟨_, _, rfl⟩ rfl rfl (Nat.le_of_ble_eq_true rfl) ⟨by decide, by decide⟩ (ax_cc (v := .inl (xs (i + 1)).toInt) (lx_r _) (ax_cc (v := .inl (xs (i + 2)).toInt) (lx_r _) (ax_cc (v := .inl (xs (i + 3)).toInt) (lx_r _) lx_v0))) hp (fun r2 Y2 hp2 => ?_)
  obtain ⟨rfl, hJ⟩ := hp2
  exact lx_eqi F (tgt := 1019) dl_829 (by decide) (k _ _ hJ)
theorem lc_out (F : lx_F p s m meth c b L xs D ca aX aM) (hi : i + 8 ≤ L) (hL : L ≤ 4096) (hq : kX_out [.inr (.inr 0), .inl (xs (i + 1)).toInt] X (fun r X2 => kM_out [.inr (.inr 0), .inl (xs (i + 1)).toInt] Y (fun r2 Y2 => r2 = r ∧ J X2 Y2))) (k : ∀ X2 Y2, J X2 Y2 → lx_J p l e s m below meth c b D ca aX aM 1019 (lx_ls b aX aM i) [] X2 Y2) : lx_J p l e s m below meth c b D ca aX aM 834 (lx_ls b aX aM i) [] X Y := by
  refine lx_aload F 2 dl_834 rfl rfl ?_
  refine lx_sc F hi hL (k := 1) (by decide) rfl dl_835 dl_836 dl_837 dl_838 dl_839 ?_
  refine lx_callXi F (as := [.inl (xs (i + 1)).toInt]) dl_840 ll_101 ⟨_, _, rfl⟩ rfl rfl (Nat.le_of_ble_eq_true rfl) ⟨by decide, by decide⟩ (ax_cc (v := .inl (xs (i + 1)).toInt) (lx_r _) lx_v0) hq (fun r X2 hp => ?_)
  refine lx_aload F 1 dl_843 rfl rfl ?_
  refine lx_sc F hi hL (k := 1) (by decide) rfl dl_844 dl_845 dl_846 dl_847 dl_848 ?_
  refine lx_callMi F (as := [.inl (xs (i + 1)).toInt]) dl_849 ll_104 ⟨_, _, rfl⟩ rfl rfl (Nat.le_of_ble_eq_true rfl) ⟨by decide, by decide⟩ (ax_cc (v := .inl (xs (i + 1)).toInt) (lx_r _) lx_v0) hp (fun r2 Y2 hp2 => ?_)
  obtain ⟨rfl, hJ⟩ := hp2
  exact lx_eqi F (tgt := 1019) dl_852 (by decide) (k _ _ hJ)
theorem lc_outOf (F : lx_F p s m meth c b L xs D ca aX aM) (hi : i + 8 ≤ L) (hL : L ≤ 4096) (hq : kX_outOf [.inr (.inr 0), .inl (xs (i + 1)).toInt, .inl (xs (i + 2)).toInt] X (fun r X2 => kM_outOf [.inr (.inr 0), .inl (xs (i + 1)).toInt, .inl (xs (i + 2)).toInt] Y (fun r2 Y2 => r2 = r ∧ J X2 Y2))) (k : ∀ X2 Y2, J X2 Y2 → lx_J p l e s m below meth c b D ca aX aM 1019 (lx_ls b aX aM i) [] X2 Y2) : lx_J p l e s m below meth c b D ca aX aM 857 (lx_ls b aX aM i) [] X Y := by
  refine lx_aload F 2 dl_857 rfl rfl ?_
  refine lx_sc F hi hL (k := 1) (by decide) rfl dl_858 dl_859 dl_860 dl_861 dl_862 ?_
  refine lx_sc F hi hL (k := 2) (by decide) rfl dl_863 dl_864 dl_865 dl_866 dl_867 ?_
  refine lx_callXi F (as := [.inl (xs (i + 1)).toInt, .inl (xs (i + 2)).toInt]) dl_868 ll_105 ⟨_, _, rfl⟩ rfl rfl (Nat.le_of_ble_eq_true rfl) ⟨by decide, by decide⟩ (ax_cc (v := .inl (xs (i + 1)).toInt) (lx_r _) (ax_cc (v := .inl (xs (i + 2)).toInt) (lx_r _) lx_v0)) hq (fun r X2 hp => ?_)
  refine lx_aload F 1 dl_871 rfl rfl ?_
  refine lx_sc F hi hL (k := 1) (by decide) rfl dl_872 dl_873 dl_874 dl_875 dl_876 ?_
  refine lx_sc F hi hL (k := 2) (by decide) rfl dl_877 dl_878 dl_879 dl_880 dl_881 ?_
  refine lx_callMi F (as := [.inl (xs (i + 1)).toInt, .inl (xs (i + 2)).toInt]) dl_882 ll_108 ⟨_, _, rfl⟩ rfl rfl (Nat.le_of_ble_eq_true rfl) ⟨by decide, by decide⟩ (ax_cc (v := .inl (xs (i + 1)).toInt) (lx_r _) (ax_cc (v := .inl (xs (i + 2)).toInt) (lx_r _) lx_v0)) hp (fun r2 Y2 hp2 => ?_)
  obtain ⟨rfl, hJ⟩ := hp2
  exact lx_eqi F (tgt := 1019) dl_885 (by decide) (k _ _ hJ)
theorem lc_missed (F : lx_F p s m meth c b L xs D ca aX aM) (hi : i + 8 ≤ L) (hL : L ≤ 4096) (hq : kX_missed [.inr (.inr 0), .inl (xs (i + 1)).toInt] X (fun r X2 => kM_missed [.inr (.inr 0), .inl (xs (i + 1)).toInt] Y (fun r2 Y2 => r2 = r ∧ J X2 Y2))) (k : ∀ X2 Y2, J X2 Y2 → lx_J p l e s m below meth c b D ca aX aM 1019 (lx_ls b aX aM i) [] X2 Y2) : lx_J p l e s m below meth c b D ca aX aM 890 (lx_ls b aX aM i) [] X Y := by
  refine lx_aload F 2 dl_890 rfl rfl ?_
  refine lx_sc F hi hL (k := 1) (by decide) rfl dl_891 dl_892 dl_893 dl_894 dl_895 ?_
  refine lx_callXi F (as := [.inl (xs (i + 1)).toInt]) dl_896 ll_109 ⟨_, _, rfl⟩ rfl rfl (Nat.le_of_ble_eq_true rfl) ⟨by decide, by decide⟩ (ax_cc (v := .inl (xs (i + 1)).toInt) (lx_r _) lx_v0) hq (fun r X2 hp => ?_)
  refine lx_aload F 1 dl_899 rfl rfl ?_
  refine lx_sc F hi hL (k := 1) (by decide) rfl dl_900 dl_901 dl_902 dl_903 dl_904 ?_
  refine lx_callMi F (as := [.inl (xs (i + 1)).toInt]) dl_905 ll_112 ⟨_, _, rfl⟩ rfl rfl (Nat.le_of_ble_eq_true rfl) ⟨by decide, by decide⟩ (ax_cc (v := .inl (xs (i + 1)).toInt) (lx_r _) lx_v0) hp (fun r2 Y2 hp2 => ?_)
  obtain ⟨rfl, hJ⟩ := hp2
  exact lx_eqi F (tgt := 1019) dl_908 (by decide) (k _ _ hJ)
theorem lc_stay (F : lx_F p s m meth c b L xs D ca aX aM) (hi : i + 8 ≤ L) (hL : L ≤ 4096) (hq : kX_stay [.inr (.inr 0), .inl (xs (i + 1)).toInt, .inl (xs (i + 2)).toInt, .inl (xs (i + 3)).toInt] X (fun r X2 => kM_stay [.inr (.inr 0), .inl (xs (i + 1)).toInt, .inl (xs (i + 2)).toInt, .inl (xs (i + 3)).toInt] Y (fun r2 Y2 => r2 = r ∧ J X2 Y2))) (k : ∀ X2 Y2, J X2 Y2 → lx_J p l e s m below meth c b D ca aX aM 1019 (lx_ls b aX aM i) [] X2 Y2) : lx_J p l e s m below meth c b D ca aX aM 913 (lx_ls b aX aM i) [] X Y := by
  refine lx_aload F 2 dl_913 rfl rfl ?_
  refine lx_sc F hi hL (k := 1) (by decide) rfl dl_914 dl_915 dl_916 dl_917 dl_918 ?_
  refine lx_sc F hi hL (k := 2) (by decide) rfl dl_919 dl_920 dl_921 dl_922 dl_923 ?_
  refine lx_sc F hi hL (k := 3) (by decide) rfl dl_924 dl_925 dl_926 dl_927 dl_928 ?_
  refine lx_callXi F (as := [.inl (xs (i + 1)).toInt, .inl (xs (i + 2)).toInt, .inl (xs (i + 3)).toInt]) dl_929 ll_113 ⟨_, _, rfl⟩ rfl rfl (Nat.le_of_ble_eq_true rfl) ⟨by decide, by decide⟩ (ax_cc (v := .inl (xs (i + 1)).toInt) (lx_r _) (ax_cc (v := .inl (xs (i + 2)).toInt) (lx_r _) (ax_cc (v := .inl (xs (i + 3)).toInt) (lx_r _) lx_v0))) hq (fun r X2 hp => ?_)
  refine lx_aload F 1 dl_932 rfl rfl ?_
  refine lx_sc F hi hL (k := 1) (by decide) rfl dl_933 dl_934 dl_935 dl_936 dl_937 ?_
  refine lx_sc F hi hL (k := 2) (by decide) rfl dl_938 dl_939 dl_940 dl_941 dl_942 ?_
  refine lx_sc F hi hL (k := 3) (by decide) rfl dl_943 dl_944 dl_945 dl_946 dl_947 ?_
  refine lx_callMi F (as := [.inl (xs (i + 1)).toInt, .inl (xs (i + 2)).toInt, .inl (xs (i + 3)).toInt]) dl_948 ll_116 ⟨_, _, rfl⟩ rfl rfl (Nat.le_of_ble_eq_true rfl) ⟨by decide, by decide⟩ (ax_cc (v := .inl (xs (i + 1)).toInt) (lx_r _) (ax_cc (v := .inl (xs (i + 2)).toInt) (lx_r _) (ax_cc (v := .inl (xs (i + 3)).toInt) (lx_r _) lx_v0))) hp (fun r2 Y2 hp2 => ?_)
  obtain ⟨rfl, hJ⟩ := hp2
  exact lx_eqi F (tgt := 1019) dl_951 (by decide) (k _ _ hJ)
theorem lc_image (F : lx_F p s m meth c b L xs D ca aX aM) (hi : i + 8 ≤ L) (hL : L ≤ 4096) (hq : kX_image [.inr (.inr 0)] X (fun r X2 => kM_image [.inr (.inr 0)] Y (fun r2 Y2 => r2 = r ∧ J X2 Y2))) (k : ∀ X2 Y2, J X2 Y2 → lx_J p l e s m below meth c b D ca aX aM 1019 (lx_ls b aX aM i) [] X2 Y2) : lx_J p l e s m below meth c b D ca aX aM 956 (lx_ls b aX aM i) [] X Y := by
  refine lx_aload F 2 dl_956 rfl rfl ?_
  refine lx_callXi F (as := []) dl_957 ll_117 ⟨_, _, rfl⟩ rfl rfl (Nat.le_of_ble_eq_true rfl) ⟨by decide, by decide⟩ lx_v0 hq (fun r X2 hp => ?_)
  refine lx_aload F 1 dl_960 rfl rfl ?_
  refine lx_callMi F (as := []) dl_961 ll_120 ⟨_, _, rfl⟩ rfl rfl (Nat.le_of_ble_eq_true rfl) ⟨by decide, by decide⟩ lx_v0 hp (fun r2 Y2 hp2 => ?_)
  obtain ⟨rfl, hJ⟩ := hp2
  exact lx_eqi F (tgt := 1019) dl_964 (by decide) (k _ _ hJ)
theorem lc_restore (F : lx_F p s m meth c b L xs D ca aX aM) (hi : i + 8 ≤ L) (hL : L ≤ 4096) (hq : kX_restore [.inr (.inr 0)] X (fun r X2 => kM_restore [.inr (.inr 0)] Y (fun r2 Y2 => r2 = r ∧ J X2 Y2))) (k : ∀ X2 Y2, J X2 Y2 → lx_J p l e s m below meth c b D ca aX aM 1019 (lx_ls b aX aM i) [] X2 Y2) : lx_J p l e s m below meth c b D ca aX aM 969 (lx_ls b aX aM i) [] X Y := by
  refine lx_aload F 2 dl_969 rfl rfl ?_
  refine lx_callXi F (as := []) dl_970 ll_121 ⟨_, _, rfl⟩ rfl rfl (Nat.le_of_ble_eq_true rfl) ⟨by decide, by decide⟩ lx_v0 hq (fun r X2 hp => ?_)
  refine lx_aload F 1 dl_973 rfl rfl ?_
  refine lx_callMi F (as := []) dl_974 ll_124 ⟨_, _, rfl⟩ rfl rfl (Nat.le_of_ble_eq_true rfl) ⟨by decide, by decide⟩ lx_v0 hp (fun r2 Y2 hp2 => ?_)
  obtain ⟨rfl, hJ⟩ := hp2
  exact lx_eqi F (tgt := 1019) dl_977 (by decide) (k _ _ hJ)
theorem lc_count (F : lx_F p s m meth c b L xs D ca aX aM) (hi : i + 8 ≤ L) (hL : L ≤ 4096) (hq : kX_count [.inr (.inr 0), .inl (xs (i + 1)).toInt] X (fun r X2 => kM_count [.inr (.inr 0), .inl (xs (i + 1)).toInt] Y (fun r2 Y2 => r2 = r ∧ J X2 Y2))) (k : ∀ X2 Y2, J X2 Y2 → lx_J p l e s m below meth c b D ca aX aM 1019 (lx_ls b aX aM i) [] X2 Y2) : lx_J p l e s m below meth c b D ca aX aM 982 (lx_ls b aX aM i) [] X Y := by
  refine lx_aload F 2 dl_982 rfl rfl ?_
  refine lx_sc F hi hL (k := 1) (by decide) rfl dl_983 dl_984 dl_985 dl_986 dl_987 ?_
  refine lx_callXi F (as := [.inl (xs (i + 1)).toInt]) dl_988 ll_125 ⟨_, _, rfl⟩ rfl rfl (Nat.le_of_ble_eq_true rfl) ⟨by decide, by decide⟩ (ax_cc (v := .inl (xs (i + 1)).toInt) (lx_r _) lx_v0) hq (fun r X2 hp => ?_)
  refine lx_aload F 1 dl_991 rfl rfl ?_
  refine lx_sc F hi hL (k := 1) (by decide) rfl dl_992 dl_993 dl_994 dl_995 dl_996 ?_
  refine lx_callMi F (as := [.inl (xs (i + 1)).toInt]) dl_997 ll_128 ⟨_, _, rfl⟩ rfl rfl (Nat.le_of_ble_eq_true rfl) ⟨by decide, by decide⟩ (ax_cc (v := .inl (xs (i + 1)).toInt) (lx_r _) lx_v0) hp (fun r2 Y2 hp2 => ?_)
  obtain ⟨rfl, hJ⟩ := hp2
  exact lx_eqi F (tgt := 1019) dl_1000 (by decide) (k _ _ hJ)
theorem lc_digest (F : lx_F p s m meth c b L xs D ca aX aM) (hi : i + 8 ≤ L) (hL : L ≤ 4096) (hq : kX_digest [.inr (.inr 0)] X (fun r X2 => kM_digest [.inr (.inr 0)] Y (fun r2 Y2 => r2 = r ∧ J X2 Y2))) (k : ∀ X2 Y2, J X2 Y2 → lx_J p l e s m below meth c b D ca aX aM 1019 (lx_ls b aX aM i) [] X2 Y2) : lx_J p l e s m below meth c b D ca aX aM 1005 (lx_ls b aX aM i) [] X Y := by
  refine lx_aload F 2 dl_1005 rfl rfl ?_
  refine lx_callXl F (as := []) dl_1006 ll_129 ⟨_, _, rfl⟩ rfl rfl (Nat.le_of_ble_eq_true rfl) ⟨by decide, by decide⟩ lx_v0 hq (fun r X2 hp => ?_)
  refine lx_aload F 1 dl_1009 rfl rfl ?_
  refine lx_callMl F (as := []) dl_1010 ll_133 ⟨_, _, rfl⟩ rfl rfl (Nat.le_of_ble_eq_true rfl) ⟨by decide, by decide⟩ lx_v0 hp (fun r2 Y2 hp2 => ?_)
  obtain ⟨rfl, hJ⟩ := hp2
  exact lx_eql F (tgt := 1019) dl_1013 dl_1014 (by decide) (k _ _ hJ)
end LC
end
