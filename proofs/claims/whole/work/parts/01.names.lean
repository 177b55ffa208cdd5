-- ===== PART A: goes FIRST, ahead of the names: the tables' words, and 'selects' of the private methods out of them =====
/-- a private method of a class that the tables say can be made, by its rows of tables_1 -/
def lw_okq (q : MethodName × Nat) : Prop := (q.1.cls ≠ "java/lang/invoke/MethodHandle" ∧ q.1.cls ≠ "java/lang/invoke/VarHandle") ∧ Cond.instantiable q.1.cls q.2 ∈ tables_1 ∧ Cond.privateMethod q.1 ∈ tables_1 ∧ Cond.instanceMethod q.1 ∈ tables_1
theorem lw_p0 : lw_okq (⟨"SeeSawForFive", "refuse", "(I)I"⟩, 15) := ⟨⟨by decide +kernel, by decide +kernel⟩, List.mem_of_getElem? (i := 18) (by decide +kernel), List.mem_of_getElem? (i := 299) (by decide +kernel), List.mem_of_getElem? (i := 300) (by decide +kernel)⟩
theorem lw_p1 : lw_okq (⟨"SeeSawForFive", "readBoard", "()I"⟩, 15) := ⟨⟨by decide +kernel, by decide +kernel⟩, List.mem_of_getElem? (i := 18) (by decide +kernel), List.mem_of_getElem? (i := 316) (by decide +kernel), List.mem_of_getElem? (i := 317) (by decide +kernel)⟩
theorem lw_p2 : lw_okq (⟨"SeeSawForFive$Text", "here", "()I"⟩, 5) := ⟨⟨by decide +kernel, by decide +kernel⟩, List.mem_of_getElem? (i := 26) (by decide +kernel), List.mem_of_getElem? (i := 328) (by decide +kernel), List.mem_of_getElem? (i := 329) (by decide +kernel)⟩
theorem lw_p3 : lw_okq (⟨"SeeSawForFive$Text", "readNumber", "()I"⟩, 5) := ⟨⟨by decide +kernel, by decide +kernel⟩, List.mem_of_getElem? (i := 26) (by decide +kernel), List.mem_of_getElem? (i := 392) (by decide +kernel), List.mem_of_getElem? (i := 393) (by decide +kernel)⟩
theorem lw_p4 : lw_okq (⟨"SeeSawForFive$Text", "readSign", "(C)I"⟩, 5) := ⟨⟨by decide +kernel, by decide +kernel⟩, List.mem_of_getElem? (i := 26) (by decide +kernel), List.mem_of_getElem? (i := 399) (by decide +kernel), List.mem_of_getElem? (i := 400) (by decide +kernel)⟩
theorem lw_p5 : lw_okq (⟨"SeeSawForFive$Board", "takesLength", "(II)Z"⟩, 8) := ⟨⟨by decide +kernel, by decide +kernel⟩, List.mem_of_getElem? (i := 53) (by decide +kernel), List.mem_of_getElem? (i := 424) (by decide +kernel), List.mem_of_getElem? (i := 425) (by decide +kernel)⟩
theorem lw_p6 : lw_okq (⟨"SeeSawForFive$Board", "takesNotch", "(I)Z"⟩, 8) := ⟨⟨by decide +kernel, by decide +kernel⟩, List.mem_of_getElem? (i := 53) (by decide +kernel), List.mem_of_getElem? (i := 431) (by decide +kernel), List.mem_of_getElem? (i := 432) (by decide +kernel)⟩
theorem lw_p7 : lw_okq (⟨"SeeSawForFive$Board", "takesChild", "(III)Z"⟩, 8) := ⟨⟨by decide +kernel, by decide +kernel⟩, List.mem_of_getElem? (i := 53) (by decide +kernel), List.mem_of_getElem? (i := 435) (by decide +kernel), List.mem_of_getElem? (i := 436) (by decide +kernel)⟩
theorem lw_p8 : lw_okq (⟨"SeeSawForFive$Board", "takesSeat", "(II)Z"⟩, 8) := ⟨⟨by decide +kernel, by decide +kernel⟩, List.mem_of_getElem? (i := 53) (by decide +kernel), List.mem_of_getElem? (i := 439) (by decide +kernel), List.mem_of_getElem? (i := 440) (by decide +kernel)⟩
theorem lw_p9 : lw_okq (⟨"SeeSawForFive$Board", "takesOff", "(I)Z"⟩, 8) := ⟨⟨by decide +kernel, by decide +kernel⟩, List.mem_of_getElem? (i := 53) (by decide +kernel), List.mem_of_getElem? (i := 455) (by decide +kernel), List.mem_of_getElem? (i := 456) (by decide +kernel)⟩
theorem lw_p10 : lw_okq (⟨"SeeSawForFive", "refuseApart", "(I)I"⟩, 15) := ⟨⟨by decide +kernel, by decide +kernel⟩, List.mem_of_getElem? (i := 18) (by decide +kernel), List.mem_of_getElem? (i := 477) (by decide +kernel), List.mem_of_getElem? (i := 478) (by decide +kernel)⟩
theorem lw_p11 : lw_okq (⟨"SeeSawForFive$Board", "ownTurnBy", "(I)I"⟩, 8) := ⟨⟨by decide +kernel, by decide +kernel⟩, List.mem_of_getElem? (i := 53) (by decide +kernel), List.mem_of_getElem? (i := 508) (by decide +kernel), List.mem_of_getElem? (i := 509) (by decide +kernel)⟩
theorem lw_p12 : lw_okq (⟨"SeeSawForFive$Placings", "goThrough", "(III)V"⟩, 9) := ⟨⟨by decide +kernel, by decide +kernel⟩, List.mem_of_getElem? (i := 157) (by decide +kernel), List.mem_of_getElem? (i := 560) (by decide +kernel), List.mem_of_getElem? (i := 561) (by decide +kernel)⟩
theorem lw_p13 : lw_okq (⟨"SeeSawForFive$Placings", "weigh", "(I)V"⟩, 9) := ⟨⟨by decide +kernel, by decide +kernel⟩, List.mem_of_getElem? (i := 157) (by decide +kernel), List.mem_of_getElem? (i := 564) (by decide +kernel), List.mem_of_getElem? (i := 565) (by decide +kernel)⟩
theorem lw_p14 : lw_okq (⟨"SeeSawForFive$Orders", "goThrough", "(IIII)V"⟩, 8) := ⟨⟨by decide +kernel, by decide +kernel⟩, List.mem_of_getElem? (i := 196) (by decide +kernel), List.mem_of_getElem? (i := 605) (by decide +kernel), List.mem_of_getElem? (i := 606) (by decide +kernel)⟩
theorem lw_p15 : lw_okq (⟨"SeeSawForFive$Orders", "hear", "(I)V"⟩, 8) := ⟨⟨by decide +kernel, by decide +kernel⟩, List.mem_of_getElem? (i := 196) (by decide +kernel), List.mem_of_getElem? (i := 609) (by decide +kernel), List.mem_of_getElem? (i := 610) (by decide +kernel)⟩
def lw_privs_1 : List (MethodName × Nat) := [(⟨"SeeSawForFive", "refuse", "(I)I"⟩, 15), (⟨"SeeSawForFive", "readBoard", "()I"⟩, 15), (⟨"SeeSawForFive$Text", "here", "()I"⟩, 5), (⟨"SeeSawForFive$Text", "readNumber", "()I"⟩, 5), (⟨"SeeSawForFive$Text", "readSign", "(C)I"⟩, 5), (⟨"SeeSawForFive$Board", "takesLength", "(II)Z"⟩, 8), (⟨"SeeSawForFive$Board", "takesNotch", "(I)Z"⟩, 8), (⟨"SeeSawForFive$Board", "takesChild", "(III)Z"⟩, 8), (⟨"SeeSawForFive$Board", "takesSeat", "(II)Z"⟩, 8), (⟨"SeeSawForFive$Board", "takesOff", "(I)Z"⟩, 8), (⟨"SeeSawForFive", "refuseApart", "(I)I"⟩, 15), (⟨"SeeSawForFive$Board", "ownTurnBy", "(I)I"⟩, 8), (⟨"SeeSawForFive$Placings", "goThrough", "(III)V"⟩, 9), (⟨"SeeSawForFive$Placings", "weigh", "(I)V"⟩, 9), (⟨"SeeSawForFive$Orders", "goThrough", "(IIII)V"⟩, 8), (⟨"SeeSawForFive$Orders", "hear", "(I)V"⟩, 8)]
theorem lw_r1 : ∀ q ∈ lw_privs_1, lw_okq q := List.forall_mem_cons.mpr ⟨lw_p0, List.forall_mem_cons.mpr ⟨lw_p1, List.forall_mem_cons.mpr ⟨lw_p2, List.forall_mem_cons.mpr ⟨lw_p3, List.forall_mem_cons.mpr ⟨lw_p4, List.forall_mem_cons.mpr ⟨lw_p5, List.forall_mem_cons.mpr ⟨lw_p6, List.forall_mem_cons.mpr ⟨lw_p7, List.forall_mem_cons.mpr ⟨lw_p8, List.forall_mem_cons.mpr ⟨lw_p9, List.forall_mem_cons.mpr ⟨lw_p10, List.forall_mem_cons.mpr ⟨lw_p11, List.forall_mem_cons.mpr ⟨lw_p12, List.forall_mem_cons.mpr ⟨lw_p13, List.forall_mem_cons.mpr ⟨lw_p14, List.forall_mem_cons.mpr ⟨lw_p15, fun _ h => absurd h List.not_mem_nil⟩⟩⟩⟩⟩⟩⟩⟩⟩⟩⟩⟩⟩⟩⟩⟩
theorem lw_p16 : lw_okq (⟨"SeeSawForFive$Goes", "fit", "(LSeeSawForFive$Board;I)Z"⟩, 10) := ⟨⟨by decide +kernel, by decide +kernel⟩, List.mem_of_getElem? (i := 95) (by decide +kernel), List.mem_of_getElem? (i := 653) (by decide +kernel), List.mem_of_getElem? (i := 654) (by decide +kernel)⟩
theorem lw_p17 : lw_okq (⟨"SeeSawForFive$Goes", "greatestPart", "(II)I"⟩, 10) := ⟨⟨by decide +kernel, by decide +kernel⟩, List.mem_of_getElem? (i := 95) (by decide +kernel), List.mem_of_getElem? (i := 669) (by decide +kernel), List.mem_of_getElem? (i := 670) (by decide +kernel)⟩
theorem lw_p18 : lw_okq (⟨"SeeSawForFive", "lookAtRow", "()I"⟩, 15) := ⟨⟨by decide +kernel, by decide +kernel⟩, List.mem_of_getElem? (i := 18) (by decide +kernel), List.mem_of_getElem? (i := 801) (by decide +kernel), List.mem_of_getElem? (i := 802) (by decide +kernel)⟩
theorem lw_p19 : lw_okq (⟨"SeeSawForFiveModel", "refuse", "(I)I"⟩, 23) := ⟨⟨by decide +kernel, by decide +kernel⟩, List.mem_of_getElem? (i := 832) (by decide +kernel), List.mem_of_getElem? (i := 915) (by decide +kernel), List.mem_of_getElem? (i := 916) (by decide +kernel)⟩
theorem lw_p20 : lw_okq (⟨"SeeSawForFiveModel", "reads", "()I"⟩, 23) := ⟨⟨by decide +kernel, by decide +kernel⟩, List.mem_of_getElem? (i := 832) (by decide +kernel), List.mem_of_getElem? (i := 923) (by decide +kernel), List.mem_of_getElem? (i := 924) (by decide +kernel)⟩
theorem lw_p21 : lw_okq (⟨"SeeSawForFiveModel", "readsStatement", "()Z"⟩, 23) := ⟨⟨by decide +kernel, by decide +kernel⟩, List.mem_of_getElem? (i := 832) (by decide +kernel), List.mem_of_getElem? (i := 927) (by decide +kernel), List.mem_of_getElem? (i := 928) (by decide +kernel)⟩
theorem lw_p22 : lw_okq (⟨"SeeSawForFiveModel", "sign", "()I"⟩, 23) := ⟨⟨by decide +kernel, by decide +kernel⟩, List.mem_of_getElem? (i := 832) (by decide +kernel), List.mem_of_getElem? (i := 931) (by decide +kernel), List.mem_of_getElem? (i := 932) (by decide +kernel)⟩
theorem lw_p23 : lw_okq (⟨"SeeSawForFiveModel", "readsNumber", "(II)Z"⟩, 23) := ⟨⟨by decide +kernel, by decide +kernel⟩, List.mem_of_getElem? (i := 832) (by decide +kernel), List.mem_of_getElem? (i := 935) (by decide +kernel), List.mem_of_getElem? (i := 936) (by decide +kernel)⟩
theorem lw_p24 : lw_okq (⟨"SeeSawForFiveModel", "takes", "(I)Z"⟩, 23) := ⟨⟨by decide +kernel, by decide +kernel⟩, List.mem_of_getElem? (i := 832) (by decide +kernel), List.mem_of_getElem? (i := 939) (by decide +kernel), List.mem_of_getElem? (i := 940) (by decide +kernel)⟩
theorem lw_p25 : lw_okq (⟨"SeeSawForFiveModel", "readsKind", "()Z"⟩, 23) := ⟨⟨by decide +kernel, by decide +kernel⟩, List.mem_of_getElem? (i := 832) (by decide +kernel), List.mem_of_getElem? (i := 943) (by decide +kernel), List.mem_of_getElem? (i := 944) (by decide +kernel)⟩
theorem lw_p26 : lw_okq (⟨"SeeSawForFiveModel", "readsSide", "()Z"⟩, 23) := ⟨⟨by decide +kernel, by decide +kernel⟩, List.mem_of_getElem? (i := 832) (by decide +kernel), List.mem_of_getElem? (i := 950) (by decide +kernel), List.mem_of_getElem? (i := 951) (by decide +kernel)⟩
theorem lw_p27 : lw_okq (⟨"SeeSawForFiveModel", "comes", "(I)Z"⟩, 23) := ⟨⟨by decide +kernel, by decide +kernel⟩, List.mem_of_getElem? (i := 832) (by decide +kernel), List.mem_of_getElem? (i := 957) (by decide +kernel), List.mem_of_getElem? (i := 958) (by decide +kernel)⟩
theorem lw_p28 : lw_okq (⟨"SeeSawForFiveModel", "readSeat", "(I)I"⟩, 23) := ⟨⟨by decide +kernel, by decide +kernel⟩, List.mem_of_getElem? (i := 832) (by decide +kernel), List.mem_of_getElem? (i := 961) (by decide +kernel), List.mem_of_getElem? (i := 962) (by decide +kernel)⟩
theorem lw_p29 : lw_okq (⟨"SeeSawForFiveModel", "isKid", "(I)Z"⟩, 23) := ⟨⟨by decide +kernel, by decide +kernel⟩, List.mem_of_getElem? (i := 832) (by decide +kernel), List.mem_of_getElem? (i := 972) (by decide +kernel), List.mem_of_getElem? (i := 973) (by decide +kernel)⟩
theorem lw_p30 : lw_okq (⟨"SeeSawForFiveModel", "kid", "(II)I"⟩, 23) := ⟨⟨by decide +kernel, by decide +kernel⟩, List.mem_of_getElem? (i := 832) (by decide +kernel), List.mem_of_getElem? (i := 979) (by decide +kernel), List.mem_of_getElem? (i := 980) (by decide +kernel)⟩
theorem lw_p31 : lw_okq (⟨"SeeSawForFiveModel", "seatOf", "(I)I"⟩, 23) := ⟨⟨by decide +kernel, by decide +kernel⟩, List.mem_of_getElem? (i := 832) (by decide +kernel), List.mem_of_getElem? (i := 988) (by decide +kernel), List.mem_of_getElem? (i := 989) (by decide +kernel)⟩
def lw_privs_2 : List (MethodName × Nat) := [(⟨"SeeSawForFive$Goes", "fit", "(LSeeSawForFive$Board;I)Z"⟩, 10), (⟨"SeeSawForFive$Goes", "greatestPart", "(II)I"⟩, 10), (⟨"SeeSawForFive", "lookAtRow", "()I"⟩, 15), (⟨"SeeSawForFiveModel", "refuse", "(I)I"⟩, 23), (⟨"SeeSawForFiveModel", "reads", "()I"⟩, 23), (⟨"SeeSawForFiveModel", "readsStatement", "()Z"⟩, 23), (⟨"SeeSawForFiveModel", "sign", "()I"⟩, 23), (⟨"SeeSawForFiveModel", "readsNumber", "(II)Z"⟩, 23), (⟨"SeeSawForFiveModel", "takes", "(I)Z"⟩, 23), (⟨"SeeSawForFiveModel", "readsKind", "()Z"⟩, 23), (⟨"SeeSawForFiveModel", "readsSide", "()Z"⟩, 23), (⟨"SeeSawForFiveModel", "comes", "(I)Z"⟩, 23), (⟨"SeeSawForFiveModel", "readSeat", "(I)I"⟩, 23), (⟨"SeeSawForFiveModel", "isKid", "(I)Z"⟩, 23), (⟨"SeeSawForFiveModel", "kid", "(II)I"⟩, 23), (⟨"SeeSawForFiveModel", "seatOf", "(I)I"⟩, 23)]
theorem lw_r2 : ∀ q ∈ lw_privs_2, lw_okq q := List.forall_mem_cons.mpr ⟨lw_p16, List.forall_mem_cons.mpr ⟨lw_p17, List.forall_mem_cons.mpr ⟨lw_p18, List.forall_mem_cons.mpr ⟨lw_p19, List.forall_mem_cons.mpr ⟨lw_p20, List.forall_mem_cons.mpr ⟨lw_p21, List.forall_mem_cons.mpr ⟨lw_p22, List.forall_mem_cons.mpr ⟨lw_p23, List.forall_mem_cons.mpr ⟨lw_p24, List.forall_mem_cons.mpr ⟨lw_p25, List.forall_mem_cons.mpr ⟨lw_p26, List.forall_mem_cons.mpr ⟨lw_p27, List.forall_mem_cons.mpr ⟨lw_p28, List.forall_mem_cons.mpr ⟨lw_p29, List.forall_mem_cons.mpr ⟨lw_p30, List.forall_mem_cons.mpr ⟨lw_p31, fun _ h => absurd h List.not_mem_nil⟩⟩⟩⟩⟩⟩⟩⟩⟩⟩⟩⟩⟩⟩⟩⟩
theorem lw_p32 : lw_okq (⟨"SeeSawForFiveModel", "isSeat", "(I)Z"⟩, 23) := ⟨⟨by decide +kernel, by decide +kernel⟩, List.mem_of_getElem? (i := 832) (by decide +kernel), List.mem_of_getElem? (i := 996) (by decide +kernel), List.mem_of_getElem? (i := 997) (by decide +kernel)⟩
theorem lw_p33 : lw_okq (⟨"SeeSawForFiveModel", "whoSits", "(I)I"⟩, 23) := ⟨⟨by decide +kernel, by decide +kernel⟩, List.mem_of_getElem? (i := 832) (by decide +kernel), List.mem_of_getElem? (i := 1000) (by decide +kernel), List.mem_of_getElem? (i := 1001) (by decide +kernel)⟩
theorem lw_p34 : lw_okq (⟨"SeeSawForFiveModel", "sumNow", "()I"⟩, 23) := ⟨⟨by decide +kernel, by decide +kernel⟩, List.mem_of_getElem? (i := 832) (by decide +kernel), List.mem_of_getElem? (i := 1012) (by decide +kernel), List.mem_of_getElem? (i := 1013) (by decide +kernel)⟩
theorem lw_p35 : lw_okq (⟨"SeeSawForFiveModel", "bare", "(I)I"⟩, 23) := ⟨⟨by decide +kernel, by decide +kernel⟩, List.mem_of_getElem? (i := 832) (by decide +kernel), List.mem_of_getElem? (i := 1016) (by decide +kernel), List.mem_of_getElem? (i := 1017) (by decide +kernel)⟩
theorem lw_p36 : lw_okq (⟨"SeeSawForFiveModel", "turnOf", "(II)I"⟩, 23) := ⟨⟨by decide +kernel, by decide +kernel⟩, List.mem_of_getElem? (i := 832) (by decide +kernel), List.mem_of_getElem? (i := 1020) (by decide +kernel), List.mem_of_getElem? (i := 1021) (by decide +kernel)⟩
theorem lw_p37 : lw_okq (⟨"SeeSawForFiveModel", "armOf", "(I)I"⟩, 23) := ⟨⟨by decide +kernel, by decide +kernel⟩, List.mem_of_getElem? (i := 832) (by decide +kernel), List.mem_of_getElem? (i := 1024) (by decide +kernel), List.mem_of_getElem? (i := 1025) (by decide +kernel)⟩
theorem lw_p38 : lw_okq (⟨"SeeSawForFiveModel", "turnBy", "(III)I"⟩, 23) := ⟨⟨by decide +kernel, by decide +kernel⟩, List.mem_of_getElem? (i := 832) (by decide +kernel), List.mem_of_getElem? (i := 1028) (by decide +kernel), List.mem_of_getElem? (i := 1029) (by decide +kernel)⟩
theorem lw_p39 : lw_okq (⟨"SeeSawForFiveModel", "findsPlacings", "()V"⟩, 23) := ⟨⟨by decide +kernel, by decide +kernel⟩, List.mem_of_getElem? (i := 832) (by decide +kernel), List.mem_of_getElem? (i := 1043) (by decide +kernel), List.mem_of_getElem? (i := 1044) (by decide +kernel)⟩
theorem lw_p40 : lw_okq (⟨"SeeSawForFiveModel", "places", "(II)V"⟩, 23) := ⟨⟨by decide +kernel, by decide +kernel⟩, List.mem_of_getElem? (i := 832) (by decide +kernel), List.mem_of_getElem? (i := 1047) (by decide +kernel), List.mem_of_getElem? (i := 1048) (by decide +kernel)⟩
theorem lw_p41 : lw_okq (⟨"SeeSawForFiveModel", "findsOrders", "(I)V"⟩, 23) := ⟨⟨by decide +kernel, by decide +kernel⟩, List.mem_of_getElem? (i := 832) (by decide +kernel), List.mem_of_getElem? (i := 1071) (by decide +kernel), List.mem_of_getElem? (i := 1072) (by decide +kernel)⟩
theorem lw_p42 : lw_okq (⟨"SeeSawForFiveModel", "gets", "(IIIII)V"⟩, 23) := ⟨⟨by decide +kernel, by decide +kernel⟩, List.mem_of_getElem? (i := 832) (by decide +kernel), List.mem_of_getElem? (i := 1075) (by decide +kernel), List.mem_of_getElem? (i := 1076) (by decide +kernel)⟩
theorem lw_p43 : lw_okq (⟨"SeeSawForFiveModel", "sitters", "()I"⟩, 23) := ⟨⟨by decide +kernel, by decide +kernel⟩, List.mem_of_getElem? (i := 832) (by decide +kernel), List.mem_of_getElem? (i := 1079) (by decide +kernel), List.mem_of_getElem? (i := 1080) (by decide +kernel)⟩
theorem lw_p44 : lw_okq (⟨"SeeSawForFiveModel", "fits", "(I)Z"⟩, 23) := ⟨⟨by decide +kernel, by decide +kernel⟩, List.mem_of_getElem? (i := 832) (by decide +kernel), List.mem_of_getElem? (i := 1099) (by decide +kernel), List.mem_of_getElem? (i := 1100) (by decide +kernel)⟩
theorem lw_p45 : lw_okq (⟨"SeeSawForFiveModel", "downWith", "(IIII)I"⟩, 23) := ⟨⟨by decide +kernel, by decide +kernel⟩, List.mem_of_getElem? (i := 832) (by decide +kernel), List.mem_of_getElem? (i := 1103) (by decide +kernel), List.mem_of_getElem? (i := 1104) (by decide +kernel)⟩
theorem lw_p46 : lw_okq (⟨"SeeSawForFiveModel", "greatestPart", "(III)I"⟩, 23) := ⟨⟨by decide +kernel, by decide +kernel⟩, List.mem_of_getElem? (i := 832) (by decide +kernel), List.mem_of_getElem? (i := 1111) (by decide +kernel), List.mem_of_getElem? (i := 1112) (by decide +kernel)⟩
theorem lw_p47 : lw_okq (⟨"SeeSawForFiveModel", "inertiaNow", "()I"⟩, 23) := ⟨⟨by decide +kernel, by decide +kernel⟩, List.mem_of_getElem? (i := 832) (by decide +kernel), List.mem_of_getElem? (i := 1119) (by decide +kernel), List.mem_of_getElem? (i := 1120) (by decide +kernel)⟩
def lw_privs_3 : List (MethodName × Nat) := [(⟨"SeeSawForFiveModel", "isSeat", "(I)Z"⟩, 23), (⟨"SeeSawForFiveModel", "whoSits", "(I)I"⟩, 23), (⟨"SeeSawForFiveModel", "sumNow", "()I"⟩, 23), (⟨"SeeSawForFiveModel", "bare", "(I)I"⟩, 23), (⟨"SeeSawForFiveModel", "turnOf", "(II)I"⟩, 23), (⟨"SeeSawForFiveModel", "armOf", "(I)I"⟩, 23), (⟨"SeeSawForFiveModel", "turnBy", "(III)I"⟩, 23), (⟨"SeeSawForFiveModel", "findsPlacings", "()V"⟩, 23), (⟨"SeeSawForFiveModel", "places", "(II)V"⟩, 23), (⟨"SeeSawForFiveModel", "findsOrders", "(I)V"⟩, 23), (⟨"SeeSawForFiveModel", "gets", "(IIIII)V"⟩, 23), (⟨"SeeSawForFiveModel", "sitters", "()I"⟩, 23), (⟨"SeeSawForFiveModel", "fits", "(I)Z"⟩, 23), (⟨"SeeSawForFiveModel", "downWith", "(IIII)I"⟩, 23), (⟨"SeeSawForFiveModel", "greatestPart", "(III)I"⟩, 23), (⟨"SeeSawForFiveModel", "inertiaNow", "()I"⟩, 23)]
theorem lw_r3 : ∀ q ∈ lw_privs_3, lw_okq q := List.forall_mem_cons.mpr ⟨lw_p32, List.forall_mem_cons.mpr ⟨lw_p33, List.forall_mem_cons.mpr ⟨lw_p34, List.forall_mem_cons.mpr ⟨lw_p35, List.forall_mem_cons.mpr ⟨lw_p36, List.forall_mem_cons.mpr ⟨lw_p37, List.forall_mem_cons.mpr ⟨lw_p38, List.forall_mem_cons.mpr ⟨lw_p39, List.forall_mem_cons.mpr ⟨lw_p40, List.forall_mem_cons.mpr ⟨lw_p41, List.forall_mem_cons.mpr ⟨lw_p42, List.forall_mem_cons.mpr ⟨lw_p43, List.forall_mem_cons.mpr ⟨lw_p44, List.forall_mem_cons.mpr ⟨lw_p45, List.forall_mem_cons.mpr ⟨lw_p46, List.forall_mem_cons.mpr ⟨lw_p47, fun _ h => absurd h List.not_mem_nil⟩⟩⟩⟩⟩⟩⟩⟩⟩⟩⟩⟩⟩⟩⟩⟩
theorem lw_p48 : lw_okq (⟨"SeeSawForFiveModel", "more", "()I"⟩, 23) := ⟨⟨by decide +kernel, by decide +kernel⟩, List.mem_of_getElem? (i := 832) (by decide +kernel), List.mem_of_getElem? (i := 1127) (by decide +kernel), List.mem_of_getElem? (i := 1128) (by decide +kernel)⟩
theorem lw_p49 : lw_okq (⟨"SeeSawForFiveModel", "goesTenth", "(I)V"⟩, 23) := ⟨⟨by decide +kernel, by decide +kernel⟩, List.mem_of_getElem? (i := 832) (by decide +kernel), List.mem_of_getElem? (i := 1131) (by decide +kernel), List.mem_of_getElem? (i := 1132) (by decide +kernel)⟩
theorem lw_p50 : lw_okq (⟨"SeeSawForFiveModel", "legsOn", "(I)I"⟩, 23) := ⟨⟨by decide +kernel, by decide +kernel⟩, List.mem_of_getElem? (i := 832) (by decide +kernel), List.mem_of_getElem? (i := 1139) (by decide +kernel), List.mem_of_getElem? (i := 1140) (by decide +kernel)⟩
def lw_privs_4 : List (MethodName × Nat) := [(⟨"SeeSawForFiveModel", "more", "()I"⟩, 23), (⟨"SeeSawForFiveModel", "goesTenth", "(I)V"⟩, 23), (⟨"SeeSawForFiveModel", "legsOn", "(I)I"⟩, 23)]
theorem lw_r4 : ∀ q ∈ lw_privs_4, lw_okq q := List.forall_mem_cons.mpr ⟨lw_p48, List.forall_mem_cons.mpr ⟨lw_p49, List.forall_mem_cons.mpr ⟨lw_p50, fun _ h => absurd h List.not_mem_nil⟩⟩⟩
def lw_privs : List (MethodName × Nat) := lw_privs_1 ++ (lw_privs_2 ++ (lw_privs_3 ++ (lw_privs_4)))
def lw_tbl : List Cond := k2_sels lw_privs ++ tables_1
theorem lw_privs_ok : ∀ q ∈ lw_privs, lw_okq q := by
  show ∀ q ∈ lw_privs_1 ++ (lw_privs_2 ++ (lw_privs_3 ++ (lw_privs_4))), lw_okq q
  exact List.forall_mem_append.mpr ⟨lw_r1, List.forall_mem_append.mpr ⟨lw_r2, List.forall_mem_append.mpr ⟨lw_r3, lw_r4⟩⟩⟩
/-! ===== BEGIN words of one list among another's, by their places ===== -/
theorem goodIn_r {big : List Cond} (ws : List Cond) (ps : List Nat) (hp : ws = ps.filterMap (fun i => big[i]?)) (h : ws.all goodWord = true) : GoodIn big ws := by
  intro w hw
  have h1 := List.all_eq_true.mp h w hw
  rw [hp] at hw
  obtain ⟨i, -, hi⟩ := List.mem_filterMap.mp hw
  have hm : w ∈ big := by first | exact List.mem_of_getElem? hi | exact List.getElem?_mem hi
  exact ⟨hm, good_of_word h1⟩
theorem goodIn_app {big a b : List Cond} (ha : GoodIn big a) (hb : GoodIn big b) : GoodIn big (a ++ b) := fun w h => (List.mem_append.mp h).elim (ha w) (hb w)
theorem goodIn_ca {big a b : List Cond} {c : Cond} (ha : GoodIn big (c :: a)) (hb : GoodIn big b) : GoodIn big (c :: (a ++ b)) := fun w h => (List.mem_cons.mp h).elim (fun e => ha w (List.mem_cons.mpr (Or.inl e))) (fun h => (List.mem_append.mp h).elim (fun h => ha w (List.mem_cons.mpr (Or.inr h))) (hb w))
theorem goodIn_sub {big ws : List Cond} (hm : ∀ w ∈ ws, w ∈ big) (h : ws.all goodWord = true) : GoodIn big ws := fun w hw => ⟨hm w hw, good_of_word (List.all_eq_true.mp h w hw)⟩
/-! ===== END ===== -/

def RX0 : String := "SeeSawForFive$Board"
def TX0 : u_T := fun k => match k with
  | 0 => ("SeeSawForFive$Board", "length", "I", false)
  | 1 => ("SeeSawForFive$Board", "own", "I", false)
  | 2 => ("SeeSawForFive$Board", "notch", "I", false)
  | 3 => ("SeeSawForFive$Board", "children", "I", false)
  | 4 => ("SeeSawForFive$Board", "kinds", "[I", true)
  | 5 => ("SeeSawForFive$Board", "weights", "[I", true)
  | 6 => ("SeeSawForFive$Board", "legs", "[I", true)
  | _ => ("SeeSawForFive$Board", "feet", "[I", true)
def tyX0 : Nat → FieldType := fun k => match k with
  | 0 => .int
  | 1 => .int
  | 2 => .int
  | 3 => .int
  | 4 => .array .int
  | 5 => .array .int
  | 6 => .array .int
  | _ => .array .int
abbrev wsX00 : List Cond := u_ws RX0 TX0 8
theorem nmX0 : ∀ a, a < 8 → ∀ b, b < 8 → a ≠ b → (TX0 a).2.1 ≠ (TX0 b).2.1 := by decide +kernel
theorem tyX0_ok : ∀ k, k < 8 → parseFieldDescriptor (TX0 k).2.2.1 = some (tyX0 k) := by decide +kernel
abbrev cX0_init : ByteArray := prog_2_method_1_code
def yX0_init : MethodName := ⟨RX0, "<init>", "()V"⟩
abbrev cX0_become : ByteArray := prog_2_method_2_code
def yX0_become : MethodName := ⟨RX0, "become", "(LSeeSawForFive$Board;)V"⟩
abbrev cX0_hasChild : ByteArray := prog_2_method_3_code
def yX0_hasChild : MethodName := ⟨RX0, "hasChild", "(I)Z"⟩
abbrev cX0_hasSeat : ByteArray := prog_2_method_4_code
def yX0_hasSeat : MethodName := ⟨RX0, "hasSeat", "(I)Z"⟩
abbrev cX0_sits : ByteArray := prog_2_method_5_code
def yX0_sits : MethodName := ⟨RX0, "sits", "(I)Z"⟩
abbrev cX0_isTaken : ByteArray := prog_2_method_6_code
def yX0_isTaken : MethodName := ⟨RX0, "isTaken", "(I)Z"⟩
abbrev cX0_isTakenByOther : ByteArray := prog_2_method_7_code
def yX0_isTakenByOther : MethodName := ⟨RX0, "isTakenByOther", "(II)Z"⟩
abbrev cX0_sitters : ByteArray := prog_2_method_8_code
def yX0_sitters : MethodName := ⟨RX0, "sitters", "()I"⟩
abbrev cX0_seatsMany : ByteArray := prog_2_method_9_code
def yX0_seatsMany : MethodName := ⟨RX0, "seatsMany", "()I"⟩
abbrev cX0_seatFromLeft : ByteArray := prog_2_method_10_code
def yX0_seatFromLeft : MethodName := ⟨RX0, "seatFromLeft", "(I)I"⟩
abbrev cX0_armOf : ByteArray := prog_2_method_11_code
def yX0_armOf : MethodName := ⟨RX0, "armOf", "(I)I"⟩
abbrev cX0_ownTurn : ByteArray := prog_2_method_12_code
def yX0_ownTurn : MethodName := ⟨RX0, "ownTurn", "()I"⟩
abbrev cX0_turned : ByteArray := prog_2_method_13_code
def yX0_turned : MethodName := ⟨RX0, "turned", "()I"⟩
abbrev cX0_turnedBy : ByteArray := prog_2_method_14_code
def yX0_turnedBy : MethodName := ⟨RX0, "turnedBy", "(I)I"⟩
abbrev cX0_turnOn : ByteArray := prog_2_method_15_code
def yX0_turnOn : MethodName := ⟨RX0, "turnOn", "(II)I"⟩
abbrev cX0_slowness : ByteArray := prog_2_method_16_code
def yX0_slowness : MethodName := ⟨RX0, "slowness", "()I"⟩
abbrev cX0_legsOn : ByteArray := prog_2_method_17_code
def yX0_legsOn : MethodName := ⟨RX0, "legsOn", "(I)I"⟩
abbrev cX0_takes : ByteArray := prog_2_method_18_code
def yX0_takes : MethodName := ⟨RX0, "takes", "(I[I)Z"⟩
abbrev cX0_sitByDraws : ByteArray := prog_2_method_19_code
def yX0_sitByDraws : MethodName := ⟨RX0, "sitByDraws", "(I)I"⟩
abbrev cX0_drawn : ByteArray := prog_2_method_20_code
def yX0_drawn : MethodName := ⟨RX0, "drawn", "(II)I"⟩
abbrev cX0_ownTurnBy : ByteArray := prog_2_method_21_code
def yX0_ownTurnBy : MethodName := ⟨RX0, "ownTurnBy", "(I)I"⟩
abbrev cX0_turnOf : ByteArray := prog_2_method_22_code
def yX0_turnOf : MethodName := ⟨RX0, "turnOf", "(III)I"⟩
abbrev cX0_hangerTurn : ByteArray := prog_2_method_23_code
def yX0_hangerTurn : MethodName := ⟨RX0, "hangerTurn", "(II)I"⟩
abbrev cX0_inTurn : ByteArray := prog_2_method_24_code
def yX0_inTurn : MethodName := ⟨RX0, "inTurn", "(II)I"⟩
abbrev cX0_takesLength : ByteArray := prog_2_method_25_code
def yX0_takesLength : MethodName := ⟨RX0, "takesLength", "(II)Z"⟩
abbrev cX0_takesNotch : ByteArray := prog_2_method_26_code
def yX0_takesNotch : MethodName := ⟨RX0, "takesNotch", "(I)Z"⟩
abbrev cX0_takesChild : ByteArray := prog_2_method_27_code
def yX0_takesChild : MethodName := ⟨RX0, "takesChild", "(III)Z"⟩
abbrev cX0_takesSeat : ByteArray := prog_2_method_28_code
def yX0_takesSeat : MethodName := ⟨RX0, "takesSeat", "(II)Z"⟩
abbrev cX0_takesOff : ByteArray := prog_2_method_29_code
def yX0_takesOff : MethodName := ⟨RX0, "takesOff", "(I)Z"⟩
def RX1 : String := "SeeSawForFive$Goes"
def TX1 : u_T := fun k => match k with
  | 0 => ("SeeSawForFive$Goes", "many", "I", false)
  | 1 => ("SeeSawForFive$Goes", "fitMany", "I", false)
  | 2 => ("SeeSawForFive$Goes", "fitLeast", "I", false)
  | 3 => ("SeeSawForFive$Goes", "fitMost", "I", false)
  | 4 => ("SeeSawForFive$Goes", "seats", "[I", true)
  | 5 => ("SeeSawForFive$Goes", "weights", "[I", true)
  | 6 => ("SeeSawForFive$Goes", "others", "[I", true)
  | 7 => ("SeeSawForFive$Goes", "told", "[I", true)
  | 8 => ("SeeSawForFive$Goes", "fits", "[Z", true)
  | _ => ("SeeSawForFive$Goes", "parts", "[I", true)
def tyX1 : Nat → FieldType := fun k => match k with
  | 0 => .int
  | 1 => .int
  | 2 => .int
  | 3 => .int
  | 4 => .array .int
  | 5 => .array .int
  | 6 => .array .int
  | 7 => .array .int
  | 8 => .array .boolean
  | _ => .array .int
abbrev wsX10 : List Cond := u_ws RX1 TX1 10
theorem nmX1 : ∀ a, a < 10 → ∀ b, b < 10 → a ≠ b → (TX1 a).2.1 ≠ (TX1 b).2.1 := by decide +kernel
theorem tyX1_ok : ∀ k, k < 10 → parseFieldDescriptor (TX1 k).2.2.1 = some (tyX1 k) := by decide +kernel
abbrev cX1_init : ByteArray := prog_3_method_1_code
def yX1_init : MethodName := ⟨RX1, "<init>", "()V"⟩
abbrev cX1_become : ByteArray := prog_3_method_2_code
def yX1_become : MethodName := ⟨RX1, "become", "(LSeeSawForFive$Goes;)V"⟩
abbrev cX1_isFull : ByteArray := prog_3_method_3_code
def yX1_isFull : MethodName := ⟨RX1, "isFull", "()Z"⟩
abbrev cX1_add : ByteArray := prog_3_method_4_code
def yX1_add : MethodName := ⟨RX1, "add", "(IIII)V"⟩
abbrev cX1_look : ByteArray := prog_3_method_5_code
def yX1_look : MethodName := ⟨RX1, "look", "(LSeeSawForFive$Board;)V"⟩
abbrev cX1_bestBucket : ByteArray := prog_3_method_6_code
def yX1_bestBucket : MethodName := ⟨RX1, "bestBucket", "(LSeeSawForFive$Board;II)I"⟩
abbrev cX1_greatestPart : ByteArray := prog_3_method_7_code
def yX1_greatestPart : MethodName := ⟨RX1, "greatestPart", "(II)I"⟩
abbrev cX1_fit : ByteArray := prog_3_method_8_code
def yX1_fit : MethodName := ⟨RX1, "fit", "(LSeeSawForFive$Board;I)Z"⟩
def RX2 : String := "SeeSawForFive$Guesses"
def TX2 : u_T := fun k => match k with
  | 0 => ("SeeSawForFive$Guesses", "many", "I", false)
  | 1 => ("SeeSawForFive$Guesses", "lefts", "[I", true)
  | 2 => ("SeeSawForFive$Guesses", "rights", "[I", true)
  | _ => ("SeeSawForFive$Guesses", "told", "[I", true)
def tyX2 : Nat → FieldType := fun k => match k with
  | 0 => .int
  | 1 => .array .int
  | 2 => .array .int
  | _ => .array .int
abbrev wsX20 : List Cond := u_ws RX2 TX2 4
theorem nmX2 : ∀ a, a < 4 → ∀ b, b < 4 → a ≠ b → (TX2 a).2.1 ≠ (TX2 b).2.1 := by decide +kernel
theorem tyX2_ok : ∀ k, k < 4 → parseFieldDescriptor (TX2 k).2.2.1 = some (tyX2 k) := by decide +kernel
abbrev cX2_init : ByteArray := prog_4_method_1_code
def yX2_init : MethodName := ⟨RX2, "<init>", "()V"⟩
abbrev cX2_become : ByteArray := prog_4_method_2_code
def yX2_become : MethodName := ⟨RX2, "become", "(LSeeSawForFive$Guesses;)V"⟩
abbrev cX2_isFull : ByteArray := prog_4_method_3_code
def yX2_isFull : MethodName := ⟨RX2, "isFull", "()Z"⟩
abbrev cX2_add : ByteArray := prog_4_method_4_code
def yX2_add : MethodName := ⟨RX2, "add", "(III)V"⟩
abbrev cX2_fit : ByteArray := prog_4_method_5_code
def yX2_fit : MethodName := ⟨RX2, "fit", "(I)Z"⟩
def RX3 : String := "SeeSawForFive$Orders"
def TX3 : u_T := fun k => match k with
  | 0 => ("SeeSawForFive$Orders", "many", "I", false)
  | 1 => ("SeeSawForFive$Orders", "quiet", "I", false)
  | 2 => ("SeeSawForFive$Orders", "leastBang", "I", false)
  | 3 => ("SeeSawForFive$Orders", "best", "[I", true)
  | 4 => ("SeeSawForFive$Orders", "bang", "I", false)
  | 5 => ("SeeSawForFive$Orders", "sitters", "[I", true)
  | 6 => ("SeeSawForFive$Orders", "turns", "[I", true)
  | _ => ("SeeSawForFive$Orders", "at", "[I", true)
def tyX3 : Nat → FieldType := fun k => match k with
  | 0 => .int
  | 1 => .int
  | 2 => .int
  | 3 => .array .int
  | 4 => .int
  | 5 => .array .int
  | 6 => .array .int
  | _ => .array .int
abbrev wsX30 : List Cond := u_ws RX3 TX3 8
theorem nmX3 : ∀ a, a < 8 → ∀ b, b < 8 → a ≠ b → (TX3 a).2.1 ≠ (TX3 b).2.1 := by decide +kernel
theorem tyX3_ok : ∀ k, k < 8 → parseFieldDescriptor (TX3 k).2.2.1 = some (tyX3 k) := by decide +kernel
abbrev cX3_init : ByteArray := prog_5_method_1_code
def yX3_init : MethodName := ⟨RX3, "<init>", "()V"⟩
abbrev cX3_look : ByteArray := prog_5_method_2_code
def yX3_look : MethodName := ⟨RX3, "look", "(LSeeSawForFive$Board;I)V"⟩
abbrev cX3_goThrough : ByteArray := prog_5_method_3_code
def yX3_goThrough : MethodName := ⟨RX3, "goThrough", "(IIII)V"⟩
abbrev cX3_hear : ByteArray := prog_5_method_4_code
def yX3_hear : MethodName := ⟨RX3, "hear", "(I)V"⟩
def RX4 : String := "SeeSawForFive$Placings"
def TX4 : u_T := fun k => match k with
  | 0 => ("SeeSawForFive$Placings", "looked", "Z", false)
  | 1 => ("SeeSawForFive$Placings", "levelOnes", "I", false)
  | 2 => ("SeeSawForFive$Placings", "least", "I", false)
  | 3 => ("SeeSawForFive$Placings", "best", "[I", true)
  | 4 => ("SeeSawForFive$Placings", "children", "I", false)
  | 5 => ("SeeSawForFive$Placings", "seats", "I", false)
  | 6 => ("SeeSawForFive$Placings", "at", "[I", true)
  | 7 => ("SeeSawForFive$Placings", "feet", "[I", true)
  | _ => ("SeeSawForFive$Placings", "turns", "[[I", true)
def tyX4 : Nat → FieldType := fun k => match k with
  | 0 => .boolean
  | 1 => .int
  | 2 => .int
  | 3 => .array .int
  | 4 => .int
  | 5 => .int
  | 6 => .array .int
  | 7 => .array .int
  | _ => .array (.array .int)
abbrev wsX40 : List Cond := u_ws RX4 TX4 9
theorem nmX4 : ∀ a, a < 9 → ∀ b, b < 9 → a ≠ b → (TX4 a).2.1 ≠ (TX4 b).2.1 := by decide +kernel
theorem tyX4_ok : ∀ k, k < 9 → parseFieldDescriptor (TX4 k).2.2.1 = some (tyX4 k) := by decide +kernel
abbrev cX4_init : ByteArray := prog_6_method_1_code
def yX4_init : MethodName := ⟨RX4, "<init>", "()V"⟩
abbrev cX4_forget : ByteArray := prog_6_method_2_code
def yX4_forget : MethodName := ⟨RX4, "forget", "()V"⟩
abbrev cX4_look : ByteArray := prog_6_method_3_code
def yX4_look : MethodName := ⟨RX4, "look", "(LSeeSawForFive$Board;)V"⟩
abbrev cX4_goThrough : ByteArray := prog_6_method_4_code
def yX4_goThrough : MethodName := ⟨RX4, "goThrough", "(III)V"⟩
abbrev cX4_weigh : ByteArray := prog_6_method_5_code
def yX4_weigh : MethodName := ⟨RX4, "weigh", "(I)V"⟩
def RX5 : String := "SeeSawForFive$Swing"
def TX5 : u_T := fun k => match k with
  | 0 => ("SeeSawForFive$Swing", "speed", "I", false)
  | 1 => ("SeeSawForFive$Swing", "tilt", "I", false)
  | _ => ("SeeSawForFive$Swing", "gain", "I", false)
def tyX5 : Nat → FieldType := fun k => match k with
  | 0 => .int
  | 1 => .int
  | _ => .int
abbrev wsX50 : List Cond := u_ws RX5 TX5 3
theorem nmX5 : ∀ a, a < 3 → ∀ b, b < 3 → a ≠ b → (TX5 a).2.1 ≠ (TX5 b).2.1 := by decide +kernel
theorem tyX5_ok : ∀ k, k < 3 → parseFieldDescriptor (TX5 k).2.2.1 = some (tyX5 k) := by decide +kernel
abbrev cX5_init : ByteArray := prog_7_method_1_code
def yX5_init : MethodName := ⟨RX5, "<init>", "()V"⟩
abbrev cX5_start : ByteArray := prog_7_method_2_code
def yX5_start : MethodName := ⟨RX5, "start", "(LSeeSawForFive$Board;)V"⟩
abbrev cX5_turn : ByteArray := prog_7_method_3_code
def yX5_turn : MethodName := ⟨RX5, "turn", "()V"⟩
abbrev cX5_isDown : ByteArray := prog_7_method_4_code
def yX5_isDown : MethodName := ⟨RX5, "isDown", "()Z"⟩
abbrev cX5_pushOff : ByteArray := prog_7_method_5_code
def yX5_pushOff : MethodName := ⟨RX5, "pushOff", "(LSeeSawForFive$Board;)V"⟩
def RX6 : String := "SeeSawForFive$Text"
def TX6 : u_T := fun k => match k with
  | 0 => ("SeeSawForFive$Text", "letters", "[I", true)
  | 1 => ("SeeSawForFive$Text", "many", "I", false)
  | 2 => ("SeeSawForFive$Text", "place", "I", false)
  | 3 => ("SeeSawForFive$Text", "verb", "I", false)
  | _ => ("SeeSawForFive$Text", "told", "[I", true)
def tyX6 : Nat → FieldType := fun k => match k with
  | 0 => .array .int
  | 1 => .int
  | 2 => .int
  | 3 => .int
  | _ => .array .int
abbrev wsX60 : List Cond := u_ws RX6 TX6 5
theorem nmX6 : ∀ a, a < 5 → ∀ b, b < 5 → a ≠ b → (TX6 a).2.1 ≠ (TX6 b).2.1 := by decide +kernel
theorem tyX6_ok : ∀ k, k < 5 → parseFieldDescriptor (TX6 k).2.2.1 = some (tyX6 k) := by decide +kernel
abbrev cX6_init : ByteArray := prog_8_method_1_code
def yX6_init : MethodName := ⟨RX6, "<init>", "()V"⟩
abbrev cX6_isFull : ByteArray := prog_8_method_2_code
def yX6_isFull : MethodName := ⟨RX6, "isFull", "()Z"⟩
abbrev cX6_add : ByteArray := prog_8_method_3_code
def yX6_add : MethodName := ⟨RX6, "add", "(I)V"⟩
abbrev cX6_empty : ByteArray := prog_8_method_4_code
def yX6_empty : MethodName := ⟨RX6, "empty", "()V"⟩
abbrev cX6_faultPlace : ByteArray := prog_8_method_5_code
def yX6_faultPlace : MethodName := ⟨RX6, "faultPlace", "()I"⟩
abbrev cX6_readStatement : ByteArray := prog_8_method_6_code
def yX6_readStatement : MethodName := ⟨RX6, "readStatement", "()Z"⟩
abbrev cX6_formOf : ByteArray := prog_8_method_7_code
def yX6_formOf : MethodName := ⟨RX6, "formOf", "(I)Ljava/lang/String;"⟩
abbrev cX6_here : ByteArray := prog_8_method_8_code
def yX6_here : MethodName := ⟨RX6, "here", "()I"⟩
abbrev cX6_readNumber : ByteArray := prog_8_method_9_code
def yX6_readNumber : MethodName := ⟨RX6, "readNumber", "()I"⟩
abbrev cX6_readSign : ByteArray := prog_8_method_10_code
def yX6_readSign : MethodName := ⟨RX6, "readSign", "(C)I"⟩
abbrev cX6_valueOf : ByteArray := prog_8_method_11_code
def yX6_valueOf : MethodName := ⟨RX6, "valueOf", "(CI)I"⟩
abbrev cX6_digitOf : ByteArray := prog_8_method_12_code
def yX6_digitOf : MethodName := ⟨RX6, "digitOf", "(I)I"⟩
abbrev cX6_kindOf : ByteArray := prog_8_method_13_code
def yX6_kindOf : MethodName := ⟨RX6, "kindOf", "(I)I"⟩
abbrev cX6_sideOfLetter : ByteArray := prog_8_method_14_code
def yX6_sideOfLetter : MethodName := ⟨RX6, "sideOfLetter", "(I)I"⟩
def RX7 : String := "SeeSawForFive"
def TX7 : u_T := fun k => match k with
  | 0 => ("SeeSawForFive", "text", "LSeeSawForFive$Text;", true)
  | 1 => ("SeeSawForFive", "now", "LSeeSawForFive$Board;", true)
  | 2 => ("SeeSawForFive", "trial", "LSeeSawForFive$Board;", true)
  | 3 => ("SeeSawForFive", "keptBoard", "LSeeSawForFive$Board;", true)
  | 4 => ("SeeSawForFive", "goes", "LSeeSawForFive$Goes;", true)
  | 5 => ("SeeSawForFive", "keptGoes", "LSeeSawForFive$Goes;", true)
  | 6 => ("SeeSawForFive", "guesses", "LSeeSawForFive$Guesses;", true)
  | 7 => ("SeeSawForFive", "keptGuesses", "LSeeSawForFive$Guesses;", true)
  | 8 => ("SeeSawForFive", "placings", "LSeeSawForFive$Placings;", true)
  | 9 => ("SeeSawForFive", "orders", "LSeeSawForFive$Orders;", true)
  | 10 => ("SeeSawForFive", "swing", "LSeeSawForFive$Swing;", true)
  | 11 => ("SeeSawForFive", "row", "[I", true)
  | 12 => ("SeeSawForFive", "refusals", "[I", true)
  | 13 => ("SeeSawForFive", "rowMany", "I", false)
  | _ => ("SeeSawForFive", "kept", "Z", false)
def tyX7 : Nat → FieldType := fun k => match k with
  | 0 => .object "SeeSawForFive$Text"
  | 1 => .object "SeeSawForFive$Board"
  | 2 => .object "SeeSawForFive$Board"
  | 3 => .object "SeeSawForFive$Board"
  | 4 => .object "SeeSawForFive$Goes"
  | 5 => .object "SeeSawForFive$Goes"
  | 6 => .object "SeeSawForFive$Guesses"
  | 7 => .object "SeeSawForFive$Guesses"
  | 8 => .object "SeeSawForFive$Placings"
  | 9 => .object "SeeSawForFive$Orders"
  | 10 => .object "SeeSawForFive$Swing"
  | 11 => .array .int
  | 12 => .array .int
  | 13 => .int
  | _ => .boolean
abbrev wsX70 : List Cond := u_ws RX7 TX7 15
theorem nmX7 : ∀ a, a < 15 → ∀ b, b < 15 → a ≠ b → (TX7 a).2.1 ≠ (TX7 b).2.1 := by decide +kernel
theorem tyX7_ok : ∀ k, k < 15 → parseFieldDescriptor (TX7 k).2.2.1 = some (tyX7 k) := by decide +kernel
abbrev cX7_init : ByteArray := prog_1_method_1_code
def yX7_init : MethodName := ⟨RX7, "<init>", "()V"⟩
abbrev cX7_letter : ByteArray := prog_1_method_2_code
def yX7_letter : MethodName := ⟨RX7, "letter", "(I)I"⟩
abbrev cX7_board : ByteArray := prog_1_method_3_code
def yX7_board : MethodName := ⟨RX7, "board", "()I"⟩
abbrev cX7_child : ByteArray := prog_1_method_4_code
def yX7_child : MethodName := ⟨RX7, "child", "(II)I"⟩
abbrev cX7_seat : ByteArray := prog_1_method_5_code
def yX7_seat : MethodName := ⟨RX7, "seat", "(I)I"⟩
abbrev cX7_sit : ByteArray := prog_1_method_6_code
def yX7_sit : MethodName := ⟨RX7, "sit", "(II)I"⟩
abbrev cX7_notch : ByteArray := prog_1_method_7_code
def yX7_notch : MethodName := ⟨RX7, "notch", "(I)I"⟩
abbrev cX7_sum : ByteArray := prog_1_method_8_code
def yX7_sum : MethodName := ⟨RX7, "sum", "()I"⟩
abbrev cX7_down : ByteArray := prog_1_method_9_code
def yX7_down : MethodName := ⟨RX7, "down", "()I"⟩
abbrev cX7_level : ByteArray := prog_1_method_10_code
def yX7_level : MethodName := ⟨RX7, "level", "()I"⟩
abbrev cX7_first : ByteArray := prog_1_method_11_code
def yX7_first : MethodName := ⟨RX7, "first", "(II)I"⟩
abbrev cX7_off : ByteArray := prog_1_method_12_code
def yX7_off : MethodName := ⟨RX7, "off", "()I"⟩
abbrev cX7_bucket : ByteArray := prog_1_method_13_code
def yX7_bucket : MethodName := ⟨RX7, "bucket", "(I)I"⟩
abbrev cX7_notchBest : ByteArray := prog_1_method_14_code
def yX7_notchBest : MethodName := ⟨RX7, "notchBest", "()I"⟩
abbrev cX7_orders : ByteArray := prog_1_method_15_code
def yX7_orders : MethodName := ⟨RX7, "orders", "(I)I"⟩
abbrev cX7_order : ByteArray := prog_1_method_16_code
def yX7_order : MethodName := ⟨RX7, "order", "(II)I"⟩
abbrev cX7_leastBang : ByteArray := prog_1_method_17_code
def yX7_leastBang : MethodName := ⟨RX7, "leastBang", "()I"⟩
abbrev cX7_go : ByteArray := prog_1_method_18_code
def yX7_go : MethodName := ⟨RX7, "go", "(IIII)I"⟩
abbrev cX7_fitting : ByteArray := prog_1_method_19_code
def yX7_fitting : MethodName := ⟨RX7, "fitting", "(I)I"⟩
abbrev cX7_next : ByteArray := prog_1_method_20_code
def yX7_next : MethodName := ⟨RX7, "next", "(II)I"⟩
abbrev cX7_inertia : ByteArray := prog_1_method_21_code
def yX7_inertia : MethodName := ⟨RX7, "inertia", "()I"⟩
abbrev cX7_comesDown : ByteArray := prog_1_method_22_code
def yX7_comesDown : MethodName := ⟨RX7, "comesDown", "(I)I"⟩
abbrev cX7_up : ByteArray := prog_1_method_23_code
def yX7_up : MethodName := ⟨RX7, "up", "(I)I"⟩
abbrev cX7_thrown : ByteArray := prog_1_method_24_code
def yX7_thrown : MethodName := ⟨RX7, "thrown", "(IIIII)I"⟩
abbrev cX7_highest : ByteArray := prog_1_method_25_code
def yX7_highest : MethodName := ⟨RX7, "highest", "(I)I"⟩
abbrev cX7_guess : ByteArray := prog_1_method_26_code
def yX7_guess : MethodName := ⟨RX7, "guess", "(III)I"⟩
abbrev cX7_parting : ByteArray := prog_1_method_27_code
def yX7_parting : MethodName := ⟨RX7, "parting", "(III)I"⟩
abbrev cX7_guessed : ByteArray := prog_1_method_28_code
def yX7_guessed : MethodName := ⟨RX7, "guessed", "(III)I"⟩
abbrev cX7_rules : ByteArray := prog_1_method_29_code
def yX7_rules : MethodName := ⟨RX7, "rules", "()I"⟩
abbrev cX7_seeds : ByteArray := prog_1_method_30_code
def yX7_seeds : MethodName := ⟨RX7, "seeds", "(III)I"⟩
abbrev cX7_row : ByteArray := prog_1_method_31_code
def yX7_row : MethodName := ⟨RX7, "row", "(I)I"⟩
abbrev cX7_judge : ByteArray := prog_1_method_32_code
def yX7_judge : MethodName := ⟨RX7, "judge", "()I"⟩
abbrev cX7_image : ByteArray := prog_1_method_33_code
def yX7_image : MethodName := ⟨RX7, "image", "()I"⟩
abbrev cX7_on : ByteArray := prog_1_method_34_code
def yX7_on : MethodName := ⟨RX7, "on", "()I"⟩
abbrev cX7_count : ByteArray := prog_1_method_35_code
def yX7_count : MethodName := ⟨RX7, "count", "(I)I"⟩
abbrev cX7_refuse : ByteArray := prog_1_method_36_code
def yX7_refuse : MethodName := ⟨RX7, "refuse", "(I)I"⟩
abbrev cX7_refuseApart : ByteArray := prog_1_method_37_code
def yX7_refuseApart : MethodName := ⟨RX7, "refuseApart", "(I)I"⟩
abbrev cX7_readBoard : ByteArray := prog_1_method_38_code
def yX7_readBoard : MethodName := ⟨RX7, "readBoard", "()I"⟩
abbrev cX7_lookAtRow : ByteArray := prog_1_method_39_code
def yX7_lookAtRow : MethodName := ⟨RX7, "lookAtRow", "()I"⟩
abbrev cX7_sideOf : ByteArray := prog_1_method_40_code
def yX7_sideOf : MethodName := ⟨RX7, "sideOf", "(I)I"⟩
abbrev cX7_isSide : ByteArray := prog_1_method_41_code
def yX7_isSide : MethodName := ⟨RX7, "isSide", "(I)Z"⟩
abbrev cX7_areOpposite : ByteArray := prog_1_method_42_code
def yX7_areOpposite : MethodName := ⟨RX7, "areOpposite", "(II)Z"⟩
abbrev cX7_inLeastTerms : ByteArray := prog_1_method_43_code
def yX7_inLeastTerms : MethodName := ⟨RX7, "inLeastTerms", "(II)I"⟩
abbrev cX7_isRule : ByteArray := prog_1_method_44_code
def yX7_isRule : MethodName := ⟨RX7, "isRule", "(I)Z"⟩
abbrev cX7_isWeightAndFeet : ByteArray := prog_1_method_45_code
def yX7_isWeightAndFeet : MethodName := ⟨RX7, "isWeightAndFeet", "(I)Z"⟩
abbrev cX7_areParted : ByteArray := prog_1_method_46_code
def yX7_areParted : MethodName := ⟨RX7, "areParted", "(IIII)Z"⟩
abbrev cX7_isOfParting : ByteArray := prog_1_method_47_code
def yX7_isOfParting : MethodName := ⟨RX7, "isOfParting", "(I)Z"⟩
abbrev cX7_guessBy : ByteArray := prog_1_method_48_code
def yX7_guessBy : MethodName := ⟨RX7, "guessBy", "(III)I"⟩
def RX8 : String := "SeeSawForFiveModel"
def TX8 : u_T := fun k => match k with
  | 0 => ("SeeSawForFiveModel", "refusals", "[I", true)
  | 1 => ("SeeSawForFiveModel", "s", "[I", true)
  | 2 => ("SeeSawForFiveModel", "image", "[I", true)
  | 3 => ("SeeSawForFiveModel", "read", "[I", true)
  | 4 => ("SeeSawForFiveModel", "isImage", "Z", false)
  | 5 => ("SeeSawForFiveModel", "tape", "[I", true)
  | 6 => ("SeeSawForFiveModel", "told", "[I", true)
  | 7 => ("SeeSawForFiveModel", "taped", "I", false)
  | 8 => ("SeeSawForFiveModel", "at", "I", false)
  | 9 => ("SeeSawForFiveModel", "tried", "[I", true)
  | 10 => ("SeeSawForFiveModel", "firstLevel", "[I", true)
  | 11 => ("SeeSawForFiveModel", "firstLeast", "[I", true)
  | 12 => ("SeeSawForFiveModel", "levels", "I", false)
  | 13 => ("SeeSawForFiveModel", "leastOff", "I", false)
  | 14 => ("SeeSawForFiveModel", "firstOrder", "[I", true)
  | 15 => ("SeeSawForFiveModel", "orders", "I", false)
  | 16 => ("SeeSawForFiveModel", "leastBang", "I", false)
  | 17 => ("SeeSawForFiveModel", "part", "[I", true)
  | 18 => ("SeeSawForFiveModel", "speed", "I", false)
  | 19 => ("SeeSawForFiveModel", "tilt", "I", false)
  | 20 => ("SeeSawForFiveModel", "keptRow", "[I", true)
  | 21 => ("SeeSawForFiveModel", "row", "[I", true)
  | _ => ("SeeSawForFiveModel", "rowed", "I", false)
def tyX8 : Nat → FieldType := fun k => match k with
  | 0 => .array .int
  | 1 => .array .int
  | 2 => .array .int
  | 3 => .array .int
  | 4 => .boolean
  | 5 => .array .int
  | 6 => .array .int
  | 7 => .int
  | 8 => .int
  | 9 => .array .int
  | 10 => .array .int
  | 11 => .array .int
  | 12 => .int
  | 13 => .int
  | 14 => .array .int
  | 15 => .int
  | 16 => .int
  | 17 => .array .int
  | 18 => .int
  | 19 => .int
  | 20 => .array .int
  | 21 => .array .int
  | _ => .int
abbrev wsX80 : List Cond := u_ws RX8 TX8 23
theorem nmX8 : ∀ a, a < 23 → ∀ b, b < 23 → a ≠ b → (TX8 a).2.1 ≠ (TX8 b).2.1 := by decide +kernel
theorem tyX8_ok : ∀ k, k < 23 → parseFieldDescriptor (TX8 k).2.2.1 = some (tyX8 k) := by decide +kernel
abbrev cX8_init : ByteArray := prog_10_method_1_code
def yX8_init : MethodName := ⟨RX8, "<init>", "()V"⟩
abbrev cX8_refuse : ByteArray := prog_10_method_2_code
def yX8_refuse : MethodName := ⟨RX8, "refuse", "(I)I"⟩
abbrev cX8_isIn : ByteArray := prog_10_method_3_code
def yX8_isIn : MethodName := ⟨RX8, "isIn", "(II)Z"⟩
abbrev cX8_within : ByteArray := prog_10_method_4_code
def yX8_within : MethodName := ⟨RX8, "within", "(III)I"⟩
abbrev cX8_amount : ByteArray := prog_10_method_5_code
def yX8_amount : MethodName := ⟨RX8, "amount", "(I)I"⟩
abbrev cX8_copies : ByteArray := prog_10_method_6_code
def yX8_copies : MethodName := ⟨RX8, "copies", "([I[I)V"⟩
abbrev cX8_common : ByteArray := prog_10_method_7_code
def yX8_common : MethodName := ⟨RX8, "common", "(II)I"⟩
abbrev cX8_isKid : ByteArray := prog_10_method_8_code
def yX8_isKid : MethodName := ⟨RX8, "isKid", "(I)Z"⟩
abbrev cX8_kid : ByteArray := prog_10_method_9_code
def yX8_kid : MethodName := ⟨RX8, "kid", "(II)I"⟩
abbrev cX8_seatOf : ByteArray := prog_10_method_10_code
def yX8_seatOf : MethodName := ⟨RX8, "seatOf", "(I)I"⟩
abbrev cX8_isSeat : ByteArray := prog_10_method_11_code
def yX8_isSeat : MethodName := ⟨RX8, "isSeat", "(I)Z"⟩
abbrev cX8_letter : ByteArray := prog_10_method_12_code
def yX8_letter : MethodName := ⟨RX8, "letter", "(I)I"⟩
abbrev cX8_sign : ByteArray := prog_10_method_13_code
def yX8_sign : MethodName := ⟨RX8, "sign", "()I"⟩
abbrev cX8_takes : ByteArray := prog_10_method_14_code
def yX8_takes : MethodName := ⟨RX8, "takes", "(I)Z"⟩
abbrev cX8_readsNumber : ByteArray := prog_10_method_15_code
def yX8_readsNumber : MethodName := ⟨RX8, "readsNumber", "(II)Z"⟩
abbrev cX8_kindOf : ByteArray := prog_10_method_16_code
def yX8_kindOf : MethodName := ⟨RX8, "kindOf", "(I)I"⟩
abbrev cX8_readsKind : ByteArray := prog_10_method_17_code
def yX8_readsKind : MethodName := ⟨RX8, "readsKind", "()Z"⟩
abbrev cX8_readsSide : ByteArray := prog_10_method_18_code
def yX8_readsSide : MethodName := ⟨RX8, "readsSide", "()Z"⟩
abbrev cX8_readsStatement : ByteArray := prog_10_method_19_code
def yX8_readsStatement : MethodName := ⟨RX8, "readsStatement", "()Z"⟩
abbrev cX8_readSeat : ByteArray := prog_10_method_20_code
def yX8_readSeat : MethodName := ⟨RX8, "readSeat", "(I)I"⟩
abbrev cX8_comes : ByteArray := prog_10_method_21_code
def yX8_comes : MethodName := ⟨RX8, "comes", "(I)Z"⟩
abbrev cX8_reads : ByteArray := prog_10_method_22_code
def yX8_reads : MethodName := ⟨RX8, "reads", "()I"⟩
abbrev cX8_board : ByteArray := prog_10_method_23_code
def yX8_board : MethodName := ⟨RX8, "board", "()I"⟩
abbrev cX8_child : ByteArray := prog_10_method_24_code
def yX8_child : MethodName := ⟨RX8, "child", "(II)I"⟩
abbrev cX8_seat : ByteArray := prog_10_method_25_code
def yX8_seat : MethodName := ⟨RX8, "seat", "(I)I"⟩
abbrev cX8_whoSits : ByteArray := prog_10_method_26_code
def yX8_whoSits : MethodName := ⟨RX8, "whoSits", "(I)I"⟩
abbrev cX8_sit : ByteArray := prog_10_method_27_code
def yX8_sit : MethodName := ⟨RX8, "sit", "(II)I"⟩
abbrev cX8_notch : ByteArray := prog_10_method_28_code
def yX8_notch : MethodName := ⟨RX8, "notch", "(I)I"⟩
abbrev cX8_armOf : ByteArray := prog_10_method_29_code
def yX8_armOf : MethodName := ⟨RX8, "armOf", "(I)I"⟩
abbrev cX8_turnBy : ByteArray := prog_10_method_30_code
def yX8_turnBy : MethodName := ⟨RX8, "turnBy", "(III)I"⟩
abbrev cX8_turnOf : ByteArray := prog_10_method_31_code
def yX8_turnOf : MethodName := ⟨RX8, "turnOf", "(II)I"⟩
abbrev cX8_bare : ByteArray := prog_10_method_32_code
def yX8_bare : MethodName := ⟨RX8, "bare", "(I)I"⟩
abbrev cX8_sumNow : ByteArray := prog_10_method_33_code
def yX8_sumNow : MethodName := ⟨RX8, "sumNow", "()I"⟩
abbrev cX8_sum : ByteArray := prog_10_method_34_code
def yX8_sum : MethodName := ⟨RX8, "sum", "()I"⟩
abbrev cX8_downBy : ByteArray := prog_10_method_35_code
def yX8_downBy : MethodName := ⟨RX8, "downBy", "(I)I"⟩
abbrev cX8_down : ByteArray := prog_10_method_36_code
def yX8_down : MethodName := ⟨RX8, "down", "()I"⟩
abbrev cX8_places : ByteArray := prog_10_method_37_code
def yX8_places : MethodName := ⟨RX8, "places", "(II)V"⟩
abbrev cX8_findsPlacings : ByteArray := prog_10_method_38_code
def yX8_findsPlacings : MethodName := ⟨RX8, "findsPlacings", "()V"⟩
abbrev cX8_level : ByteArray := prog_10_method_39_code
def yX8_level : MethodName := ⟨RX8, "level", "()I"⟩
abbrev cX8_first : ByteArray := prog_10_method_40_code
def yX8_first : MethodName := ⟨RX8, "first", "(II)I"⟩
abbrev cX8_off : ByteArray := prog_10_method_41_code
def yX8_off : MethodName := ⟨RX8, "off", "()I"⟩
abbrev cX8_bucket : ByteArray := prog_10_method_42_code
def yX8_bucket : MethodName := ⟨RX8, "bucket", "(I)I"⟩
abbrev cX8_notchBest : ByteArray := prog_10_method_43_code
def yX8_notchBest : MethodName := ⟨RX8, "notchBest", "()I"⟩
abbrev cX8_sitters : ByteArray := prog_10_method_44_code
def yX8_sitters : MethodName := ⟨RX8, "sitters", "()I"⟩
abbrev cX8_gets : ByteArray := prog_10_method_45_code
def yX8_gets : MethodName := ⟨RX8, "gets", "(IIIII)V"⟩
abbrev cX8_findsOrders : ByteArray := prog_10_method_46_code
def yX8_findsOrders : MethodName := ⟨RX8, "findsOrders", "(I)V"⟩
abbrev cX8_orders : ByteArray := prog_10_method_47_code
def yX8_orders : MethodName := ⟨RX8, "orders", "(I)I"⟩
abbrev cX8_order : ByteArray := prog_10_method_48_code
def yX8_order : MethodName := ⟨RX8, "order", "(II)I"⟩
abbrev cX8_leastBang : ByteArray := prog_10_method_49_code
def yX8_leastBang : MethodName := ⟨RX8, "leastBang", "()I"⟩
abbrev cX8_go : ByteArray := prog_10_method_50_code
def yX8_go : MethodName := ⟨RX8, "go", "(IIII)I"⟩
abbrev cX8_downWith : ByteArray := prog_10_method_51_code
def yX8_downWith : MethodName := ⟨RX8, "downWith", "(IIII)I"⟩
abbrev cX8_fits : ByteArray := prog_10_method_52_code
def yX8_fits : MethodName := ⟨RX8, "fits", "(I)Z"⟩
abbrev cX8_fitting : ByteArray := prog_10_method_53_code
def yX8_fitting : MethodName := ⟨RX8, "fitting", "(I)I"⟩
abbrev cX8_greatestPart : ByteArray := prog_10_method_54_code
def yX8_greatestPart : MethodName := ⟨RX8, "greatestPart", "(III)I"⟩
abbrev cX8_next : ByteArray := prog_10_method_55_code
def yX8_next : MethodName := ⟨RX8, "next", "(II)I"⟩
abbrev cX8_inertiaNow : ByteArray := prog_10_method_56_code
def yX8_inertiaNow : MethodName := ⟨RX8, "inertiaNow", "()I"⟩
abbrev cX8_inertia : ByteArray := prog_10_method_57_code
def yX8_inertia : MethodName := ⟨RX8, "inertia", "()I"⟩
abbrev cX8_goesTenth : ByteArray := prog_10_method_58_code
def yX8_goesTenth : MethodName := ⟨RX8, "goesTenth", "(I)V"⟩
abbrev cX8_more : ByteArray := prog_10_method_59_code
def yX8_more : MethodName := ⟨RX8, "more", "()I"⟩
abbrev cX8_comesDown : ByteArray := prog_10_method_60_code
def yX8_comesDown : MethodName := ⟨RX8, "comesDown", "(I)I"⟩
abbrev cX8_legsOn : ByteArray := prog_10_method_61_code
def yX8_legsOn : MethodName := ⟨RX8, "legsOn", "(I)I"⟩
abbrev cX8_up : ByteArray := prog_10_method_62_code
def yX8_up : MethodName := ⟨RX8, "up", "(I)I"⟩
abbrev cX8_thrown : ByteArray := prog_10_method_63_code
def yX8_thrown : MethodName := ⟨RX8, "thrown", "(IIIII)I"⟩
abbrev cX8_highest : ByteArray := prog_10_method_64_code
def yX8_highest : MethodName := ⟨RX8, "highest", "(I)I"⟩
abbrev cX8_areDigits : ByteArray := prog_10_method_65_code
def yX8_areDigits : MethodName := ⟨RX8, "areDigits", "(I)Z"⟩
abbrev cX8_compared : ByteArray := prog_10_method_66_code
def yX8_compared : MethodName := ⟨RX8, "compared", "(II)I"⟩
abbrev cX8_guessBy : ByteArray := prog_10_method_67_code
def yX8_guessBy : MethodName := ⟨RX8, "guessBy", "(III)I"⟩
abbrev cX8_guess : ByteArray := prog_10_method_68_code
def yX8_guess : MethodName := ⟨RX8, "guess", "(III)I"⟩
abbrev cX8_parting : ByteArray := prog_10_method_69_code
def yX8_parting : MethodName := ⟨RX8, "parting", "(III)I"⟩
abbrev cX8_guessed : ByteArray := prog_10_method_70_code
def yX8_guessed : MethodName := ⟨RX8, "guessed", "(III)I"⟩
abbrev cX8_rules : ByteArray := prog_10_method_71_code
def yX8_rules : MethodName := ⟨RX8, "rules", "()I"⟩
abbrev cX8_seeds : ByteArray := prog_10_method_72_code
def yX8_seeds : MethodName := ⟨RX8, "seeds", "(III)I"⟩
abbrev cX8_row : ByteArray := prog_10_method_73_code
def yX8_row : MethodName := ⟨RX8, "row", "(I)I"⟩
abbrev cX8_judge : ByteArray := prog_10_method_74_code
def yX8_judge : MethodName := ⟨RX8, "judge", "()I"⟩
abbrev cX8_image : ByteArray := prog_10_method_75_code
def yX8_image : MethodName := ⟨RX8, "image", "()I"⟩
abbrev cX8_on : ByteArray := prog_10_method_76_code
def yX8_on : MethodName := ⟨RX8, "on", "()I"⟩
abbrev cX8_count : ByteArray := prog_10_method_77_code
def yX8_count : MethodName := ⟨RX8, "count", "(I)I"⟩
def RJ6 : String := "java/lang/Integer"
def TJ6 : u_T := fun k => match k with
  | _ => ("", "", "", false)
def tyJ6 : Nat → FieldType := fun k => match k with
  | _ => .int
abbrev wsJ60 : List Cond := u_ws RJ6 TJ6 0
theorem nmJ6 : ∀ a, a < 0 → ∀ b, b < 0 → a ≠ b → (TJ6 a).2.1 ≠ (TJ6 b).2.1 := by decide +kernel
theorem tyJ6_ok : ∀ k, k < 0 → parseFieldDescriptor (TJ6 k).2.2.1 = some (tyJ6 k) := by decide +kernel
abbrev cJ6_signum_0f7a4 : ByteArray := prog_11_method_56_code
def yJ6_signum_0f7a4 : MethodName := ⟨RJ6, "signum", "(I)I"⟩
def RJ9 : String := "java/lang/Math"
def TJ9 : u_T := fun k => match k with
  | _ => ("", "", "", false)
def tyJ9 : Nat → FieldType := fun k => match k with
  | _ => .int
abbrev wsJ90 : List Cond := u_ws RJ9 TJ9 0
theorem nmJ9 : ∀ a, a < 0 → ∀ b, b < 0 → a ≠ b → (TJ9 a).2.1 ≠ (TJ9 b).2.1 := by decide +kernel
theorem tyJ9_ok : ∀ k, k < 0 → parseFieldDescriptor (TJ9 k).2.2.1 = some (tyJ9 k) := by decide +kernel
abbrev cJ9_abs_0f7a4 : ByteArray := prog_12_method_59_code
def yJ9_abs_0f7a4 : MethodName := ⟨RJ9, "abs", "(I)I"⟩
abbrev cJ9_max_7cf53 : ByteArray := prog_12_method_65_code
def yJ9_max_7cf53 : MethodName := ⟨RJ9, "max", "(II)I"⟩
abbrev cJ9_min_7cf53 : ByteArray := prog_12_method_69_code
def yJ9_min_7cf53 : MethodName := ⟨RJ9, "min", "(II)I"⟩
def RJ0 : String := "java/lang/String"
def TJ0 : u_T := fun k => match k with
  | _ => ("", "", "", false)
def tyJ0 : Nat → FieldType := fun k => match k with
  | _ => .int
abbrev wsJ00 : List Cond := u_ws RJ0 TJ0 0
theorem nmJ0 : ∀ a, a < 0 → ∀ b, b < 0 → a ≠ b → (TJ0 a).2.1 ≠ (TJ0 b).2.1 := by decide +kernel
theorem tyJ0_ok : ∀ k, k < 0 → parseFieldDescriptor (TJ0 k).2.2.1 = some (tyJ0 k) := by decide +kernel
abbrev cJ0_length_8abf5 : ByteArray := prog_13_method_54_code
def yJ0_length_8abf5 : MethodName := ⟨RJ0, "length", "()I"⟩
abbrev cJ0_isEmpty_aae02 : ByteArray := prog_13_method_55_code
def yJ0_isEmpty_aae02 : MethodName := ⟨RJ0, "isEmpty", "()Z"⟩
abbrev cJ0_charAt_5068e : ByteArray := prog_13_method_56_code
def yJ0_charAt_5068e : MethodName := ⟨RJ0, "charAt", "(I)C"⟩
abbrev cJ0_coder_7d493 : ByteArray := prog_13_method_152_code
def yJ0_coder_7d493 : MethodName := ⟨RJ0, "coder", "()B"⟩
abbrev cJ0_isLatin1_aae02 : ByteArray := prog_13_method_154_code
def yJ0_isLatin1_aae02 : MethodName := ⟨RJ0, "isLatin1", "()Z"⟩
abbrev cJ0_checkIndex_df160 : ByteArray := prog_13_method_155_code
def yJ0_checkIndex_df160 : MethodName := ⟨RJ0, "checkIndex", "(II)V"⟩
def RJ1 : String := "java/lang/StringLatin1"
def TJ1 : u_T := fun k => match k with
  | _ => ("", "", "", false)
def tyJ1 : Nat → FieldType := fun k => match k with
  | _ => .int
abbrev wsJ10 : List Cond := u_ws RJ1 TJ1 0
theorem nmJ1 : ∀ a, a < 0 → ∀ b, b < 0 → a ≠ b → (TJ1 a).2.1 ≠ (TJ1 b).2.1 := by decide +kernel
theorem tyJ1_ok : ∀ k, k < 0 → parseFieldDescriptor (TJ1 k).2.2.1 = some (tyJ1 k) := by decide +kernel
abbrev cJ1_charAt_3b067 : ByteArray := prog_14_method_2_code
def yJ1_charAt_3b067 : MethodName := ⟨RJ1, "charAt", "([BI)C"⟩
def RJ2 : String := "java/lang/StringUTF16"
def TJ2 : u_T := fun k => match k with
  | _ => ("", "", "", false)
def tyJ2 : Nat → FieldType := fun k => match k with
  | _ => .int
abbrev wsJ20 : List Cond := u_ws RJ2 TJ2 0
theorem nmJ2 : ∀ a, a < 0 → ∀ b, b < 0 → a ≠ b → (TJ2 a).2.1 ≠ (TJ2 b).2.1 := by decide +kernel
theorem tyJ2_ok : ∀ k, k < 0 → parseFieldDescriptor (TJ2 k).2.2.1 = some (tyJ2 k) := by decide +kernel
abbrev cJ2_getChar_3b067 : ByteArray := prog_15_method_5_code
def yJ2_getChar_3b067 : MethodName := ⟨RJ2, "getChar", "([BI)C"⟩
abbrev cJ2_length_9d52b : ByteArray := prog_15_method_6_code
def yJ2_length_9d52b : MethodName := ⟨RJ2, "length", "([B)I"⟩
abbrev cJ2_charAt_3b067 : ByteArray := prog_15_method_83_code
def yJ2_charAt_3b067 : MethodName := ⟨RJ2, "charAt", "([BI)C"⟩
abbrev cJ2_checkIndex_2214a : ByteArray := prog_15_method_91_code
def yJ2_checkIndex_2214a : MethodName := ⟨RJ2, "checkIndex", "(I[B)V"⟩
def RJ10 : String := "java/lang/System"
def TJ10 : u_T := fun k => match k with
  | _ => ("", "", "", false)
def tyJ10 : Nat → FieldType := fun k => match k with
  | _ => .int
abbrev wsJ100 : List Cond := u_ws RJ10 TJ10 0
theorem nmJ10 : ∀ a, a < 0 → ∀ b, b < 0 → a ≠ b → (TJ10 a).2.1 ≠ (TJ10 b).2.1 := by decide +kernel
theorem tyJ10_ok : ∀ k, k < 0 → parseFieldDescriptor (TJ10 k).2.2.1 = some (tyJ10 k) := by decide +kernel
def RJ3 : String := "jdk/internal/util/Preconditions"
def TJ3 : u_T := fun k => match k with
  | _ => ("", "", "", false)
def tyJ3 : Nat → FieldType := fun k => match k with
  | _ => .int
abbrev wsJ30 : List Cond := u_ws RJ3 TJ3 0
theorem nmJ3 : ∀ a, a < 0 → ∀ b, b < 0 → a ≠ b → (TJ3 a).2.1 ≠ (TJ3 b).2.1 := by decide +kernel
theorem tyJ3_ok : ∀ k, k < 0 → parseFieldDescriptor (TJ3 k).2.2.1 = some (tyJ3 k) := by decide +kernel
abbrev cJ3_checkIndex_8e157 : ByteArray := prog_17_method_11_code
def yJ3_checkIndex_8e157 : MethodName := ⟨RJ3, "checkIndex", "(IILjava/util/function/BiFunction;)I"⟩
def RL : String := "SeeSawForFiveLaw"
abbrev cL_law : ByteArray := code
def yL_law : MethodName := ⟨RL, "law", "([I)Z"⟩
abbrev vwCl : List vw_C := [(RX0, TX0, 8), (RX1, TX1, 10), (RX2, TX2, 4), (RX3, TX3, 8), (RX4, TX4, 9), (RX5, TX5, 3), (RX6, TX6, 5), (RX7, TX7, 15), (RX8, TX8, 23)]
/-! the five texts of Text.formOf, and what their methods read -/
def z_len : List Nat := [4, 2, 5, 4, 0]
def z_byt : List (List Int32) := [[68, 44, 78, 59], [68, 59], [75, 78, 44, 68, 59], [68, 83, 68, 59], []]
def z_ix : Nat → Nat := fun i => [60, 62, 64, 66, 68].getD i 0
def z_tx : Nat → String := fun i => ["D,N;", "D;", "KN,D;", "DSD;", ""].getD i ""
def z_nst : List (String × Nat × MethodName × String) := [(RX1, 73, yX7_sideOf, RX7), (RX2, 33, yX7_guessBy, RX7)]
