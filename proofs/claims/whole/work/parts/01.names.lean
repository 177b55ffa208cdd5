-- ===== PART A: goes FIRST, ahead of the names: the tables' words, and 'selects' of the private methods out of them =====
/-- a private method of a class that the tables say can be made, by its rows of tables_1 -/
def lw_okq (q : MethodName × Nat) : Prop := (q.1.cls ≠ "java/lang/invoke/MethodHandle" ∧ q.1.cls ≠ "java/lang/invoke/VarHandle") ∧ Cond.instantiable q.1.cls q.2 ∈ tables_1 ∧ Cond.privateMethod q.1 ∈ tables_1 ∧ Cond.instanceMethod q.1 ∈ tables_1
theorem lw_p0 : lw_okq (⟨"SeeSawForFive", "refuse", "(I)I"⟩, 15) := ⟨⟨by decide +kernel, by decide +kernel⟩, List.mem_of_getElem? (i := 18) (by decide +kernel), List.mem_of_getElem? (i := 299) (by decide +kernel), List.mem_of_getElem? (i := 300) (by decide +kernel)⟩
theorem lw_p1 : lw_okq (⟨"SeeSawForFive", "readBoard", "()I"⟩, 15) := ⟨⟨by decide +kernel, by decide +kernel⟩, List.mem_of_getElem? (i := 18) (by decide +kernel), List.mem_of_getElem? (i := 316) (by decide +kernel), List.mem_of_getElem? (i := 317) (by decide +kernel)⟩
theorem lw_p2 : lw_okq (⟨"SeeSawForFive$Text", "here", "()I"⟩, 5) := ⟨⟨by decide +kernel, by decide +kernel⟩, List.mem_of_getElem? (i := 26) (by decide +kernel), List.mem_of_getElem? (i := 328) (by decide +kernel), List.mem_of_getElem? (i := 329) (by decide +kernel)⟩
theorem lw_p3 : lw_okq (⟨"SeeSawForFive$Text", "readNumber", "()I"⟩, 5) := ⟨⟨by decide +kernel, by decide +kernel⟩, List.mem_of_getElem? (i := 26) (by decide +kernel), List.mem_of_getElem? (i := 392) (by decide +kernel), List.mem_of_getElem? (i := 393) (by decide +kernel)⟩
theorem lw_p4 : lw_okq (⟨"SeeSawForFive$Text", "readSign", "(C)I"⟩, 5) := ⟨⟨by decide +kernel, by decide +kernel⟩, List.mem_of_getElem? (i := 26) (by decide +kernel), List.mem_of_getElem? (i := 399) (by decide +kernel), List.mem_of_getElem? (i := 400) (by decide +kernel)⟩
theorem lw_p5 : lw_okq (⟨"SeeSawForFive$Board", "takesLength", "(II)Z"⟩, 8) := ⟨⟨by decide +kernel, by decide +kernel⟩, List.mem_of_getElem? (i := 53) (by decide +kernel), List.mem_of_getElem? (i := 424) (by decide +kernel), List.mem_of_getElem? (i := 425) (by decide +kernel)⟩
theorem lw_p6 : lw_okq (⟨"SeeSawForFive$Board", "takesNotch", "(I)Z"⟩, 8) := ⟨⟨by decide +kernel, by decide +kernel⟩, List.mem_of_getElem? (i := 53) (by decide +kernel), List.mem_of_getElem? (i := 431) (by decide +kernel), List.mem_of_getElem? (i := 432) (by decide +kernel)⟩
theorem lw_p7 : lw_okq (⟨"SeeSawForFive$Board", "takesChild", "(III)Z"⟩, 8) := ⟨⟨by decide +kernel, by decide +kernel⟩, List.mem_of_getElem? (i := 53) (by decide +kernel), List.mem_of_getElem? (i := 435) (by decide +kernel), List.mem_of_getElem? (i := 436) (by decide +kernel)⟩
theorem lw_p8 : lw_okq (⟨"SeeSawForFive$Board", "takesSeat", "(II)Z"⟩, 8) := ⟨⟨by decide +kernel, by decide +kernel⟩, List.mem_of_getElem? (i := 53) (by decide +kernel), List.mem_of_getElem? (i := 439) (by decide +kernel), List.mem_of_getElem? (i := 440) (by decide +kernel)⟩
theorem lw_p9 : lw_okq (⟨"SeeSawForFive$Board", "takesOff", "(I)Z"⟩, 8) := ⟨⟨by decide +kernel, by decide +kernel⟩, List.mem_of_getElem? (i := 53) (by decide +kernel), List.mem_of_getElem? (i := 455) (by decide +kernel), List.mem_of_getElem? (i := 456) (by decide +kernel)⟩
theorem lw_p10 : lw_okq (⟨"SeeSawForFive", "refuseApart", "(I)I"⟩, 15) := ⟨⟨by decide +kernel, by decide +kernel⟩, List.mem_of_getElem? (i := 18) (by decide +kernel), List.mem_of_getElem? (i := 477) (by decide +kernel), List.mem_of_getElem? (i := 478) (by decide +kernel)⟩
theorem lw_p11 : lw_okq (⟨"SeeSawForFive$Board", "ownTurnBy", "(I)I"⟩, 8) := ⟨⟨by decide +kernel, by decide +kernel⟩, List.mem_of_getElem? (i := 53) (by decide +kernel), List.mem_of_getElem? (i := 508) (by decide +kernel), List.mem_of_getElem? (i := 509) (by decide +kernel)⟩
theorem lw_p12 : lw_okq (⟨"SeeSawForFive$Placings", "goThrough", "(III)V"⟩, 9) := ⟨⟨by decide +kernel, by decide +kernel⟩, List.mem_of_getElem? (i := 157) (by decide +kernel), List.mem_of_getElem? (i := 560) (by decide +kernel), List.mem_of_getElem? (i := 561) (by decide +kernel)⟩
theorem lw_p13 : lw_okq (⟨"SeeSawForFive$Placings", "weigh", "(I)V"⟩, 9) := ⟨⟨by decide +kernel, by decide +kernel⟩, List.mem_of_getElem? (i := 157) (by decide +kernel), List.mem_of_getElem? (i := 564) (by decide +kernel), List.mem_of_getElem? (i := 565) (by decide +kernel)⟩
theorem lw_p14 : lw_okq (⟨"SeeSawForFive$Orders", "goThrough", "(IIII)V"⟩, 8) := ⟨⟨by decide +kernel, by decide +kernel⟩, List.mem_of_getElem? (i := 196) (by decide +kernel), List.mem_of_getElem? (i := 605) (by decide +kernel), List.mem_of_getElem? (i := 606) (by decide +kernel)⟩
theorem lw_p15 : lw_okq (⟨"SeeSawForFive$Orders", "hear", "(I)V"⟩, 8) := ⟨⟨by decide +kernel, by decide +kernel⟩, List.mem_of_getElem? (i := 196) (by decide +kernel), List.mem_of_getElem? (i := 609) (by decide +kernel), List.mem_of_getElem? (i := 610) (by decide +kernel)⟩
def lw_privs_1 : List (MethodName × Nat) := [(⟨"SeeSawForFive", "refuse", "(I)I"⟩, 15), (⟨"SeeSawForFive", "readBoard", "()I"⟩, 15), (⟨"SeeSawForFive$Text", "here", "()I"⟩, 5), (⟨"SeeSawForFive$Text", "readNumber", "()I"⟩, 5), (⟨"SeeSawForFive$Text", "readSign", "(C)I"⟩, 5), (⟨"SeeSawForFive$Board", "takesLength", "(II)Z"⟩, 8), (⟨"SeeSawForFive$Board", "takesNotch", "(I)Z"⟩, 8), (⟨"SeeSawForFive$Board", "takesChild", "(III)Z"⟩, 8), (⟨"SeeSawForFive$Board", "takesSeat", "(II)Z"⟩, 8), (⟨"SeeSawForFive$Board", "takesOff", "(I)Z"⟩, 8), (⟨"SeeSawForFive", "refuseApart", "(I)I"⟩, 15), (⟨"SeeSawForFive$Board", "ownTurnBy", "(I)I"⟩, 8), (⟨"SeeSawForFive$Placings", "goThrough", "(III)V"⟩, 9), (⟨"SeeSawForFive$Placings", "weigh", "(I)V"⟩, 9), (⟨"SeeSawForFive$Orders", "goThrough", "(IIII)V"⟩, 8), (⟨"SeeSawForFive$Orders", "hear", "(I)V"⟩, 8)]
theorem lw_r1 : ∀ q ∈ lw_privs_1, lw_okq q := List.forall_mem_cons.mpr ⟨lw_p0, List.forall_mem_cons.mpr ⟨lw_p1, List.forall_mem_cons.mpr ⟨lw_p2, List.forall_mem_cons.mpr ⟨lw_p3, List.forall_mem_cons.mpr ⟨lw_p4, List.forall_mem_cons.mpr ⟨lw_p5, List.forall_mem_cons.mpr ⟨lw_p6, List.forall_mem_cons.mpr ⟨lw_p7, List.forall_mem_cons.mpr ⟨lw_p8, List.forall_mem_cons.mpr ⟨lw_p9, List.forall_mem_cons.mpr ⟨lw_p10, List.forall_mem_cons.mpr ⟨lw_p11, List.forall_mem_cons.mpr ⟨lw_p12, List.forall_mem_cons.mpr ⟨lw_p13, List.forall_mem_cons.mpr ⟨lw_p14, List.forall_mem_cons.mpr ⟨lw_p15, fun _ h => absurd h List.not_mem_nil⟩⟩⟩⟩⟩⟩⟩⟩⟩⟩⟩⟩⟩⟩⟩⟩
theorem lw_p16 : lw_okq (⟨"SeeSawForFive$Goes", "fit", "(LSeeSawForFive$Board;I)Z"⟩, 10) := ⟨⟨by decide +kernel, by decide +kernel⟩, List.mem_of_getElem? (i := 95) (by decide +kernel), List.mem_of_getElem? (i := 653) (by decide +kernel), List.mem_of_getElem? (i := 654) (by decide +kernel)⟩
theorem lw_p17 : lw_okq (⟨"SeeSawForFive$Goes", "greatestPart", "(II)I"⟩, 10) := ⟨⟨by decide +kernel, by decide +kernel⟩, List.mem_of_getElem? (i := 95) (by decide +kernel), List.mem_of_getElem? (i := 669) (by decide +kernel), List.mem_of_getElem? (i := 670) (by decide +kernel)⟩
theorem lw_p18 : lw_okq (⟨"SeeSawForFive", "lookAtRow", "()I"⟩, 15) := ⟨⟨by decide +kernel, by decide +kernel⟩, List.mem_of_getElem? (i := 18) (by decide +kernel), List.mem_of_getElem? (i := 801) (by decide +kernel), List.mem_of_getElem? (i := 802) (by decide +kernel)⟩
theorem lw_p19 : lw_okq (⟨"SeeSawForFiveModel", "refuse", "(I)I"⟩, 23) := ⟨⟨by decide +kernel, by decide +kernel⟩, List.mem_of_getElem? (i := 832) (by decide +kernel), List.mem_of_getElem? (i := 915) (by decide +kernel), List.mem_of_getElem? (i := 916) (by decide +kernel)⟩
theorem lw_p20 : lw_okq (⟨"SeeSawForFiveModel", "reads", "()I"⟩, 23) := ⟨⟨by decide +kernel, by decide +kernel⟩, List.mem_of_getElem? (i := 832) (by decide +kernel), List.mem_of_getElem? (i := 923) (by decide +kernel), List.mem_of_getElem? (i := 924) (by decide +kernel)⟩
theorem lw_p21 : lw_okq (⟨"SeeSawForFiveModel", "readsStatement", "()Z"⟩, 23) := ⟨⟨by decide +kernel, by decide +kernel⟩, List.mem_of_getElem? (i := 832) (by decide +kernel), List.mem_of_getElem? (i := 927) (by decide +kernel), List.mem_of_getElem? (i := 928) (by decide +kernel)⟩
theorem lw_p22 : lw_okq (⟨"SeeSawForFiveModel", "sign", "()I"⟩, 23) := ⟨⟨by decide +kernel, by decide +kernel⟩, List.mem_of_getElem? (i := 832) (by decide +kernel), List.mem_of_getElem? (i := 931) (by decide +kernel), List.mem_of_getElem? (i := 932) (by decide +kernel)⟩
theorem lw_p23 : lw_okq (⟨"SeeSawForFiveModel", "readsNumber", "(II)Z"⟩, 23) := ⟨⟨by decide +kernel, by decide +kernel⟩, List.mem_of_getElem? (i := 832) (by decide +kernel), List.mem_of_getElem? (i := 935) (by decide +kernel), List.mem_of_getElem? (i := 936) (by decide +kernel)⟩
theorem lw_p24 : lw_okq (⟨"SeeSawForFiveModel", "takes", "(I)Z"⟩, 23) := ⟨⟨by decide +kernel, by decide +kernel⟩, List.mem_of_getElem? (i := 832) (by decide +kernel), List.mem_of_getElem? (i := 939) (by decide +kernel), List.mem_of_getElem? (i := 940) (by decide +kernel)⟩
theorem lw_p25 : lw_okq (⟨"SeeSawForFiveModel", "readsKind", "()Z"⟩, 23) := ⟨⟨by decide +kernel, by decide +kernel⟩, List.mem_of_getElem? (i := 832) (by decide +kernel), List.mem_of_getElem? (i := 943) (by decide +kernel), List.mem_of_getElem? (i := 944) (by decide +kernel)⟩
theorem lw_p26 : lw_okq (⟨"SeeSawForFiveModel", "readsSide", "()Z"⟩, 23) := ⟨⟨by decide +kernel, by decide +kernel⟩, List.mem_of_getElem? (i := 832) (by decide +kernel), List.mem_of_getElem? (i := 950) (by decide +kernel), List.mem_of_getElem? (i := 951) (by decide +kernel)⟩
theorem lw_p27 : lw_okq (⟨"SeeSawForFiveModel", "comes", "(I)Z"⟩, 23) := ⟨⟨by decide +kernel, by decide +kernel⟩, List.mem_of_getElem? (i := 832) (by decide +kernel), List.mem_of_getElem? (i := 957) (by decide +kernel), List.mem_of_getElem? (i := 958) (by decide +kernel)⟩
theorem lw_p28 : lw_okq (⟨"SeeSawForFiveModel", "readSeat", "(I)I"⟩, 23) := ⟨⟨by decide +kernel, by decide +kernel⟩, List.mem_of_getElem? (i := 832) (by decide +kernel), List.mem_of_getElem? (i := 961) (by decide +kernel), List.mem_of_getElem? (i := 962) (by decide +kernel)⟩
theorem lw_p29 : lw_okq (⟨"SeeSawForFiveModel", "isKid", "(I)Z"⟩, 23) := ⟨⟨by decide +kernel, by decide +kernel⟩, List.mem_of_getElem? (i := 832) (by decide +kernel), List.mem_of_getElem? (i := 972) (by decide +kernel), List.mem_of_getElem? (i := 973) (by decide +kernel)⟩
theorem lw_p30 : lw_okq (⟨"SeeSawForFiveModel", "kid", "(II)I"⟩, 23) := ⟨⟨by decide +kernel, by decide +kernel⟩, List.mem_of_getElem? (i := 832) (by decide +kernel), List.mem_of_getElem? (i := 979) (by decide +kernel), List.mem_of_getElem? (i := 980) (by decide +kernel)⟩
theorem lw_p31 : lw_okq (⟨"SeeSawForFiveModel", "seatOf", "(I)I"⟩, 23) := ⟨⟨by decide +kernel, by decide +kernel⟩, List.mem_of_getElem? (i := 832) (by decide +kernel), List.mem_of_getElem? (i := 988) (by decide +kernel), List.mem_of_getElem? (i := 989) (by decide +kernel)⟩
def lw_privs_2 : List (MethodName × Nat) := [(⟨"SeeSawForFive$Goes", "fit", "(LSeeSawForFive$Board;I)Z"⟩, 10), (⟨"SeeSawForFive$Goes", "greatestPart", "(II)I"⟩, 10), (⟨"SeeSawForFive", "lookAtRow", "()I"⟩, 15), (⟨"SeeSawForFiveModel", "refuse", "(I)I"⟩, 23), (⟨"SeeSawForFiveModel", "reads", "()I"⟩, 23), (⟨"SeeSawForFiveModel", "readsStatement", "()Z"⟩, 23), (⟨"SeeSawForFiveModel", "sign", "()I"⟩, 23), (⟨"SeeSawForFiveModel", "readsNumber", "(II)Z"⟩, 23), (⟨"SeeSawForFiveModel", "takes", "(I)Z"⟩, 23), (⟨"SeeSawForFiveModel", "readsKind", "()Z"⟩, 23), (⟨"SeeSawForFiveModel", "readsSide", "()Z"⟩, 23), (⟨"SeeSawForFiveModel", "comes", "(I)Z"⟩, 23), (⟨"SeeSawForFiveModel", "readSeat", "(I)I"⟩, 23), (⟨"SeeSawForFiveModel", "isKid", "(I)Z"⟩, 23), (⟨"SeeSawForFiveModel", "kid", "(II)I"⟩, 23), (⟨"SeeSawForFiveModel", "seatOf", "(I)I"⟩, 23)]
theorem lw_r2 : ∀ q ∈ lw_privs_2, lw_okq q := List.forall_mem_cons.mpr ⟨lw_p16, List.forall_mem_cons.mpr ⟨lw_p17, List.forall_mem_cons.mpr ⟨lw_p18, List.forall_mem_cons.mpr ⟨lw_p19, List.forall_mem_cons.mpr ⟨lw_p20, List.forall_mem_cons.mpr ⟨lw_p21, List.forall_mem_cons.mpr ⟨lw_p22, List.forall_mem_cons.mpr ⟨lw_p23, List.forall_mem_cons.mpr ⟨lw_p24, List.forall_mem_cons.mpr ⟨lw_p25, List.forall_mem_cons.mpr ⟨lw_p26, List.forall_mem_cons.mpr ⟨lw_p27, List.forall_mem_cons.mpr ⟨lw_p28, List.forall_mem_cons.mpr ⟨lw_p29, List.forall_mem_cons.mpr ⟨lw_p30, List.forall_mem_cons.mpr ⟨lw_p31, fun _ h => absurd h List.not_mem_nil⟩⟩⟩⟩⟩⟩⟩⟩⟩⟩⟩⟩⟩⟩⟩⟩
theorem lw_p32 : lw_okq (⟨"SeeSawForFiveModel", "isSeat", "(I)Z"⟩, 23) := ⟨⟨by decide +kernel, by decide +kernel⟩, List.mem_of_getElem? (i := 832) (by decide +kernel), List.mem_of_getElem? (i := 996) (by decide +kernel), List.mem_of_getElem? (i := 997) (by decide +kernel)⟩
theorem lw_p33 : lw_okq (⟨"SeeSawForFiveModel", "whoSits", "(I)I"⟩, 23) := ⟨⟨by decide +kernel, by decide +kernel⟩, List.mem_of_getElem? (i := 832) (by decide +kernel), List.mem_of_getElem? (i := 1000) (by decide +kernel), List.mem_of_getElem? (i := 1001) (by decide +kernel)⟩
theorem lw_p34 : lw_okq (⟨"SeeSawForFiveModel", "sumNow", "()I"⟩, 23) := ⟨⟨by decide +kernel, by decide +kernel⟩, List.mem_of_getElem? (i := 832) (by decide +kernel), List.mem_of_getElem? (i := 1012) (by decide +kernel), List.mem_of_getElem? (i := 1013) (by decide +kernel)⟩
theorem lw_p35 : lw_okq (⟨"SeeSawForFiveModel", "bare", "(I)I"⟩, 23) := ⟨⟨by decide +kernel, by decide +kernel⟩, List.mem_of_getElem? (i := 832) (by decide +kernel), List.mem_of_getElem? (i := 1016) (by decide +kernel), List.mem_of_getElem? (i := 1017) (by decide +kernel)⟩
theorem lw_p36 : lw_okq (⟨"SeeSawForFiveModel", "turnOf", "(II)I"⟩, 23) := ⟨⟨by decide +kernel, by decide +kernel⟩, List.mem_of_getElem? (i := 832) (by decide +kernel), List.mem_of_getElem? (i := 1020) (by decide +kernel), List.mem_of_getElem? (i := 1021) (by decide +kernel)⟩
theorem lw_p37 : lw_okq (⟨"SeeSawForFiveModel", "armOf", "(I)I"⟩, 23) := ⟨⟨by decide +kernel, by decide +kernel⟩, List.mem_of_getElem? (i := 832) (by decide +kernel), List.mem_of_getElem? (i := 1024) (by decide +kernel), List.mem_of_getElem? (i := 1025) (by decide +kernel)⟩
theorem lw_p38 : lw_okq (⟨"SeeSawForFiveModel", "turnBy", "(III)I"⟩, 23) := ⟨⟨by decide +kernel, by decide +kernel⟩, List.mem_of_getElem? (i := 832) (by decide +kernel), List.mem_of_getElem? (i := 1028) (by decide +kernel), List.mem_of_getElem? (i := 1029) (by decide +kernel)⟩
theorem lw_p39 : lw_okq (⟨"SeeSawForFiveModel", "findsPlacings", "()V"⟩, 23) := ⟨⟨by decide +kernel, by decide +kernel⟩, List.mem_of_getElem? (i := 832) (by decide +kernel), List.mem_of_getElem? (i := 1043) (by decide +kernel), List.mem_of_getElem? (i := 1044) (by decide +kernel)⟩
theorem lw_p40 : lw_okq (⟨"SeeSawForFiveModel", "places", "(II)V"⟩, 23) := ⟨⟨by decide +kernel, by decide +kernel⟩, List.mem_of_getElem? (i := 832) (by decide +kernel), List.mem_of_getElem? (i := 1047) (by decide +kernel), List.mem_of_getElem? (i := 1048) (by decide +kernel)⟩
theorem lw_p41 : lw_okq (⟨"SeeSawForFiveModel", "findsOrders", "(I)V"⟩, 23) := ⟨⟨by decide +kernel, by decide +kernel⟩, List.mem_of_getElem? (i := 832) (by decide +kernel), List.mem_of_getElem? (i := 1071) (by decide +kernel), List.mem_of_getElem? (i := 1072) (by decide +kernel)⟩
theorem lw_p42 : lw_okq (⟨"SeeSawForFiveModel", "gets", "(IIIII)V"⟩, 23) := ⟨⟨by decide +kernel, by decide +kernel⟩, List.mem_of_getElem? (i := 832) (by decide +kernel), List.mem_of_getElem? (i := 1075) (by decide +kernel), List.mem_of_getElem? (i := 1076) (by decide +kernel)⟩
theorem lw_p43 : lw_okq (⟨"SeeSawForFiveModel", "sitters", "()I"⟩, 23) := ⟨⟨by decide +kernel, by decide +kernel⟩, List.mem_of_getElem? (i := 832) (by decide +kernel), List.mem_of_getElem? (i := 1079) (by decide +kernel), List.mem_of_getElem? (i := 1080) (by decide +kernel)⟩
theorem lw_p44 : lw_okq (⟨"SeeSawForFiveModel", "fits", "(I)Z"⟩, 23) := ⟨⟨by decide +kernel, by decide +kernel⟩, List.mem_of_getElem? (i := 832) (by decide +kernel), List.mem_of_getElem? (i := 1099) (by decide +kernel), List.mem_of_getElem? (i := 1100) (by decide +kernel)⟩
theorem lw_p45 : lw_okq (⟨"SeeSawForFiveModel", "downWith", "(IIII)I"⟩, 23) := ⟨⟨by decide +kernel, by decide +kernel⟩, List.mem_of_getElem? (i := 832) (by decide +kernel), List.mem_of_getElem? (i := 1103) (by decide +kernel), List.mem_of_getElem? (i := 1104) (by decide +kernel)⟩
theorem lw_p46 : lw_okq (⟨"SeeSawForFiveModel", "greatestPart", "(III)I"⟩, 23) := ⟨⟨by decide +kernel, by decide +kernel⟩, List.mem_of_getElem? (i := 832) (by decide +kernel), List.mem_of_getElem? (i := 1111) (by decide +kernel), List.mem_of_getElem? (i := 1112) (by decide +kernel)⟩
theorem lw_p47 : lw_okq (⟨"SeeSawForFiveModel", "inertiaNow", "()I"⟩, 23) := ⟨⟨by decide +kernel, by decide +kernel⟩, List.mem_of_getElem? (i := 832) (by decide +kernel), List.mem_of_getElem? (i := 1119) (by decide +kernel), List.mem_of_getElem? (i := 1120) (by decide +kernel)⟩
def lw_privs_3 : List (MethodName × Nat) := [(⟨"SeeSawForFiveModel", "isSeat", "(I)Z"⟩, 23), (⟨"SeeSawForFiveModel", "whoSits", "(I)I"⟩, 23), (⟨"SeeSawForFiveModel", "sumNow", "()I"⟩, 23), (⟨"SeeSawForFiveModel", "bare", "(I)I"⟩, 23), (⟨"SeeSawForFiveModel", "turnOf", "(II)I"⟩, 23), (⟨"SeeSawForFiveModel", "armOf", "(I)I"⟩, 23), (⟨"SeeSawForFiveModel", "turnBy", "(III)I"⟩, 23), (⟨"SeeSawForFiveModel", "findsPlacings", "()V"⟩, 23), (⟨"SeeSawForFiveModel", "places", "(II)V"⟩, 23), (⟨"SeeSawForFiveModel", "findsOrders", "(I)V"⟩, 23), (⟨"SeeSawForFiveModel", "gets", "(IIIII)V"⟩, 23), (⟨"SeeSawForFiveModel", "sitters", "()I"⟩, 23), (⟨"SeeSawForFiveModel", "fits", "(I)Z"⟩, 23), (⟨"SeeSawForFiveModel", "downWith", "(IIII)I"⟩, 23), (⟨"SeeSawForFiveModel", "greatestPart", "(III)I"⟩, 23), (⟨"SeeSawForFiveModel", "inertiaNow", "()I"⟩, 23)]
theorem lw_r3 : ∀ q ∈ lw_privs_3, lw_okq q := List.forall_mem_cons.mpr ⟨lw_p32, List.forall_mem_cons.mpr ⟨lw_p33, List.forall_mem_cons.mpr ⟨lw_p34, List.forall_mem_cons.mpr ⟨lw_p35, List.forall_mem_cons.mpr ⟨lw_p36, List.forall_mem_cons.mpr ⟨lw_p37, List.forall_mem_cons.mpr ⟨lw_p38, List.forall_mem_cons.mpr ⟨lw_p39, List.forall_mem_cons.mpr ⟨lw_p40, List.forall_mem_cons.mpr ⟨lw_p41, List.forall_mem_cons.mpr ⟨lw_p42, List.forall_mem_cons.mpr ⟨lw_p43, List.forall_mem_cons.mpr ⟨lw_p44, List.forall_mem_cons.mpr ⟨lw_p45, List.forall_mem_cons.mpr ⟨lw_p46, List.forall_mem_cons.mpr ⟨lw_p47, fun _ h => absurd h List.not_mem_nil⟩⟩⟩⟩⟩⟩⟩⟩⟩⟩⟩⟩⟩⟩⟩⟩
theorem lw_p48 : lw_okq (⟨"SeeSawForFiveModel", "more", "()I"⟩, 23) := ⟨⟨by decide +kernel, by decide +kernel⟩, List.mem_of_getElem? (i := 832) (by decide +kernel), List.mem_of_getElem? (i := 1127) (by decide +kernel), List.mem_of_getElem? (i := 1128) (by decide +kernel)⟩
theorem lw_p49 : lw_okq (⟨"SeeSawForFiveModel", "goesTenth", "(I)V"⟩, 23) := ⟨⟨by decide +kernel, by decide +kernel⟩, List.mem_of_getElem? (i := 832) (by decide +kernel), List.mem_of_getElem? (i := 1131) (by decide +kernel), List.mem_of_getElem? (i := 1132) (by decide +kernel)⟩
theorem lw_p50 : lw_okq (⟨"SeeSawForFiveModel", "legsOn", "(I)I"⟩, 23) := ⟨⟨by decide +kernel, by decide +kernel⟩, List.mem_of_getElem? (i := 832) (by decide +kernel), List.mem_of_getElem? (i := 1139) (by decide +kernel), List.mem_of_getElem? (i := 1140) (by decide +kernel)⟩
def lw_privs_4 : List (MethodName × Nat) := [(⟨"SeeSawForFiveModel", "more", "()I"⟩, 23), (⟨"SeeSawForFiveModel", "goesTenth", "(I)V"⟩, 23), (⟨"SeeSawForFiveModel", "legsOn", "(I)I"⟩, 23)]
theorem lw_r4 : ∀ q ∈ lw_privs_4, lw_okq q := List.forall_mem_cons.mpr ⟨lw_p48, List.forall_mem_cons.mpr ⟨lw_p49, List.forall_mem_cons.mpr ⟨lw_p50, fun _ h => absurd h List.not_mem_nil⟩⟩⟩
def lw_privs : List (MethodName × Nat) := lw_privs_1 ++ (lw_privs_2 ++ (lw_privs_3 ++ (lw_privs_4)))
def lw_tbl : List Cond := k2_sels lw_privs ++ tables_1
theorem lw_privs_ok : ∀ q ∈ lw_privs, lw_okq q := by
  show ∀ q ∈ lw_privs_1 ++ (lw_privs_2 ++ (lw_privs_3 ++ (lw_privs_4))), lw_okq q
  exact List.forall_mem_append.mpr ⟨lw_r1, List.forall_mem_append.mpr ⟨lw_r2, List.forall_mem_append.mpr ⟨lw_r3, lw_r4⟩⟩⟩
/-! ===== BEGIN words of one list among another's, by their places ===== -/
theorem goodIn_r {big : List Cond} (ws : List Cond) (ps : List Nat) (hp : ws = ps.filterMap (fun i => big[i]?)) (h : ws.all goodWord = true) : GoodIn big ws := by
  intro w hw
  have h1 := List.all_eq_true.mp h w hw
  rw [hp] at hw
  obtain ⟨i, -, hi⟩ := List.mem_filterMap.mp hw
  have hm : w ∈ big := by first | exact List.mem_of_getElem? hi | exact List.getElem?_mem hi
  exact ⟨hm, good_of_word h1⟩
theorem goodIn_app {big a b : List Cond} (ha : GoodIn big a) (hb : GoodIn big b) : GoodIn big (a ++ b) := fun w h => (List.mem_append.mp h).elim (ha w) (hb w)
theorem goodIn_ca {big a b : List Cond} {c : Cond} (ha : GoodIn big (c :: a)) (hb : GoodIn big b) : GoodIn big (c :: (a ++ b)) := fun w h => (List.mem_cons.mp h).elim (fun e => ha w (List.mem_cons.mpr (Or.inl e))) (fun h => (List.mem_append.mp h).elim (fun h => ha w (List.mem_cons.mpr (Or.inr h))) (hb w))
theorem goodIn_sub {big ws : List Cond} (hm : ∀ w ∈ ws, w ∈ big) (h : ws.all goodWord = true) : GoodIn big ws := fun w hw => ⟨hm w hw, good_of_word (List.all_eq_true.mp h w hw)⟩
/-! ===== END ===== -/

/-! ===== BEGIN new T[n][m]: the outer array a place, the inner ones among the pooled ===== -/
/-- f, but v at every address of l -/
def vr_up {α : Type} (f : Nat → α) (l : List Nat) (v : α) : Nat → α := fun a => if a ∈ l then v else f a
theorem vr_up_in {α : Type} {f : Nat → α} {l : List Nat} {v : α} {a : Nat} (h : a ∈ l) : vr_up f l v a = v := if_pos h
theorem vr_up_ne {α : Type} {f : Nat → α} {l : List Nat} {v : α} {a : Nat} (h : a ∉ l) : vr_up f l v a = f a := if_neg h
theorem vr_rows {L l : List Nat} {f : Nat → va_E} {e : va_E} (h : ∀ a, a ∈ l → a ∉ L) : va_pl L f ++ l.map (fun a => (a, e)) = va_pl (L ++ l) (vr_up f l e) := by
  unfold va_pl
  rw [List.map_append]
  congr 1
  · apply List.map_congr_left
    intro a ha
    rw [vr_up_ne (fun q => h a q ha)]
  · apply List.map_congr_left
    intro a ha
    rw [vr_up_in ha]
theorem vr_lay {X rows : va_W} {x : Nat × va_E} {pl : va_W} {D : va_G} {cl : List vw_C} {H : Heap} (hP : va_P D cl (((X ++ pl) ++ [x]) ++ rows) H) : va_P D cl ((X ++ [x]) ++ (pl ++ rows)) H := by
  rw [List.append_assoc (X ++ pl)] at hP
  have h := va_P.swap hP
  rw [← List.append_assoc X] at h
  have h2 := va_P.swap h
  rw [List.append_assoc (X ++ [x])] at h2
  exact h2
theorem vr_layD {X rows : va_W} {x : Nat × va_E} {pl : va_W} {A : Nat → Prop} (hD : va_D A (((X ++ pl) ++ [x]) ++ rows)) : va_D A ((X ++ [x]) ++ (pl ++ rows)) := by
  rw [List.append_assoc (X ++ pl)] at hD
  have h := va_D.swap hD
  rw [← List.append_assoc X] at h
  have h2 := va_D.swap h
  rw [List.append_assoc (X ++ [x])] at h2
  exact h2
theorem vr_outer (c : ClassId) (N h0 : Nat) : ∀ i : Nat, Jvm.Free.Multi.outerC c N h0 i = arrV c N (fun j => va_rf (if j < i then some (h0 + 1 + j) else none))
  | 0 => by
    show ({ cls := c, slots := Array.replicate N .null, vm := .none } : Cell) = _
    rw [arrV_new]
    refine congrArg (arrV c N) (funext fun j => ?_)
    simp [va_rf]
  | i + 1 => by
    show (Jvm.Free.Multi.outerC c N h0 i).setSlot i (.ref (h0 + 1 + i)) = _
    rw [vr_outer c N h0 i, arrV_store]
    refine congrArg (arrV c N) (funext fun j => ?_)
    by_cases e : j = i
    · subst e
      simp [updV, va_rf]
    · by_cases h : j < i
      · simp [updV, e, h, Nat.lt_succ_of_lt h]
      · simp [updV, e, h, show ¬ j < i + 1 by omega]
section VGM
variable {p : Program} {l : Launch} {e : Env} {R : Room} {s : State} {m : MethodId} {args : Array Value} {below : List Frame} {meth : Method} {c : Code} {H : Heap} {locs : List Loc} {cells slots : Nat} {Q : State → Prop}
variable {cc : ByteArray} {pc : Nat} {ls : Array Slot} {rest : List Value} {D : va_G} {cl : List vw_C} {A : Nat → Prop} {a : Nat} {tys : List (ClassId × FieldType)} {ws : va_W} {H0 : Heap}
theorem va_mna {X : va_W} {L : List Nat} {f : Nat → va_E} {cc : ByteArray} (hexec : p.tables.exec = Jvm.exec) (hb : c.code = cc) {own : String} {index : Nat} {ty : FieldType} {cy : ClassId} (hown : s.vm.findClass own = some m.cls) (hclink : (Cond.classLink own index ("[" ++ (FieldType.array ty).toString)).before args s = true) (hover : va_AOA ty s) (harr : (Cond.arrayClass ty).before args s = true) (hcy : s.vm.findClass (FieldType.array ty).toString = some cy)
    (hK : va_K D cl tys s) (hP : va_P D cl (X ++ va_pl L f) H) (hD : va_D A (X ++ va_pl L f)) (hS : va_S A H0 H locs) (hA : ∀ q, H0.size ≤ q → A q) {n k : Int32} {N' K' : Nat} {z : vp_A} (hn : ¬ n < 0) (hk : ¬ k < 0) (hN : n.toNatClampNeg = N') (hM : k.toNatClampNeg = K')
    (hb1 : N' * 4 ≤ 536870912) (hb2 : K' * componentBytes ty ≤ 536870912) (hb3 : K' ≤ 536870912) (hdf : fits ty (defaultValue ty) = true) (hdd : (defaultValue ty).isDefault = true) (hcells : cells + (1 + N') ≤ R.cells) (hslots : slots + (N' + N' * K') ≤ R.slots) (hz : ∀ c : ClassId, Jvm.Free.Multi.innerC c K' (defaultValue ty) = vp_cell c z) (hdg : decode cc pc = .ok (.multianewarray index 2, 4))
    (kk : ∀ (q : Nat) (r : Nat → Nat) (cA : ClassId) (H1 : Heap), (∀ i j : Nat, i < N' → j < N' → r i = r j → i = j) → (∀ i : Nat, i < N' → r i ∉ L) → va_K D cl (tys ++ [(cA, .array ty)]) s →
      va_P D cl ((X ++ [(q, .inl (cA, N', .inr (.inr (.inr (.inr (fun i => if i < N' then some (r i) else none))))))]) ++ va_pl (L ++ (List.range N').map r) (vr_up f ((List.range N').map r) (.inl (cy, z)))) H1 → va_D A ((X ++ [(q, .inl (cA, N', .inr (.inr (.inr (.inr (fun i => if i < N' then some (r i) else none))))))]) ++ va_pl (L ++ (List.range N').map r) (vr_up f ((List.range N').map r) (.inl (cy, z)))) → va_S A H0 H1 locs →
      W p l e R s m args below meth c H1 locs (cells + 1 + N') (slots + N' + N' * K') Q (F0 m (pc + 4) ls (.ref q :: rest))) : W p l e R s m args below meth c H locs cells slots Q (F0 m pc ls (.int k :: .int n :: rest)) := by
  subst hN
  subst hM
  intro T hT Xs
  obtain ⟨vm₁, cA, comp, -, fA, fC, hO, -, X', step⟩ := Xs.multianewarray2F hexec hown hclink (va_AOA.use hover) harr (g := F0 m pc ls (.int k :: .int n :: rest)) rfl (by rw [hb]; exact hdg) rfl hn hk hb1 hb2 hb3 hdf hdd hcells hslots
  have ec : some cy = some comp := hcy.symm.trans fC
  cases ec
  generalize hF : Jvm.Free.Multi.fill (T.setVm vm₁) cA cy n.toNatClampNeg k.toNatClampNeg (defaultValue ty) n.toNatClampNeg = F at X' step
  have hTh : (T.setVm vm₁).heap = H := hT
  obtain ⟨f1, f2, -, -⟩ := Jvm.Free.Multi.fill_facts (T.setVm vm₁) cA cy n.toNatClampNeg k.toNatClampNeg (defaultValue ty) n.toNatClampNeg
  rw [hF, hTh] at f1 f2
  have hold : ∀ x : Nat, x < H.size → F.heap[x]? = H[x]? := fun x hx => by
    have := Jvm.Free.Multi.fill_old (T.setVm vm₁) cA cy n.toNatClampNeg k.toNatClampNeg (defaultValue ty) (a := x) (by rw [hTh]; exact hx) n.toNatClampNeg
    rw [hF, hTh] at this
    exact this
  have hrow : ∀ j : Nat, j < n.toNatClampNeg → F.heap[H.size + 1 + j]? = some (vp_cell cy z) := fun j hj => by
    have := Jvm.Free.Multi.fill_inner (T.setVm vm₁) cA cy n.toNatClampNeg k.toNatClampNeg (defaultValue ty) n.toNatClampNeg j hj
    rw [hF, hTh, hz] at this
    exact this
  have hout : Jvm.Free.Multi.outerC cA n.toNatClampNeg H.size n.toNatClampNeg = vp_cell cA (n.toNatClampNeg, .inr (.inr (.inr (.inr (fun i => if i < n.toNatClampNeg then some (H.size + 1 + i) else none))))) := by
    rw [vp_cell_q]
    exact vr_outer cA n.toNatClampNeg H.size n.toNatClampNeg
  rw [hout] at f2
  have hlt : ∀ a, a ∈ L → a < H.size := fun a ha => by
    obtain ⟨k9, hk9⟩ := va_pl_get (X := X) (f := f) ha
    exact (hP k9 _ hk9).lt
  have hnl : ∀ i : Nat, i < n.toNatClampNeg → H.size + 1 + i ∉ L := fun i _ h => by
    have := hlt _ h
    omega
  have hnm : ∀ a, a ∈ (List.range n.toNatClampNeg).map (fun i => H.size + 1 + i) → a ∉ L := fun a ha h => by
    obtain ⟨i, -, rfl⟩ := List.mem_map.mp ha
    have := hlt _ h
    omega
  have hP0 : va_P D cl (X ++ va_pl L f) F.heap := hP.kept (fun k9 x hx => hold x.1 ((hP k9 x hx).lt))
  have hP1 : va_P D cl ((X ++ va_pl L f) ++ [(H.size, .inl (cA, n.toNatClampNeg, .inr (.inr (.inr (.inr (fun i => if i < n.toNatClampNeg then some (H.size + 1 + i) else none))))))]) F.heap := hP0.app (fun k9 x hx => by
    have h0 : k9 < 1 := (List.getElem?_eq_some_iff.mp hx).1
    rw [show k9 = 0 by omega] at hx
    cases hx
    exact f2)
  have hP2 : va_P D cl (((X ++ va_pl L f) ++ [(H.size, .inl (cA, n.toNatClampNeg, .inr (.inr (.inr (.inr (fun i => if i < n.toNatClampNeg then some (H.size + 1 + i) else none))))))]) ++ ((List.range n.toNatClampNeg).map (fun i => H.size + 1 + i)).map (fun a => (a, .inl (cy, z)))) F.heap := hP1.app (fun k9 x hx => by
    obtain ⟨a, ha, rfl⟩ := List.mem_map.mp (List.mem_of_getElem? hx)
    obtain ⟨i, hi, rfl⟩ := List.mem_map.mp ha
    exact hrow i (List.mem_range.mp hi))
  have hD2 : va_D A (((X ++ va_pl L f) ++ [(H.size, .inl (cA, n.toNatClampNeg, .inr (.inr (.inr (.inr (fun i => if i < n.toNatClampNeg then some (H.size + 1 + i) else none))))))]) ++ ((List.range n.toNatClampNeg).map (fun i => H.size + 1 + i)).map (fun a => (a, .inl (cy, z)))) := by
    have hD1 := hD.push (e := .inl (cA, n.toNatClampNeg, .inr (.inr (.inr (.inr (fun i => if i < n.toNatClampNeg then some (H.size + 1 + i) else none)))))) hP rfl (hA _ hS.1)
    generalize hW1 : (X ++ va_pl L f) ++ [(H.size, .inl (cA, n.toNatClampNeg, .inr (.inr (.inr (.inr (fun i => if i < n.toNatClampNeg then some (H.size + 1 + i) else none))))))] = W1 at hD1 hP1 ⊢
    have hle : ∀ (k9 : Nat) (x : Nat × va_E), W1[k9]? = some x → x.1 ≤ H.size := fun k9 x hx => by
      rw [← hW1] at hx
      by_cases hl : k9 < (X ++ va_pl L f).length
      · rw [List.getElem?_append_left hl] at hx
        exact Nat.le_of_lt ((hP k9 x hx).lt)
      · rw [List.getElem?_append_right (by omega)] at hx
        have h0 : k9 - (X ++ va_pl L f).length < 1 := (List.getElem?_eq_some_iff.mp hx).1
        rw [show k9 - (X ++ va_pl L f).length = 0 by omega] at hx
        cases hx
        exact Nat.le_refl _
    have hr : ∀ (k9 : Nat) (x : Nat × va_E), (((List.range n.toNatClampNeg).map (fun i => H.size + 1 + i)).map (fun a => ((a, .inl (cy, z)) : Nat × va_E)))[k9]? = some x → x.1 = H.size + 1 + k9 := fun k9 x hx => by
      rw [List.getElem?_map, List.getElem?_map] at hx
      by_cases h9 : k9 < n.toNatClampNeg
      · rw [List.getElem?_range h9] at hx
        cases hx
        rfl
      · have hn0 : (List.range n.toNatClampNeg)[k9]? = none := List.getElem?_eq_none (by rw [List.length_range]; omega)
        rw [hn0] at hx
        cases hx
    refine ⟨fun i j x y hi hj hxy => ?_, fun k9 x hx => ?_⟩
    · by_cases h1 : i < W1.length <;> by_cases h2 : j < W1.length
      · rw [List.getElem?_append_left h1] at hi
        rw [List.getElem?_append_left h2] at hj
        exact hD1.1 i j x y hi hj hxy
      · rw [List.getElem?_append_left h1] at hi
        rw [List.getElem?_append_right (by omega)] at hj
        have := hle _ _ hi
        have := hr _ _ hj
        omega
      · rw [List.getElem?_append_right (by omega)] at hi
        rw [List.getElem?_append_left h2] at hj
        have := hle _ _ hj
        have := hr _ _ hi
        omega
      · rw [List.getElem?_append_right (by omega)] at hi hj
        have := hr _ _ hi
        have := hr _ _ hj
        omega
    · by_cases h1 : k9 < W1.length
      · rw [List.getElem?_append_left h1] at hx
        exact hD1.2 k9 x hx
      · rw [List.getElem?_append_right (by omega)] at hx
        have := hr _ _ hx
        exact hA _ (by have := hS.1; omega)
  have hAr : ArrOfT s cA (.array ty) := fun N9 z9 => by
    obtain ⟨-, k9, hk9, cm9, hkk9⟩ := (hO 0 0 0).1
    exact ⟨(fun q hq => by cases hq), k9, hk9, cm9, hkk9⟩
  have hK2 : va_K D cl (tys ++ [(cA, .array ty)]) s := ⟨hK.1, fun k9 x hx => by
    by_cases hl : k9 < tys.length
    · rw [List.getElem?_append_left hl] at hx
      exact hK.2 k9 x hx
    · rw [List.getElem?_append_right (by omega)] at hx
      have h0 : k9 - tys.length < 1 := (List.getElem?_eq_some_iff.mp hx).1
      rw [show k9 - tys.length = 0 by omega] at hx
      cases hx
      exact ⟨hAr, fA⟩⟩
  obtain ⟨t, a1, b1⟩ := kk H.size (fun i => H.size + 1 + i) cA F.heap (fun i j _ _ h => by have h9 : H.size + 1 + i = H.size + 1 + j := h; omega) hnl hK2 (by rw [← vr_rows hnm]; exact vr_lay hP2) (by rw [← vr_rows hnm]; exact vr_layD hD2) ⟨by rw [f1]; have := hS.1; omega, fun x h1 h2 => (hold x (Nat.lt_of_lt_of_le h1 hS.1)).trans (hS.2.1 x h1 h2), hS.2.2⟩ F rfl X'
  refine ⟨t, step t ?_, b1⟩
  have e : T.heap.size = H.size := by rw [hT]
  rw [e]
  exact a1
end VGM
/-! ===== END ===== -/

def RX0 : String := "SeeSawForFive$Board"
def TX0 : u_T := fun k => match k with
  | 0 => ("SeeSawForFive$Board", "length", "I", false)
  | 1 => ("SeeSawForFive$Board", "own", "I", false)
  | 2 => ("SeeSawForFive$Board", "notch", "I", false)
  | 3 => ("SeeSawForFive$Board", "children", "I", false)
  | 4 => ("SeeSawForFive$Board", "kinds", "[I", true)
  | 5 => ("SeeSawForFive$Board", "weights", "[I", true)
  | 6 => ("SeeSawForFive$Board", "legs", "[I", true)
  | _ => ("SeeSawForFive$Board", "feet", "[I", true)
def tyX0 : Nat → FieldType := fun k => match k with
  | 0 => .int
  | 1 => .int
  | 2 => .int
  | 3 => .int
  | 4 => .array .int
  | 5 => .array .int
  | 6 => .array .int
  | _ => .array .int
abbrev wsX00 : List Cond := u_ws RX0 TX0 8
theorem nmX0 : ∀ a, a < 8 → ∀ b, b < 8 → a ≠ b → (TX0 a).2.1 ≠ (TX0 b).2.1 := by decide +kernel
theorem tyX0_ok : ∀ k, k < 8 → parseFieldDescriptor (TX0 k).2.2.1 = some (tyX0 k) := by decide +kernel
abbrev cX0_init : ByteArray := prog_2_method_1_code
def yX0_init : MethodName := ⟨RX0, "<init>", "()V"⟩
abbrev cX0_become : ByteArray := prog_2_method_2_code
def yX0_become : MethodName := ⟨RX0, "become", "(LSeeSawForFive$Board;)V"⟩
abbrev cX0_hasChild : ByteArray := prog_2_method_3_code
def yX0_hasChild : MethodName := ⟨RX0, "hasChild", "(I)Z"⟩
abbrev cX0_hasSeat : ByteArray := prog_2_method_4_code
def yX0_hasSeat : MethodName := ⟨RX0, "hasSeat", "(I)Z"⟩
abbrev cX0_sits : ByteArray := prog_2_method_5_code
def yX0_sits : MethodName := ⟨RX0, "sits", "(I)Z"⟩
abbrev cX0_isTaken : ByteArray := prog_2_method_6_code
def yX0_isTaken : MethodName := ⟨RX0, "isTaken", "(I)Z"⟩
abbrev cX0_isTakenByOther : ByteArray := prog_2_method_7_code
def yX0_isTakenByOther : MethodName := ⟨RX0, "isTakenByOther", "(II)Z"⟩
abbrev cX0_sitters : ByteArray := prog_2_method_8_code
def yX0_sitters : MethodName := ⟨RX0, "sitters", "()I"⟩
abbrev cX0_seatsMany : ByteArray := prog_2_method_9_code
def yX0_seatsMany : MethodName := ⟨RX0, "seatsMany", "()I"⟩
abbrev cX0_seatFromLeft : ByteArray := prog_2_method_10_code
def yX0_seatFromLeft : MethodName := ⟨RX0, "seatFromLeft", "(I)I"⟩
abbrev cX0_armOf : ByteArray := prog_2_method_11_code
def yX0_armOf : MethodName := ⟨RX0, "armOf", "(I)I"⟩
abbrev cX0_ownTurn : ByteArray := prog_2_method_12_code
def yX0_ownTurn : MethodName := ⟨RX0, "ownTurn", "()I"⟩
abbrev cX0_turned : ByteArray := prog_2_method_13_code
def yX0_turned : MethodName := ⟨RX0, "turned", "()I"⟩
abbrev cX0_turnedBy : ByteArray := prog_2_method_14_code
def yX0_turnedBy : MethodName := ⟨RX0, "turnedBy", "(I)I"⟩
abbrev cX0_turnOn : ByteArray := prog_2_method_15_code
def yX0_turnOn : MethodName := ⟨RX0, "turnOn", "(II)I"⟩
abbrev cX0_slowness : ByteArray := prog_2_method_16_code
def yX0_slowness : MethodName := ⟨RX0, "slowness", "()I"⟩
abbrev cX0_legsOn : ByteArray := prog_2_method_17_code
def yX0_legsOn : MethodName := ⟨RX0, "legsOn", "(I)I"⟩
abbrev cX0_takes : ByteArray := prog_2_method_18_code
def yX0_takes : MethodName := ⟨RX0, "takes", "(I[I)Z"⟩
abbrev cX0_sitByDraws : ByteArray := prog_2_method_19_code
def yX0_sitByDraws : MethodName := ⟨RX0, "sitByDraws", "(I)I"⟩
abbrev cX0_drawn : ByteArray := prog_2_method_20_code
def yX0_drawn : MethodName := ⟨RX0, "drawn", "(II)I"⟩
abbrev cX0_ownTurnBy : ByteArray := prog_2_method_21_code
def yX0_ownTurnBy : MethodName := ⟨RX0, "ownTurnBy", "(I)I"⟩
abbrev cX0_turnOf : ByteArray := prog_2_method_22_code
def yX0_turnOf : MethodName := ⟨RX0, "turnOf", "(III)I"⟩
abbrev cX0_hangerTurn : ByteArray := prog_2_method_23_code
def yX0_hangerTurn : MethodName := ⟨RX0, "hangerTurn", "(II)I"⟩
abbrev cX0_inTurn : ByteArray := prog_2_method_24_code
def yX0_inTurn : MethodName := ⟨RX0, "inTurn", "(II)I"⟩
abbrev cX0_takesLength : ByteArray := prog_2_method_25_code
def yX0_takesLength : MethodName := ⟨RX0, "takesLength", "(II)Z"⟩
abbrev cX0_takesNotch : ByteArray := prog_2_method_26_code
def yX0_takesNotch : MethodName := ⟨RX0, "takesNotch", "(I)Z"⟩
abbrev cX0_takesChild : ByteArray := prog_2_method_27_code
def yX0_takesChild : MethodName := ⟨RX0, "takesChild", "(III)Z"⟩
abbrev cX0_takesSeat : ByteArray := prog_2_method_28_code
def yX0_takesSeat : MethodName := ⟨RX0, "takesSeat", "(II)Z"⟩
abbrev cX0_takesOff : ByteArray := prog_2_method_29_code
def yX0_takesOff : MethodName := ⟨RX0, "takesOff", "(I)Z"⟩
def RX1 : String := "SeeSawForFive$Goes"
def TX1 : u_T := fun k => match k with
  | 0 => ("SeeSawForFive$Goes", "many", "I", false)
  | 1 => ("SeeSawForFive$Goes", "fitMany", "I", false)
  | 2 => ("SeeSawForFive$Goes", "fitLeast", "I", false)
  | 3 => ("SeeSawForFive$Goes", "fitMost", "I", false)
  | 4 => ("SeeSawForFive$Goes", "seats", "[I", true)
  | 5 => ("SeeSawForFive$Goes", "weights", "[I", true)
  | 6 => ("SeeSawForFive$Goes", "others", "[I", true)
  | 7 => ("SeeSawForFive$Goes", "told", "[I", true)
  | 8 => ("SeeSawForFive$Goes", "fits", "[Z", true)
  | _ => ("SeeSawForFive$Goes", "parts", "[I", true)
def tyX1 : Nat → FieldType := fun k => match k with
  | 0 => .int
  | 1 => .int
  | 2 => .int
  | 3 => .int
  | 4 => .array .int
  | 5 => .array .int
  | 6 => .array .int
  | 7 => .array .int
  | 8 => .array .boolean
  | _ => .array .int
abbrev wsX10 : List Cond := u_ws RX1 TX1 10
theorem nmX1 : ∀ a, a < 10 → ∀ b, b < 10 → a ≠ b → (TX1 a).2.1 ≠ (TX1 b).2.1 := by decide +kernel
theorem tyX1_ok : ∀ k, k < 10 → parseFieldDescriptor (TX1 k).2.2.1 = some (tyX1 k) := by decide +kernel
abbrev cX1_init : ByteArray := prog_3_method_1_code
def yX1_init : MethodName := ⟨RX1, "<init>", "()V"⟩
abbrev cX1_become : ByteArray := prog_3_method_2_code
def yX1_become : MethodName := ⟨RX1, "become", "(LSeeSawForFive$Goes;)V"⟩
abbrev cX1_isFull : ByteArray := prog_3_method_3_code
def yX1_isFull : MethodName := ⟨RX1, "isFull", "()Z"⟩
abbrev cX1_add : ByteArray := prog_3_method_4_code
def yX1_add : MethodName := ⟨RX1, "add", "(IIII)V"⟩
abbrev cX1_look : ByteArray := prog_3_method_5_code
def yX1_look : MethodName := ⟨RX1, "look", "(LSeeSawForFive$Board;)V"⟩
abbrev cX1_bestBucket : ByteArray := prog_3_method_6_code
def yX1_bestBucket : MethodName := ⟨RX1, "bestBucket", "(LSeeSawForFive$Board;II)I"⟩
abbrev cX1_greatestPart : ByteArray := prog_3_method_7_code
def yX1_greatestPart : MethodName := ⟨RX1, "greatestPart", "(II)I"⟩
abbrev cX1_fit : ByteArray := prog_3_method_8_code
def yX1_fit : MethodName := ⟨RX1, "fit", "(LSeeSawForFive$Board;I)Z"⟩
def RX2 : String := "SeeSawForFive$Guesses"
def TX2 : u_T := fun k => match k with
  | 0 => ("SeeSawForFive$Guesses", "many", "I", false)
  | 1 => ("SeeSawForFive$Guesses", "lefts", "[I", true)
  | 2 => ("SeeSawForFive$Guesses", "rights", "[I", true)
  | _ => ("SeeSawForFive$Guesses", "told", "[I", true)
def tyX2 : Nat → FieldType := fun k => match k with
  | 0 => .int
  | 1 => .array .int
  | 2 => .array .int
  | _ => .array .int
abbrev wsX20 : List Cond := u_ws RX2 TX2 4
theorem nmX2 : ∀ a, a < 4 → ∀ b, b < 4 → a ≠ b → (TX2 a).2.1 ≠ (TX2 b).2.1 := by decide +kernel
theorem tyX2_ok : ∀ k, k < 4 → parseFieldDescriptor (TX2 k).2.2.1 = some (tyX2 k) := by decide +kernel
abbrev cX2_init : ByteArray := prog_4_method_1_code
def yX2_init : MethodName := ⟨RX2, "<init>", "()V"⟩
abbrev cX2_become : ByteArray := prog_4_method_2_code
def yX2_become : MethodName := ⟨RX2, "become", "(LSeeSawForFive$Guesses;)V"⟩
abbrev cX2_isFull : ByteArray := prog_4_method_3_code
def yX2_isFull : MethodName := ⟨RX2, "isFull", "()Z"⟩
abbrev cX2_add : ByteArray := prog_4_method_4_code
def yX2_add : MethodName := ⟨RX2, "add", "(III)V"⟩
abbrev cX2_fit : ByteArray := prog_4_method_5_code
def yX2_fit : MethodName := ⟨RX2, "fit", "(I)Z"⟩
def RX3 : String := "SeeSawForFive$Orders"
def TX3 : u_T := fun k => match k with
  | 0 => ("SeeSawForFive$Orders", "many", "I", false)
  | 1 => ("SeeSawForFive$Orders", "quiet", "I", false)
  | 2 => ("SeeSawForFive$Orders", "leastBang", "I", false)
  | 3 => ("SeeSawForFive$Orders", "best", "[I", true)
  | 4 => ("SeeSawForFive$Orders", "bang", "I", false)
  | 5 => ("SeeSawForFive$Orders", "sitters", "[I", true)
  | 6 => ("SeeSawForFive$Orders", "turns", "[I", true)
  | _ => ("SeeSawForFive$Orders", "at", "[I", true)
def tyX3 : Nat → FieldType := fun k => match k with
  | 0 => .int
  | 1 => .int
  | 2 => .int
  | 3 => .array .int
  | 4 => .int
  | 5 => .array .int
  | 6 => .array .int
  | _ => .array .int
abbrev wsX30 : List Cond := u_ws RX3 TX3 8
theorem nmX3 : ∀ a, a < 8 → ∀ b, b < 8 → a ≠ b → (TX3 a).2.1 ≠ (TX3 b).2.1 := by decide +kernel
theorem tyX3_ok : ∀ k, k < 8 → parseFieldDescriptor (TX3 k).2.2.1 = some (tyX3 k) := by decide +kernel
abbrev cX3_init : ByteArray := prog_5_method_1_code
def yX3_init : MethodName := ⟨RX3, "<init>", "()V"⟩
abbrev cX3_look : ByteArray := prog_5_method_2_code
def yX3_look : MethodName := ⟨RX3, "look", "(LSeeSawForFive$Board;I)V"⟩
abbrev cX3_goThrough : ByteArray := prog_5_method_3_code
def yX3_goThrough : MethodName := ⟨RX3, "goThrough", "(IIII)V"⟩
abbrev cX3_hear : ByteArray := prog_5_method_4_code
def yX3_hear : MethodName := ⟨RX3, "hear", "(I)V"⟩
def RX4 : String := "SeeSawForFive$Placings"
def TX4 : u_T := fun k => match k with
  | 0 => ("SeeSawForFive$Placings", "looked", "Z", false)
  | 1 => ("SeeSawForFive$Placings", "levelOnes", "I", false)
  | 2 => ("SeeSawForFive$Placings", "least", "I", false)
  | 3 => ("SeeSawForFive$Placings", "best", "[I", true)
  | 4 => ("SeeSawForFive$Placings", "children", "I", false)
  | 5 => ("SeeSawForFive$Placings", "seats", "I", false)
  | 6 => ("SeeSawForFive$Placings", "at", "[I", true)
  | 7 => ("SeeSawForFive$Placings", "feet", "[I", true)
  | _ => ("SeeSawForFive$Placings", "turns", "[[I", true)
def tyX4 : Nat → FieldType := fun k => match k with
  | 0 => .boolean
  | 1 => .int
  | 2 => .int
  | 3 => .array .int
  | 4 => .int
  | 5 => .int
  | 6 => .array .int
  | 7 => .array .int
  | _ => .array (.array .int)
abbrev wsX40 : List Cond := u_ws RX4 TX4 9
theorem nmX4 : ∀ a, a < 9 → ∀ b, b < 9 → a ≠ b → (TX4 a).2.1 ≠ (TX4 b).2.1 := by decide +kernel
theorem tyX4_ok : ∀ k, k < 9 → parseFieldDescriptor (TX4 k).2.2.1 = some (tyX4 k) := by decide +kernel
abbrev cX4_init : ByteArray := prog_6_method_1_code
def yX4_init : MethodName := ⟨RX4, "<init>", "()V"⟩
abbrev cX4_forget : ByteArray := prog_6_method_2_code
def yX4_forget : MethodName := ⟨RX4, "forget", "()V"⟩
abbrev cX4_look : ByteArray := prog_6_method_3_code
def yX4_look : MethodName := ⟨RX4, "look", "(LSeeSawForFive$Board;)V"⟩
abbrev cX4_goThrough : ByteArray := prog_6_method_4_code
def yX4_goThrough : MethodName := ⟨RX4, "goThrough", "(III)V"⟩
abbrev cX4_weigh : ByteArray := prog_6_method_5_code
def yX4_weigh : MethodName := ⟨RX4, "weigh", "(I)V"⟩
def RX5 : String := "SeeSawForFive$Swing"
def TX5 : u_T := fun k => match k with
  | 0 => ("SeeSawForFive$Swing", "speed", "I", false)
  | 1 => ("SeeSawForFive$Swing", "tilt", "I", false)
  | _ => ("SeeSawForFive$Swing", "gain", "I", false)
def tyX5 : Nat → FieldType := fun k => match k with
  | 0 => .int
  | 1 => .int
  | _ => .int
abbrev wsX50 : List Cond := u_ws RX5 TX5 3
theorem nmX5 : ∀ a, a < 3 → ∀ b, b < 3 → a ≠ b → (TX5 a).2.1 ≠ (TX5 b).2.1 := by decide +kernel
theorem tyX5_ok : ∀ k, k < 3 → parseFieldDescriptor (TX5 k).2.2.1 = some (tyX5 k) := by decide +kernel
abbrev cX5_init : ByteArray := prog_7_method_1_code
def yX5_init : MethodName := ⟨RX5, "<init>", "()V"⟩
abbrev cX5_start : ByteArray := prog_7_method_2_code
def yX5_start : MethodName := ⟨RX5, "start", "(LSeeSawForFive$Board;)V"⟩
abbrev cX5_turn : ByteArray := prog_7_method_3_code
def yX5_turn : MethodName := ⟨RX5, "turn", "()V"⟩
abbrev cX5_isDown : ByteArray := prog_7_method_4_code
def yX5_isDown : MethodName := ⟨RX5, "isDown", "()Z"⟩
abbrev cX5_pushOff : ByteArray := prog_7_method_5_code
def yX5_pushOff : MethodName := ⟨RX5, "pushOff", "(LSeeSawForFive$Board;)V"⟩
def RX6 : String := "SeeSawForFive$Text"
def TX6 : u_T := fun k => match k with
  | 0 => ("SeeSawForFive$Text", "letters", "[I", true)
  | 1 => ("SeeSawForFive$Text", "many", "I", false)
  | 2 => ("SeeSawForFive$Text", "place", "I", false)
  | 3 => ("SeeSawForFive$Text", "verb", "I", false)
  | _ => ("SeeSawForFive$Text", "told", "[I", true)
def tyX6 : Nat → FieldType := fun k => match k with
  | 0 => .array .int
  | 1 => .int
  | 2 => .int
  | 3 => .int
  | _ => .array .int
abbrev wsX60 : List Cond := u_ws RX6 TX6 5
theorem nmX6 : ∀ a, a < 5 → ∀ b, b < 5 → a ≠ b → (TX6 a).2.1 ≠ (TX6 b).2.1 := by decide +kernel
theorem tyX6_ok : ∀ k, k < 5 → parseFieldDescriptor (TX6 k).2.2.1 = some (tyX6 k) := by decide +kernel
abbrev cX6_init : ByteArray := prog_8_method_1_code
def yX6_init : MethodName := ⟨RX6, "<init>", "()V"⟩
abbrev cX6_isFull : ByteArray := prog_8_method_2_code
def yX6_isFull : MethodName := ⟨RX6, "isFull", "()Z"⟩
abbrev cX6_add : ByteArray := prog_8_method_3_code
def yX6_add : MethodName := ⟨RX6, "add", "(I)V"⟩
abbrev cX6_empty : ByteArray := prog_8_method_4_code
def yX6_empty : MethodName := ⟨RX6, "empty", "()V"⟩
abbrev cX6_faultPlace : ByteArray := prog_8_method_5_code
def yX6_faultPlace : MethodName := ⟨RX6, "faultPlace", "()I"⟩
abbrev cX6_readStatement : ByteArray := prog_8_method_6_code
def yX6_readStatement : MethodName := ⟨RX6, "readStatement", "()Z"⟩
abbrev cX6_formOf : ByteArray := prog_8_method_7_code
def yX6_formOf : MethodName := ⟨RX6, "formOf", "(I)Ljava/lang/String;"⟩
abbrev cX6_here : ByteArray := prog_8_method_8_code
def yX6_here : MethodName := ⟨RX6, "here", "()I"⟩
abbrev cX6_readNumber : ByteArray := prog_8_method_9_code
def yX6_readNumber : MethodName := ⟨RX6, "readNumber", "()I"⟩
abbrev cX6_readSign : ByteArray := prog_8_method_10_code
def yX6_readSign : MethodName := ⟨RX6, "readSign", "(C)I"⟩
abbrev cX6_valueOf : ByteArray := prog_8_method_11_code
def yX6_valueOf : MethodName := ⟨RX6, "valueOf", "(CI)I"⟩
abbrev cX6_digitOf : ByteArray := prog_8_method_12_code
def yX6_digitOf : MethodName := ⟨RX6, "digitOf", "(I)I"⟩
abbrev cX6_kindOf : ByteArray := prog_8_method_13_code
def yX6_kindOf : MethodName := ⟨RX6, "kindOf", "(I)I"⟩
abbrev cX6_sideOfLetter : ByteArray := prog_8_method_14_code
def yX6_sideOfLetter : MethodName := ⟨RX6, "sideOfLetter", "(I)I"⟩
def RX7 : String := "SeeSawForFive"
def TX7 : u_T := fun k => match k with
  | 0 => ("SeeSawForFive", "text", "LSeeSawForFive$Text;", true)
  | 1 => ("SeeSawForFive", "now", "LSeeSawForFive$Board;", true)
  | 2 => ("SeeSawForFive", "trial", "LSeeSawForFive$Board;", true)
  | 3 => ("SeeSawForFive", "keptBoard", "LSeeSawForFive$Board;", true)
  | 4 => ("SeeSawForFive", "goes", "LSeeSawForFive$Goes;", true)
  | 5 => ("SeeSawForFive", "keptGoes", "LSeeSawForFive$Goes;", true)
  | 6 => ("SeeSawForFive", "guesses", "LSeeSawForFive$Guesses;", true)
  | 7 => ("SeeSawForFive", "keptGuesses", "LSeeSawForFive$Guesses;", true)
  | 8 => ("SeeSawForFive", "placings", "LSeeSawForFive$Placings;", true)
  | 9 => ("SeeSawForFive", "orders", "LSeeSawForFive$Orders;", true)
  | 10 => ("SeeSawForFive", "swing", "LSeeSawForFive$Swing;", true)
  | 11 => ("SeeSawForFive", "row", "[I", true)
  | 12 => ("SeeSawForFive", "refusals", "[I", true)
  | 13 => ("SeeSawForFive", "rowMany", "I", false)
  | _ => ("SeeSawForFive", "kept", "Z", false)
def tyX7 : Nat → FieldType := fun k => match k with
  | 0 => .object "SeeSawForFive$Text"
  | 1 => .object "SeeSawForFive$Board"
  | 2 => .object "SeeSawForFive$Board"
  | 3 => .object "SeeSawForFive$Board"
  | 4 => .object "SeeSawForFive$Goes"
  | 5 => .object "SeeSawForFive$Goes"
  | 6 => .object "SeeSawForFive$Guesses"
  | 7 => .object "SeeSawForFive$Guesses"
  | 8 => .object "SeeSawForFive$Placings"
  | 9 => .object "SeeSawForFive$Orders"
  | 10 => .object "SeeSawForFive$Swing"
  | 11 => .array .int
  | 12 => .array .int
  | 13 => .int
  | _ => .boolean
abbrev wsX70 : List Cond := u_ws RX7 TX7 15
theorem nmX7 : ∀ a, a < 15 → ∀ b, b < 15 → a ≠ b → (TX7 a).2.1 ≠ (TX7 b).2.1 := by decide +kernel
theorem tyX7_ok : ∀ k, k < 15 → parseFieldDescriptor (TX7 k).2.2.1 = some (tyX7 k) := by decide +kernel
abbrev cX7_init : ByteArray := prog_1_method_1_code
def yX7_init : MethodName := ⟨RX7, "<init>", "()V"⟩
abbrev cX7_letter : ByteArray := prog_1_method_2_code
def yX7_letter : MethodName := ⟨RX7, "letter", "(I)I"⟩
abbrev cX7_board : ByteArray := prog_1_method_3_code
def yX7_board : MethodName := ⟨RX7, "board", "()I"⟩
abbrev cX7_child : ByteArray := prog_1_method_4_code
def yX7_child : MethodName := ⟨RX7, "child", "(II)I"⟩
abbrev cX7_seat : ByteArray := prog_1_method_5_code
def yX7_seat : MethodName := ⟨RX7, "seat", "(I)I"⟩
abbrev cX7_sit : ByteArray := prog_1_method_6_code
def yX7_sit : MethodName := ⟨RX7, "sit", "(II)I"⟩
abbrev cX7_notch : ByteArray := prog_1_method_7_code
def yX7_notch : MethodName := ⟨RX7, "notch", "(I)I"⟩
abbrev cX7_sum : ByteArray := prog_1_method_8_code
def yX7_sum : MethodName := ⟨RX7, "sum", "()I"⟩
abbrev cX7_down : ByteArray := prog_1_method_9_code
def yX7_down : MethodName := ⟨RX7, "down", "()I"⟩
abbrev cX7_level : ByteArray := prog_1_method_10_code
def yX7_level : MethodName := ⟨RX7, "level", "()I"⟩
abbrev cX7_first : ByteArray := prog_1_method_11_code
def yX7_first : MethodName := ⟨RX7, "first", "(II)I"⟩
abbrev cX7_off : ByteArray := prog_1_method_12_code
def yX7_off : MethodName := ⟨RX7, "off", "()I"⟩
abbrev cX7_bucket : ByteArray := prog_1_method_13_code
def yX7_bucket : MethodName := ⟨RX7, "bucket", "(I)I"⟩
abbrev cX7_notchBest : ByteArray := prog_1_method_14_code
def yX7_notchBest : MethodName := ⟨RX7, "notchBest", "()I"⟩
abbrev cX7_orders : ByteArray := prog_1_method_15_code
def yX7_orders : MethodName := ⟨RX7, "orders", "(I)I"⟩
abbrev cX7_order : ByteArray := prog_1_method_16_code
def yX7_order : MethodName := ⟨RX7, "order", "(II)I"⟩
abbrev cX7_leastBang : ByteArray := prog_1_method_17_code
def yX7_leastBang : MethodName := ⟨RX7, "leastBang", "()I"⟩
abbrev cX7_go : ByteArray := prog_1_method_18_code
def yX7_go : MethodName := ⟨RX7, "go", "(IIII)I"⟩
abbrev cX7_fitting : ByteArray := prog_1_method_19_code
def yX7_fitting : MethodName := ⟨RX7, "fitting", "(I)I"⟩
abbrev cX7_next : ByteArray := prog_1_method_20_code
def yX7_next : MethodName := ⟨RX7, "next", "(II)I"⟩
abbrev cX7_inertia : ByteArray := prog_1_method_21_code
def yX7_inertia : MethodName := ⟨RX7, "inertia", "()I"⟩
abbrev cX7_comesDown : ByteArray := prog_1_method_22_code
def yX7_comesDown : MethodName := ⟨RX7, "comesDown", "(I)I"⟩
abbrev cX7_up : ByteArray := prog_1_method_23_code
def yX7_up : MethodName := ⟨RX7, "up", "(I)I"⟩
abbrev cX7_thrown : ByteArray := prog_1_method_24_code
def yX7_thrown : MethodName := ⟨RX7, "thrown", "(IIIII)I"⟩
abbrev cX7_highest : ByteArray := prog_1_method_25_code
def yX7_highest : MethodName := ⟨RX7, "highest", "(I)I"⟩
abbrev cX7_guess : ByteArray := prog_1_method_26_code
def yX7_guess : MethodName := ⟨RX7, "guess", "(III)I"⟩
abbrev cX7_parting : ByteArray := prog_1_method_27_code
def yX7_parting : MethodName := ⟨RX7, "parting", "(III)I"⟩
abbrev cX7_guessed : ByteArray := prog_1_method_28_code
def yX7_guessed : MethodName := ⟨RX7, "guessed", "(III)I"⟩
abbrev cX7_rules : ByteArray := prog_1_method_29_code
def yX7_rules : MethodName := ⟨RX7, "rules", "()I"⟩
abbrev cX7_seeds : ByteArray := prog_1_method_30_code
def yX7_seeds : MethodName := ⟨RX7, "seeds", "(III)I"⟩
abbrev cX7_row : ByteArray := prog_1_method_31_code
def yX7_row : MethodName := ⟨RX7, "row", "(I)I"⟩
abbrev cX7_judge : ByteArray := prog_1_method_32_code
def yX7_judge : MethodName := ⟨RX7, "judge", "()I"⟩
abbrev cX7_image : ByteArray := prog_1_method_33_code
def yX7_image : MethodName := ⟨RX7, "image", "()I"⟩
abbrev cX7_on : ByteArray := prog_1_method_34_code
def yX7_on : MethodName := ⟨RX7, "on", "()I"⟩
abbrev cX7_count : ByteArray := prog_1_method_35_code
def yX7_count : MethodName := ⟨RX7, "count", "(I)I"⟩
abbrev cX7_refuse : ByteArray := prog_1_method_36_code
def yX7_refuse : MethodName := ⟨RX7, "refuse", "(I)I"⟩
abbrev cX7_refuseApart : ByteArray := prog_1_method_37_code
def yX7_refuseApart : MethodName := ⟨RX7, "refuseApart", "(I)I"⟩
abbrev cX7_readBoard : ByteArray := prog_1_method_38_code
def yX7_readBoard : MethodName := ⟨RX7, "readBoard", "()I"⟩
abbrev cX7_lookAtRow : ByteArray := prog_1_method_39_code
def yX7_lookAtRow : MethodName := ⟨RX7, "lookAtRow", "()I"⟩
abbrev cX7_sideOf : ByteArray := prog_1_method_40_code
def yX7_sideOf : MethodName := ⟨RX7, "sideOf", "(I)I"⟩
abbrev cX7_isSide : ByteArray := prog_1_method_41_code
def yX7_isSide : MethodName := ⟨RX7, "isSide", "(I)Z"⟩
abbrev cX7_areOpposite : ByteArray := prog_1_method_42_code
def yX7_areOpposite : MethodName := ⟨RX7, "areOpposite", "(II)Z"⟩
abbrev cX7_inLeastTerms : ByteArray := prog_1_method_43_code
def yX7_inLeastTerms : MethodName := ⟨RX7, "inLeastTerms", "(II)I"⟩
abbrev cX7_isRule : ByteArray := prog_1_method_44_code
def yX7_isRule : MethodName := ⟨RX7, "isRule", "(I)Z"⟩
abbrev cX7_isWeightAndFeet : ByteArray := prog_1_method_45_code
def yX7_isWeightAndFeet : MethodName := ⟨RX7, "isWeightAndFeet", "(I)Z"⟩
abbrev cX7_areParted : ByteArray := prog_1_method_46_code
def yX7_areParted : MethodName := ⟨RX7, "areParted", "(IIII)Z"⟩
abbrev cX7_isOfParting : ByteArray := prog_1_method_47_code
def yX7_isOfParting : MethodName := ⟨RX7, "isOfParting", "(I)Z"⟩
abbrev cX7_guessBy : ByteArray := prog_1_method_48_code
def yX7_guessBy : MethodName := ⟨RX7, "guessBy", "(III)I"⟩
def RX8 : String := "SeeSawForFiveModel"
def TX8 : u_T := fun k => match k with
  | 0 => ("SeeSawForFiveModel", "refusals", "[I", true)
  | 1 => ("SeeSawForFiveModel", "s", "[I", true)
  | 2 => ("SeeSawForFiveModel", "image", "[I", true)
  | 3 => ("SeeSawForFiveModel", "read", "[I", true)
  | 4 => ("SeeSawForFiveModel", "isImage", "Z", false)
  | 5 => ("SeeSawForFiveModel", "tape", "[I", true)
  | 6 => ("SeeSawForFiveModel", "told", "[I", true)
  | 7 => ("SeeSawForFiveModel", "taped", "I", false)
  | 8 => ("SeeSawForFiveModel", "at", "I", false)
  | 9 => ("SeeSawForFiveModel", "tried", "[I", true)
  | 10 => ("SeeSawForFiveModel", "firstLevel", "[I", true)
  | 11 => ("SeeSawForFiveModel", "firstLeast", "[I", true)
  | 12 => ("SeeSawForFiveModel", "levels", "I", false)
  | 13 => ("SeeSawForFiveModel", "leastOff", "I", false)
  | 14 => ("SeeSawForFiveModel", "firstOrder", "[I", true)
  | 15 => ("SeeSawForFiveModel", "orders", "I", false)
  | 16 => ("SeeSawForFiveModel", "leastBang", "I", false)
  | 17 => ("SeeSawForFiveModel", "part", "[I", true)
  | 18 => ("SeeSawForFiveModel", "speed", "I", false)
  | 19 => ("SeeSawForFiveModel", "tilt", "I", false)
  | 20 => ("SeeSawForFiveModel", "keptRow", "[I", true)
  | 21 => ("SeeSawForFiveModel", "row", "[I", true)
  | _ => ("SeeSawForFiveModel", "rowed", "I", false)
def tyX8 : Nat → FieldType := fun k => match k with
  | 0 => .array .int
  | 1 => .array .int
  | 2 => .array .int
  | 3 => .array .int
  | 4 => .boolean
  | 5 => .array .int
  | 6 => .array .int
  | 7 => .int
  | 8 => .int
  | 9 => .array .int
  | 10 => .array .int
  | 11 => .array .int
  | 12 => .int
  | 13 => .int
  | 14 => .array .int
  | 15 => .int
  | 16 => .int
  | 17 => .array .int
  | 18 => .int
  | 19 => .int
  | 20 => .array .int
  | 21 => .array .int
  | _ => .int
abbrev wsX80 : List Cond := u_ws RX8 TX8 23
theorem nmX8 : ∀ a, a < 23 → ∀ b, b < 23 → a ≠ b → (TX8 a).2.1 ≠ (TX8 b).2.1 := by decide +kernel
theorem tyX8_ok : ∀ k, k < 23 → parseFieldDescriptor (TX8 k).2.2.1 = some (tyX8 k) := by decide +kernel
abbrev cX8_init : ByteArray := prog_10_method_1_code
def yX8_init : MethodName := ⟨RX8, "<init>", "()V"⟩
abbrev cX8_refuse : ByteArray := prog_10_method_2_code
def yX8_refuse : MethodName := ⟨RX8, "refuse", "(I)I"⟩
abbrev cX8_isIn : ByteArray := prog_10_method_3_code
def yX8_isIn : MethodName := ⟨RX8, "isIn", "(II)Z"⟩
abbrev cX8_within : ByteArray := prog_10_method_4_code
def yX8_within : MethodName := ⟨RX8, "within", "(III)I"⟩
abbrev cX8_amount : ByteArray := prog_10_method_5_code
def yX8_amount : MethodName := ⟨RX8, "amount", "(I)I"⟩
abbrev cX8_copies : ByteArray := prog_10_method_6_code
def yX8_copies : MethodName := ⟨RX8, "copies", "([I[I)V"⟩
abbrev cX8_common : ByteArray := prog_10_method_7_code
def yX8_common : MethodName := ⟨RX8, "common", "(II)I"⟩
abbrev cX8_isKid : ByteArray := prog_10_method_8_code
def yX8_isKid : MethodName := ⟨RX8, "isKid", "(I)Z"⟩
abbrev cX8_kid : ByteArray := prog_10_method_9_code
def yX8_kid : MethodName := ⟨RX8, "kid", "(II)I"⟩
abbrev cX8_seatOf : ByteArray := prog_10_method_10_code
def yX8_seatOf : MethodName := ⟨RX8, "seatOf", "(I)I"⟩
abbrev cX8_isSeat : ByteArray := prog_10_method_11_code
def yX8_isSeat : MethodName := ⟨RX8, "isSeat", "(I)Z"⟩
abbrev cX8_letter : ByteArray := prog_10_method_12_code
def yX8_letter : MethodName := ⟨RX8, "letter", "(I)I"⟩
abbrev cX8_sign : ByteArray := prog_10_method_13_code
def yX8_sign : MethodName := ⟨RX8, "sign", "()I"⟩
abbrev cX8_takes : ByteArray := prog_10_method_14_code
def yX8_takes : MethodName := ⟨RX8, "takes", "(I)Z"⟩
abbrev cX8_readsNumber : ByteArray := prog_10_method_15_code
def yX8_readsNumber : MethodName := ⟨RX8, "readsNumber", "(II)Z"⟩
abbrev cX8_kindOf : ByteArray := prog_10_method_16_code
def yX8_kindOf : MethodName := ⟨RX8, "kindOf", "(I)I"⟩
abbrev cX8_readsKind : ByteArray := prog_10_method_17_code
def yX8_readsKind : MethodName := ⟨RX8, "readsKind", "()Z"⟩
abbrev cX8_readsSide : ByteArray := prog_10_method_18_code
def yX8_readsSide : MethodName := ⟨RX8, "readsSide", "()Z"⟩
abbrev cX8_readsStatement : ByteArray := prog_10_method_19_code
def yX8_readsStatement : MethodName := ⟨RX8, "readsStatement", "()Z"⟩
abbrev cX8_readSeat : ByteArray := prog_10_method_20_code
def yX8_readSeat : MethodName := ⟨RX8, "readSeat", "(I)I"⟩
abbrev cX8_comes : ByteArray := prog_10_method_21_code
def yX8_comes : MethodName := ⟨RX8, "comes", "(I)Z"⟩
abbrev cX8_reads : ByteArray := prog_10_method_22_code
def yX8_reads : MethodName := ⟨RX8, "reads", "()I"⟩
abbrev cX8_board : ByteArray := prog_10_method_23_code
def yX8_board : MethodName := ⟨RX8, "board", "()I"⟩
abbrev cX8_child : ByteArray := prog_10_method_24_code
def yX8_child : MethodName := ⟨RX8, "child", "(II)I"⟩
abbrev cX8_seat : ByteArray := prog_10_method_25_code
def yX8_seat : MethodName := ⟨RX8, "seat", "(I)I"⟩
abbrev cX8_whoSits : ByteArray := prog_10_method_26_code
def yX8_whoSits : MethodName := ⟨RX8, "whoSits", "(I)I"⟩
abbrev cX8_sit : ByteArray := prog_10_method_27_code
def yX8_sit : MethodName := ⟨RX8, "sit", "(II)I"⟩
abbrev cX8_notch : ByteArray := prog_10_method_28_code
def yX8_notch : MethodName := ⟨RX8, "notch", "(I)I"⟩
abbrev cX8_armOf : ByteArray := prog_10_method_29_code
def yX8_armOf : MethodName := ⟨RX8, "armOf", "(I)I"⟩
abbrev cX8_turnBy : ByteArray := prog_10_method_30_code
def yX8_turnBy : MethodName := ⟨RX8, "turnBy", "(III)I"⟩
abbrev cX8_turnOf : ByteArray := prog_10_method_31_code
def yX8_turnOf : MethodName := ⟨RX8, "turnOf", "(II)I"⟩
abbrev cX8_bare : ByteArray := prog_10_method_32_code
def yX8_bare : MethodName := ⟨RX8, "bare", "(I)I"⟩
abbrev cX8_sumNow : ByteArray := prog_10_method_33_code
def yX8_sumNow : MethodName := ⟨RX8, "sumNow", "()I"⟩
abbrev cX8_sum : ByteArray := prog_10_method_34_code
def yX8_sum : MethodName := ⟨RX8, "sum", "()I"⟩
abbrev cX8_downBy : ByteArray := prog_10_method_35_code
def yX8_downBy : MethodName := ⟨RX8, "downBy", "(I)I"⟩
abbrev cX8_down : ByteArray := prog_10_method_36_code
def yX8_down : MethodName := ⟨RX8, "down", "()I"⟩
abbrev cX8_places : ByteArray := prog_10_method_37_code
def yX8_places : MethodName := ⟨RX8, "places", "(II)V"⟩
abbrev cX8_findsPlacings : ByteArray := prog_10_method_38_code
def yX8_findsPlacings : MethodName := ⟨RX8, "findsPlacings", "()V"⟩
abbrev cX8_level : ByteArray := prog_10_method_39_code
def yX8_level : MethodName := ⟨RX8, "level", "()I"⟩
abbrev cX8_first : ByteArray := prog_10_method_40_code
def yX8_first : MethodName := ⟨RX8, "first", "(II)I"⟩
abbrev cX8_off : ByteArray := prog_10_method_41_code
def yX8_off : MethodName := ⟨RX8, "off", "()I"⟩
abbrev cX8_bucket : ByteArray := prog_10_method_42_code
def yX8_bucket : MethodName := ⟨RX8, "bucket", "(I)I"⟩
abbrev cX8_notchBest : ByteArray := prog_10_method_43_code
def yX8_notchBest : MethodName := ⟨RX8, "notchBest", "()I"⟩
abbrev cX8_sitters : ByteArray := prog_10_method_44_code
def yX8_sitters : MethodName := ⟨RX8, "sitters", "()I"⟩
abbrev cX8_gets : ByteArray := prog_10_method_45_code
def yX8_gets : MethodName := ⟨RX8, "gets", "(IIIII)V"⟩
abbrev cX8_findsOrders : ByteArray := prog_10_method_46_code
def yX8_findsOrders : MethodName := ⟨RX8, "findsOrders", "(I)V"⟩
abbrev cX8_orders : ByteArray := prog_10_method_47_code
def yX8_orders : MethodName := ⟨RX8, "orders", "(I)I"⟩
abbrev cX8_order : ByteArray := prog_10_method_48_code
def yX8_order : MethodName := ⟨RX8, "order", "(II)I"⟩
abbrev cX8_leastBang : ByteArray := prog_10_method_49_code
def yX8_leastBang : MethodName := ⟨RX8, "leastBang", "()I"⟩
abbrev cX8_go : ByteArray := prog_10_method_50_code
def yX8_go : MethodName := ⟨RX8, "go", "(IIII)I"⟩
abbrev cX8_downWith : ByteArray := prog_10_method_51_code
def yX8_downWith : MethodName := ⟨RX8, "downWith", "(IIII)I"⟩
abbrev cX8_fits : ByteArray := prog_10_method_52_code
def yX8_fits : MethodName := ⟨RX8, "fits", "(I)Z"⟩
abbrev cX8_fitting : ByteArray := prog_10_method_53_code
def yX8_fitting : MethodName := ⟨RX8, "fitting", "(I)I"⟩
abbrev cX8_greatestPart : ByteArray := prog_10_method_54_code
def yX8_greatestPart : MethodName := ⟨RX8, "greatestPart", "(III)I"⟩
abbrev cX8_next : ByteArray := prog_10_method_55_code
def yX8_next : MethodName := ⟨RX8, "next", "(II)I"⟩
abbrev cX8_inertiaNow : ByteArray := prog_10_method_56_code
def yX8_inertiaNow : MethodName := ⟨RX8, "inertiaNow", "()I"⟩
abbrev cX8_inertia : ByteArray := prog_10_method_57_code
def yX8_inertia : MethodName := ⟨RX8, "inertia", "()I"⟩
abbrev cX8_goesTenth : ByteArray := prog_10_method_58_code
def yX8_goesTenth : MethodName := ⟨RX8, "goesTenth", "(I)V"⟩
abbrev cX8_more : ByteArray := prog_10_method_59_code
def yX8_more : MethodName := ⟨RX8, "more", "()I"⟩
abbrev cX8_comesDown : ByteArray := prog_10_method_60_code
def yX8_comesDown : MethodName := ⟨RX8, "comesDown", "(I)I"⟩
abbrev cX8_legsOn : ByteArray := prog_10_method_61_code
def yX8_legsOn : MethodName := ⟨RX8, "legsOn", "(I)I"⟩
abbrev cX8_up : ByteArray := prog_10_method_62_code
def yX8_up : MethodName := ⟨RX8, "up", "(I)I"⟩
abbrev cX8_thrown : ByteArray := prog_10_method_63_code
def yX8_thrown : MethodName := ⟨RX8, "thrown", "(IIIII)I"⟩
abbrev cX8_highest : ByteArray := prog_10_method_64_code
def yX8_highest : MethodName := ⟨RX8, "highest", "(I)I"⟩
abbrev cX8_areDigits : ByteArray := prog_10_method_65_code
def yX8_areDigits : MethodName := ⟨RX8, "areDigits", "(I)Z"⟩
abbrev cX8_compared : ByteArray := prog_10_method_66_code
def yX8_compared : MethodName := ⟨RX8, "compared", "(II)I"⟩
abbrev cX8_guessBy : ByteArray := prog_10_method_67_code
def yX8_guessBy : MethodName := ⟨RX8, "guessBy", "(III)I"⟩
abbrev cX8_guess : ByteArray := prog_10_method_68_code
def yX8_guess : MethodName := ⟨RX8, "guess", "(III)I"⟩
abbrev cX8_parting : ByteArray := prog_10_method_69_code
def yX8_parting : MethodName := ⟨RX8, "parting", "(III)I"⟩
abbrev cX8_guessed : ByteArray := prog_10_method_70_code
def yX8_guessed : MethodName := ⟨RX8, "guessed", "(III)I"⟩
abbrev cX8_rules : ByteArray := prog_10_method_71_code
def yX8_rules : MethodName := ⟨RX8, "rules", "()I"⟩
abbrev cX8_seeds : ByteArray := prog_10_method_72_code
def yX8_seeds : MethodName := ⟨RX8, "seeds", "(III)I"⟩
abbrev cX8_row : ByteArray := prog_10_method_73_code
def yX8_row : MethodName := ⟨RX8, "row", "(I)I"⟩
abbrev cX8_judge : ByteArray := prog_10_method_74_code
def yX8_judge : MethodName := ⟨RX8, "judge", "()I"⟩
abbrev cX8_image : ByteArray := prog_10_method_75_code
def yX8_image : MethodName := ⟨RX8, "image", "()I"⟩
abbrev cX8_on : ByteArray := prog_10_method_76_code
def yX8_on : MethodName := ⟨RX8, "on", "()I"⟩
abbrev cX8_count : ByteArray := prog_10_method_77_code
def yX8_count : MethodName := ⟨RX8, "count", "(I)I"⟩
def RJ6 : String := "java/lang/Integer"
def TJ6 : u_T := fun k => match k with
  | _ => ("", "", "", false)
def tyJ6 : Nat → FieldType := fun k => match k with
  | _ => .int
abbrev wsJ60 : List Cond := u_ws RJ6 TJ6 0
theorem nmJ6 : ∀ a, a < 0 → ∀ b, b < 0 → a ≠ b → (TJ6 a).2.1 ≠ (TJ6 b).2.1 := by decide +kernel
theorem tyJ6_ok : ∀ k, k < 0 → parseFieldDescriptor (TJ6 k).2.2.1 = some (tyJ6 k) := by decide +kernel
abbrev cJ6_signum_0f7a4 : ByteArray := prog_11_method_56_code
def yJ6_signum_0f7a4 : MethodName := ⟨RJ6, "signum", "(I)I"⟩
def RJ9 : String := "java/lang/Math"
def TJ9 : u_T := fun k => match k with
  | _ => ("", "", "", false)
def tyJ9 : Nat → FieldType := fun k => match k with
  | _ => .int
abbrev wsJ90 : List Cond := u_ws RJ9 TJ9 0
theorem nmJ9 : ∀ a, a < 0 → ∀ b, b < 0 → a ≠ b → (TJ9 a).2.1 ≠ (TJ9 b).2.1 := by decide +kernel
theorem tyJ9_ok : ∀ k, k < 0 → parseFieldDescriptor (TJ9 k).2.2.1 = some (tyJ9 k) := by decide +kernel
abbrev cJ9_abs_0f7a4 : ByteArray := prog_12_method_59_code
def yJ9_abs_0f7a4 : MethodName := ⟨RJ9, "abs", "(I)I"⟩
abbrev cJ9_max_7cf53 : ByteArray := prog_12_method_65_code
def yJ9_max_7cf53 : MethodName := ⟨RJ9, "max", "(II)I"⟩
abbrev cJ9_min_7cf53 : ByteArray := prog_12_method_69_code
def yJ9_min_7cf53 : MethodName := ⟨RJ9, "min", "(II)I"⟩
def RJ0 : String := "java/lang/String"
def TJ0 : u_T := fun k => match k with
  | _ => ("", "", "", false)
def tyJ0 : Nat → FieldType := fun k => match k with
  | _ => .int
abbrev wsJ00 : List Cond := u_ws RJ0 TJ0 0
theorem nmJ0 : ∀ a, a < 0 → ∀ b, b < 0 → a ≠ b → (TJ0 a).2.1 ≠ (TJ0 b).2.1 := by decide +kernel
theorem tyJ0_ok : ∀ k, k < 0 → parseFieldDescriptor (TJ0 k).2.2.1 = some (tyJ0 k) := by decide +kernel
abbrev cJ0_length_8abf5 : ByteArray := prog_13_method_54_code
def yJ0_length_8abf5 : MethodName := ⟨RJ0, "length", "()I"⟩
abbrev cJ0_isEmpty_aae02 : ByteArray := prog_13_method_55_code
def yJ0_isEmpty_aae02 : MethodName := ⟨RJ0, "isEmpty", "()Z"⟩
abbrev cJ0_charAt_5068e : ByteArray := prog_13_method_56_code
def yJ0_charAt_5068e : MethodName := ⟨RJ0, "charAt", "(I)C"⟩
abbrev cJ0_coder_7d493 : ByteArray := prog_13_method_152_code
def yJ0_coder_7d493 : MethodName := ⟨RJ0, "coder", "()B"⟩
abbrev cJ0_isLatin1_aae02 : ByteArray := prog_13_method_154_code
def yJ0_isLatin1_aae02 : MethodName := ⟨RJ0, "isLatin1", "()Z"⟩
abbrev cJ0_checkIndex_df160 : ByteArray := prog_13_method_155_code
def yJ0_checkIndex_df160 : MethodName := ⟨RJ0, "checkIndex", "(II)V"⟩
def RJ1 : String := "java/lang/StringLatin1"
def TJ1 : u_T := fun k => match k with
  | _ => ("", "", "", false)
def tyJ1 : Nat → FieldType := fun k => match k with
  | _ => .int
abbrev wsJ10 : List Cond := u_ws RJ1 TJ1 0
theorem nmJ1 : ∀ a, a < 0 → ∀ b, b < 0 → a ≠ b → (TJ1 a).2.1 ≠ (TJ1 b).2.1 := by decide +kernel
theorem tyJ1_ok : ∀ k, k < 0 → parseFieldDescriptor (TJ1 k).2.2.1 = some (tyJ1 k) := by decide +kernel
abbrev cJ1_charAt_3b067 : ByteArray := prog_14_method_2_code
def yJ1_charAt_3b067 : MethodName := ⟨RJ1, "charAt", "([BI)C"⟩
def RJ2 : String := "java/lang/StringUTF16"
def TJ2 : u_T := fun k => match k with
  | _ => ("", "", "", false)
def tyJ2 : Nat → FieldType := fun k => match k with
  | _ => .int
abbrev wsJ20 : List Cond := u_ws RJ2 TJ2 0
theorem nmJ2 : ∀ a, a < 0 → ∀ b, b < 0 → a ≠ b → (TJ2 a).2.1 ≠ (TJ2 b).2.1 := by decide +kernel
theorem tyJ2_ok : ∀ k, k < 0 → parseFieldDescriptor (TJ2 k).2.2.1 = some (tyJ2 k) := by decide +kernel
abbrev cJ2_getChar_3b067 : ByteArray := prog_15_method_5_code
def yJ2_getChar_3b067 : MethodName := ⟨RJ2, "getChar", "([BI)C"⟩
abbrev cJ2_length_9d52b : ByteArray := prog_15_method_6_code
def yJ2_length_9d52b : MethodName := ⟨RJ2, "length", "([B)I"⟩
abbrev cJ2_charAt_3b067 : ByteArray := prog_15_method_83_code
def yJ2_charAt_3b067 : MethodName := ⟨RJ2, "charAt", "([BI)C"⟩
abbrev cJ2_checkIndex_2214a : ByteArray := prog_15_method_91_code
def yJ2_checkIndex_2214a : MethodName := ⟨RJ2, "checkIndex", "(I[B)V"⟩
def RJ10 : String := "java/lang/System"
def TJ10 : u_T := fun k => match k with
  | _ => ("", "", "", false)
def tyJ10 : Nat → FieldType := fun k => match k with
  | _ => .int
abbrev wsJ100 : List Cond := u_ws RJ10 TJ10 0
theorem nmJ10 : ∀ a, a < 0 → ∀ b, b < 0 → a ≠ b → (TJ10 a).2.1 ≠ (TJ10 b).2.1 := by decide +kernel
theorem tyJ10_ok : ∀ k, k < 0 → parseFieldDescriptor (TJ10 k).2.2.1 = some (tyJ10 k) := by decide +kernel
def RJ3 : String := "jdk/internal/util/Preconditions"
def TJ3 : u_T := fun k => match k with
  | _ => ("", "", "", false)
def tyJ3 : Nat → FieldType := fun k => match k with
  | _ => .int
abbrev wsJ30 : List Cond := u_ws RJ3 TJ3 0
theorem nmJ3 : ∀ a, a < 0 → ∀ b, b < 0 → a ≠ b → (TJ3 a).2.1 ≠ (TJ3 b).2.1 := by decide +kernel
theorem tyJ3_ok : ∀ k, k < 0 → parseFieldDescriptor (TJ3 k).2.2.1 = some (tyJ3 k) := by decide +kernel
abbrev cJ3_checkIndex_8e157 : ByteArray := prog_17_method_11_code
def yJ3_checkIndex_8e157 : MethodName := ⟨RJ3, "checkIndex", "(IILjava/util/function/BiFunction;)I"⟩
def RL : String := "SeeSawForFiveLaw"
abbrev cL_law : ByteArray := code
def yL_law : MethodName := ⟨RL, "law", "([I)Z"⟩
def wsL_law_r1 : List Cond := [Cond.classLink RL 7 RX7, Cond.instantiable RX7 15, Cond.initialized RX7, Cond.classLink RL 10 RX8, Cond.instantiable RX8 23, Cond.initialized RX8, Cond.methodLink RL 9 yX7_init, Cond.instanceMethod yX7_init, Cond.code yX7_init cX7_init 1 none, Cond.methodLink RX7 1 objectInit, Cond.instanceMethod objectInit, Cond.code objectInit ⟨#[0xb1]⟩ 1 none, Cond.classLink RX7 7 RX6, Cond.instantiable RX6 5, Cond.initialized RX6, Cond.fieldLink RX7 10 "SeeSawForFive" "text" "LSeeSawForFive$Text;", Cond.classLink RX7 16 RX0, Cond.instantiable RX0 8, Cond.initialized RX0, Cond.fieldLink RX7 19 "SeeSawForFive" "now" "LSeeSawForFive$Board;", Cond.fieldLink RX7 23 "SeeSawForFive" "trial" "LSeeSawForFive$Board;", Cond.fieldLink RX7 26 "SeeSawForFive" "keptBoard" "LSeeSawForFive$Board;", Cond.classLink RX7 29 RX1, Cond.instantiable RX1 10]
def wsL_law_r2 : List Cond := [Cond.initialized RX1, Cond.fieldLink RX7 32 "SeeSawForFive" "goes" "LSeeSawForFive$Goes;", Cond.fieldLink RX7 36 "SeeSawForFive" "keptGoes" "LSeeSawForFive$Goes;", Cond.classLink RX7 39 RX2, Cond.instantiable RX2 4, Cond.initialized RX2, Cond.fieldLink RX7 42 "SeeSawForFive" "guesses" "LSeeSawForFive$Guesses;", Cond.fieldLink RX7 46 "SeeSawForFive" "keptGuesses" "LSeeSawForFive$Guesses;", Cond.classLink RX7 49 RX4, Cond.instantiable RX4 9, Cond.initialized RX4, Cond.fieldLink RX7 52 "SeeSawForFive" "placings" "LSeeSawForFive$Placings;", Cond.classLink RX7 56 RX3, Cond.instantiable RX3 8, Cond.initialized RX3, Cond.fieldLink RX7 59 "SeeSawForFive" "orders" "LSeeSawForFive$Orders;", Cond.classLink RX7 63 RX5, Cond.instantiable RX5 3, Cond.initialized RX5, Cond.fieldLink RX7 66 "SeeSawForFive" "swing" "LSeeSawForFive$Swing;", Cond.arrayClass .int, Cond.fieldLink RX7 70 "SeeSawForFive" "row" "[I", Cond.fieldLink RX7 74 "SeeSawForFive" "refusals" "[I", Cond.instanceMethod yX6_init]
def wsL_law_r3 : List Cond := [Cond.code yX6_init cX6_init 1 none, Cond.methodLink RX6 1 objectInit, Cond.fieldLink RX6 9 "SeeSawForFive$Text" "letters" "[I", Cond.fieldLink RX6 13 "SeeSawForFive$Text" "told" "[I", Cond.instanceMethod yX0_init, Cond.code yX0_init cX0_init 1 none, Cond.methodLink RX0 3 objectInit, Cond.fieldLink RX0 9 "SeeSawForFive$Board" "length" "I", Cond.fieldLink RX0 15 "SeeSawForFive$Board" "notch" "I", Cond.fieldLink RX0 18 "SeeSawForFive$Board" "kinds" "[I", Cond.fieldLink RX0 22 "SeeSawForFive$Board" "weights" "[I", Cond.fieldLink RX0 25 "SeeSawForFive$Board" "legs" "[I", Cond.fieldLink RX0 28 "SeeSawForFive$Board" "feet" "[I", Cond.instanceMethod yX1_init, Cond.code yX1_init cX1_init 1 none, Cond.methodLink RX1 3 objectInit, Cond.fieldLink RX1 11 "SeeSawForFive$Goes" "seats" "[I", Cond.fieldLink RX1 15 "SeeSawForFive$Goes" "weights" "[I", Cond.fieldLink RX1 18 "SeeSawForFive$Goes" "others" "[I", Cond.fieldLink RX1 21 "SeeSawForFive$Goes" "told" "[I", Cond.arrayClass .boolean, Cond.fieldLink RX1 24 "SeeSawForFive$Goes" "fits" "[Z", Cond.fieldLink RX1 28 "SeeSawForFive$Goes" "parts" "[I", Cond.instanceMethod yX2_init]
def wsL_law_r4 : List Cond := [Cond.code yX2_init cX2_init 1 none, Cond.methodLink RX2 1 objectInit, Cond.fieldLink RX2 9 "SeeSawForFive$Guesses" "lefts" "[I", Cond.fieldLink RX2 13 "SeeSawForFive$Guesses" "rights" "[I", Cond.fieldLink RX2 16 "SeeSawForFive$Guesses" "told" "[I", Cond.instanceMethod yX4_init, Cond.code yX4_init cX4_init 1 none, Cond.methodLink RX4 3 objectInit, Cond.fieldLink RX4 9 "SeeSawForFive$Placings" "best" "[I", Cond.fieldLink RX4 15 "SeeSawForFive$Placings" "at" "[I", Cond.fieldLink RX4 18 "SeeSawForFive$Placings" "feet" "[I", Cond.classLink RX4 21 "[[I", Cond.fieldLink RX4 23 "SeeSawForFive$Placings" "turns" "[[I", Cond.instanceMethod yX3_init, Cond.code yX3_init cX3_init 1 none, Cond.methodLink RX3 3 objectInit, Cond.fieldLink RX3 9 "SeeSawForFive$Orders" "best" "[I", Cond.fieldLink RX3 15 "SeeSawForFive$Orders" "sitters" "[I", Cond.fieldLink RX3 18 "SeeSawForFive$Orders" "turns" "[I", Cond.fieldLink RX3 21 "SeeSawForFive$Orders" "at" "[I", Cond.instanceMethod yX5_init, Cond.code yX5_init cX5_init 1 none, Cond.methodLink RX5 3 objectInit, Cond.methodLink RL 12 yX8_init]
def wsL_law_r5 : List Cond := [Cond.instanceMethod yX8_init, Cond.code yX8_init cX8_init 1 none, Cond.methodLink RX8 1 objectInit, Cond.fieldLink RX8 7 "SeeSawForFiveModel" "refusals" "[I", Cond.fieldLink RX8 13 "SeeSawForFiveModel" "s" "[I", Cond.fieldLink RX8 16 "SeeSawForFiveModel" "image" "[I", Cond.fieldLink RX8 19 "SeeSawForFiveModel" "read" "[I", Cond.fieldLink RX8 22 "SeeSawForFiveModel" "tape" "[I", Cond.fieldLink RX8 25 "SeeSawForFiveModel" "told" "[I", Cond.fieldLink RX8 28 "SeeSawForFiveModel" "tried" "[I", Cond.fieldLink RX8 31 "SeeSawForFiveModel" "firstLevel" "[I", Cond.fieldLink RX8 34 "SeeSawForFiveModel" "firstLeast" "[I", Cond.fieldLink RX8 37 "SeeSawForFiveModel" "firstOrder" "[I", Cond.fieldLink RX8 40 "SeeSawForFiveModel" "part" "[I", Cond.fieldLink RX8 43 "SeeSawForFiveModel" "keptRow" "[I", Cond.fieldLink RX8 46 "SeeSawForFiveModel" "row" "[I", Cond.methodLink RL 13 yX7_letter, Cond.instanceMethod yX7_letter, Cond.selects RX7 yX7_letter yX7_letter, Cond.code yX7_letter cX7_letter 2 (some .int), Cond.fieldLink RX7 89 "SeeSawForFive$Text" "many" "I", Cond.methodLink RX7 77 yX7_refuse, Cond.instanceMethod yX7_refuse, Cond.selects RX7 yX7_refuse yX7_refuse]
def wsL_law_r6 : List Cond := [Cond.code yX7_refuse cX7_refuse 3 (some .int), Cond.methodLink RX7 81 yX6_isFull, Cond.instanceMethod yX6_isFull, Cond.selects RX6 yX6_isFull yX6_isFull, Cond.code yX6_isFull cX6_isFull 1 (some .boolean), Cond.fieldLink RX6 16 "SeeSawForFive$Text" "many" "I", Cond.methodLink RX7 85 yX6_add, Cond.instanceMethod yX6_add, Cond.selects RX6 yX6_add yX6_add, Cond.code yX6_add cX6_add 2 none, Cond.methodLink RX6 20 yX6_isFull, Cond.methodLink RL 17 yX8_letter, Cond.instanceMethod yX8_letter, Cond.selects RX8 yX8_letter yX8_letter, Cond.code yX8_letter cX8_letter 3 (some .int), Cond.fieldLink RX8 64 "SeeSawForFiveModel" "taped" "I", Cond.methodLink RX8 60 yX8_within, Cond.static yX8_within, Cond.code yX8_within cX8_within 3 (some .int), Cond.methodLink RX8 68 yX8_refuse, Cond.instanceMethod yX8_refuse, Cond.selects RX8 yX8_refuse yX8_refuse, Cond.code yX8_refuse cX8_refuse 2 (some .int), Cond.methodLink RL 18 yX7_board]
def wsL_law_r7 : List Cond := [Cond.instanceMethod yX7_board, Cond.selects RX7 yX7_board yX7_board, Cond.code yX7_board cX7_board 2 (some .int), Cond.methodLink RX7 93 yX7_readBoard, Cond.instanceMethod yX7_readBoard, Cond.selects RX7 yX7_readBoard yX7_readBoard, Cond.code yX7_readBoard cX7_readBoard 4 (some .int), Cond.fieldLink RX7 295 "SeeSawForFive$Text" "place" "I", Cond.fieldLink RX7 301 "SeeSawForFive$Text" "verb" "I", Cond.fieldLink RX7 304 "SeeSawForFive$Text" "told" "[I", Cond.methodLink RX7 292 yX6_faultPlace, Cond.instanceMethod yX6_faultPlace, Cond.selects RX6 yX6_faultPlace yX6_faultPlace, Cond.code yX6_faultPlace cX6_faultPlace 2 (some .int), Cond.fieldLink RX6 24 "SeeSawForFive$Text" "place" "I", Cond.methodLink RX6 27 yX6_readStatement, Cond.instanceMethod yX6_readStatement, Cond.selects RX6 yX6_readStatement yX6_readStatement, Cond.code yX6_readStatement cX6_readStatement 6 (some .boolean), Cond.fieldLink RX6 34 "SeeSawForFive$Text" "verb" "I", Cond.methodLink RX6 30 yX6_here, Cond.instanceMethod yX6_here, Cond.selects RX6 yX6_here yX6_here, Cond.code yX6_here cX6_here 1 (some .int)]
def wsL_law_r8 : List Cond := [Cond.methodLink RX6 37 yX6_formOf, Cond.static yX6_formOf, Cond.code yX6_formOf cX6_formOf 1 (some (.object "java/lang/String")), Cond.methodLink RX6 41 yJ0_isEmpty_aae02, Cond.instanceMethod yJ0_isEmpty_aae02, Cond.selects RJ0 yJ0_isEmpty_aae02 yJ0_isEmpty_aae02, Cond.initialized RJ0, Cond.code yJ0_isEmpty_aae02 cJ0_isEmpty_aae02 1 (some .boolean), Cond.fieldLink RJ0 9 "java/lang/String" "value" "[B", Cond.methodLink RX6 46 yJ0_length_8abf5, Cond.instanceMethod yJ0_length_8abf5, Cond.selects RJ0 yJ0_length_8abf5 yJ0_length_8abf5, Cond.code yJ0_length_8abf5 cJ0_length_8abf5 1 (some .int), Cond.methodLink RJ0 335 yJ0_coder_7d493, Cond.instanceMethod yJ0_coder_7d493, Cond.selects RJ0 yJ0_coder_7d493 yJ0_coder_7d493, Cond.code yJ0_coder_7d493 cJ0_coder_7d493 1 (some .byte), Cond.fieldLink RJ0 38 "java/lang/String" "COMPACT_STRINGS" "Z", Cond.fieldLink RJ0 15 "java/lang/String" "coder" "B", Cond.methodLink RX6 49 yJ0_charAt_5068e, Cond.instanceMethod yJ0_charAt_5068e, Cond.selects RJ0 yJ0_charAt_5068e yJ0_charAt_5068e, Cond.code yJ0_charAt_5068e cJ0_charAt_5068e 2 (some .char), Cond.methodLink RJ0 492 yJ0_isLatin1_aae02]
def wsL_law_r9 : List Cond := [Cond.instanceMethod yJ0_isLatin1_aae02, Cond.selects RJ0 yJ0_isLatin1_aae02 yJ0_isLatin1_aae02, Cond.code yJ0_isLatin1_aae02 cJ0_isLatin1_aae02 1 (some .boolean), Cond.methodLink RJ0 495 yJ1_charAt_3b067, Cond.static yJ1_charAt_3b067, Cond.initialized RJ1, Cond.code yJ1_charAt_3b067 cJ1_charAt_3b067 2 (some .char), Cond.methodLink RJ1 9 yJ0_checkIndex_df160, Cond.static yJ0_checkIndex_df160, Cond.code yJ0_checkIndex_df160 cJ0_checkIndex_df160 2 none, Cond.fieldLink RJ0 1053 "jdk/internal/util/Preconditions" "SIOOBE_FORMATTER" "Ljava/util/function/BiFunction;", Cond.methodLink RJ0 1059 yJ3_checkIndex_8e157, Cond.static yJ3_checkIndex_8e157, Cond.initialized RJ3, Cond.code yJ3_checkIndex_8e157 cJ3_checkIndex_8e157 3 (some .int), Cond.methodLink RJ0 498 yJ2_charAt_3b067, Cond.static yJ2_charAt_3b067, Cond.initialized RJ2, Cond.code yJ2_charAt_3b067 cJ2_charAt_3b067 2 (some .char), Cond.methodLink RJ2 67 yJ2_checkIndex_2214a, Cond.static yJ2_checkIndex_2214a, Cond.code yJ2_checkIndex_2214a cJ2_checkIndex_2214a 2 none, Cond.methodLink RJ2 48 yJ2_length_9d52b, Cond.static yJ2_length_9d52b]
def wsL_law_r10 : List Cond := [Cond.code yJ2_length_9d52b cJ2_length_9d52b 1 (some .int), Cond.methodLink RJ2 414 yJ0_checkIndex_df160, Cond.methodLink RJ2 71 yJ2_getChar_3b067, Cond.static yJ2_getChar_3b067, Cond.code yJ2_getChar_3b067 cJ2_getChar_3b067 2 (some .char), Cond.fieldLink RJ2 44 "java/lang/StringUTF16" "$assertionsDisabled" "Z", Cond.fieldLink RJ2 59 "java/lang/StringUTF16" "HI_BYTE_SHIFT" "I", Cond.fieldLink RJ2 63 "java/lang/StringUTF16" "LO_BYTE_SHIFT" "I", Cond.methodLink RX6 53 yX6_readNumber, Cond.instanceMethod yX6_readNumber, Cond.selects RX6 yX6_readNumber yX6_readNumber, Cond.code yX6_readNumber cX6_readNumber 3 (some .int), Cond.methodLink RX6 70 yX6_digitOf, Cond.static yX6_digitOf, Cond.code yX6_digitOf cX6_digitOf 1 (some .int), Cond.methodLink RX6 56 yX6_readSign, Cond.instanceMethod yX6_readSign, Cond.selects RX6 yX6_readSign yX6_readSign, Cond.code yX6_readSign cX6_readSign 3 (some .int), Cond.methodLink RX6 74 yX6_valueOf, Cond.static yX6_valueOf, Cond.code yX6_valueOf cX6_valueOf 2 (some .int), Cond.methodLink RX6 78 yX6_kindOf, Cond.static yX6_kindOf]
def wsL_law_r11 : List Cond := [Cond.code yX6_kindOf cX6_kindOf 1 (some .int), Cond.methodLink RX6 81 yX6_sideOfLetter, Cond.static yX6_sideOfLetter, Cond.code yX6_sideOfLetter cX6_sideOfLetter 1 (some .int), Cond.methodLink RX7 257 yX0_become, Cond.instanceMethod yX0_become, Cond.selects RX0 yX0_become yX0_become, Cond.code yX0_become cX0_become 2 none, Cond.fieldLink RX0 31 "SeeSawForFive$Board" "own" "I", Cond.fieldLink RX0 34 "SeeSawForFive$Board" "children" "I", Cond.methodLink RX0 37 arraycopyName, Cond.native arraycopyName, Cond.static arraycopyName, Cond.initialized "java/lang/System", Cond.methodLink RX7 298 yX6_readStatement, Cond.methodLink RX7 307 yX0_takes, Cond.instanceMethod yX0_takes, Cond.selects RX0 yX0_takes yX0_takes, Cond.code yX0_takes cX0_takes 3 (some .boolean), Cond.methodLink RX0 74 yX0_takesLength, Cond.instanceMethod yX0_takesLength, Cond.selects RX0 yX0_takesLength yX0_takesLength, Cond.code yX0_takesLength cX0_takesLength 4 (some .boolean), Cond.methodLink RX0 117 Lib.Math.abs.name]
def wsL_law_r12 : List Cond := [Cond.static Lib.Math.abs.name, Cond.initialized "java/lang/Math", Cond.code Lib.Math.abs.name Lib.Math.abs.code 1 (some .int), Cond.methodLink RX0 77 yX0_takesNotch, Cond.instanceMethod yX0_takesNotch, Cond.selects RX0 yX0_takesNotch yX0_takesNotch, Cond.code yX0_takesNotch cX0_takesNotch 2 (some .boolean), Cond.methodLink RX0 80 yX0_takesChild, Cond.instanceMethod yX0_takesChild, Cond.selects RX0 yX0_takesChild yX0_takesChild, Cond.code yX0_takesChild cX0_takesChild 4 (some .boolean), Cond.methodLink RX0 84 yX0_takesSeat, Cond.instanceMethod yX0_takesSeat, Cond.selects RX0 yX0_takesSeat yX0_takesSeat, Cond.code yX0_takesSeat cX0_takesSeat 3 (some .boolean), Cond.methodLink RX0 43 yX0_hasChild, Cond.instanceMethod yX0_hasChild, Cond.selects RX0 yX0_hasChild yX0_hasChild, Cond.code yX0_hasChild cX0_hasChild 2 (some .boolean), Cond.methodLink RX0 120 yX0_hasSeat, Cond.instanceMethod yX0_hasSeat, Cond.selects RX0 yX0_hasSeat yX0_hasSeat, Cond.code yX0_hasSeat cX0_hasSeat 2 (some .boolean), Cond.methodLink RX0 47 yX0_isTakenByOther]
def wsL_law_r13 : List Cond := [Cond.instanceMethod yX0_isTakenByOther, Cond.selects RX0 yX0_isTakenByOther yX0_isTakenByOther, Cond.code yX0_isTakenByOther cX0_isTakenByOther 4 (some .boolean), Cond.methodLink RX0 87 yX0_takesOff, Cond.instanceMethod yX0_takesOff, Cond.selects RX0 yX0_takesOff yX0_takesOff, Cond.code yX0_takesOff cX0_takesOff 2 (some .boolean), Cond.methodLink RX7 132 yX4_forget, Cond.instanceMethod yX4_forget, Cond.selects RX4 yX4_forget yX4_forget, Cond.code yX4_forget cX4_forget 1 none, Cond.fieldLink RX4 26 "SeeSawForFive$Placings" "looked" "Z", Cond.methodLink RX7 97 yX6_empty, Cond.instanceMethod yX6_empty, Cond.selects RX6 yX6_empty yX6_empty, Cond.code yX6_empty cX6_empty 1 none, Cond.methodLink RL 22 yX8_board, Cond.instanceMethod yX8_board, Cond.selects RX8 yX8_board yX8_board, Cond.code yX8_board cX8_board 2 (some .int), Cond.methodLink RX8 112 yX8_reads, Cond.instanceMethod yX8_reads, Cond.selects RX8 yX8_reads yX8_reads, Cond.code yX8_reads cX8_reads 5 (some .int)]
def wsL_law_r14 : List Cond := [Cond.fieldLink RX8 72 "SeeSawForFiveModel" "at" "I", Cond.methodLink RX8 102 yX8_readsStatement, Cond.instanceMethod yX8_readsStatement, Cond.selects RX8 yX8_readsStatement yX8_readsStatement, Cond.code yX8_readsStatement cX8_readsStatement 3 (some .boolean), Cond.methodLink RX8 75 yX8_sign, Cond.instanceMethod yX8_sign, Cond.selects RX8 yX8_sign yX8_sign, Cond.code yX8_sign cX8_sign 1 (some .int), Cond.methodLink RX8 82 yX8_readsNumber, Cond.instanceMethod yX8_readsNumber, Cond.selects RX8 yX8_readsNumber yX8_readsNumber, Cond.code yX8_readsNumber cX8_readsNumber 4 (some .boolean), Cond.methodLink RX8 85 yX8_takes, Cond.instanceMethod yX8_takes, Cond.selects RX8 yX8_takes yX8_takes, Cond.code yX8_takes cX8_takes 2 (some .boolean), Cond.methodLink RX8 89 yX8_readsKind, Cond.instanceMethod yX8_readsKind, Cond.selects RX8 yX8_readsKind yX8_readsKind, Cond.code yX8_readsKind cX8_readsKind 1 (some .boolean), Cond.methodLink RX8 79 yX8_kindOf, Cond.static yX8_kindOf, Cond.code yX8_kindOf cX8_kindOf 1 (some .int)]
def wsL_law_r15 : List Cond := [Cond.methodLink RX8 93 yX8_readsSide, Cond.instanceMethod yX8_readsSide, Cond.selects RX8 yX8_readsSide yX8_readsSide, Cond.code yX8_readsSide cX8_readsSide 1 (some .boolean), Cond.methodLink RX8 105 yX8_copies, Cond.static yX8_copies, Cond.code yX8_copies cX8_copies 3 none, Cond.methodLink RX8 109 yX8_comes, Cond.instanceMethod yX8_comes, Cond.selects RX8 yX8_comes yX8_comes, Cond.code yX8_comes cX8_comes 5 (some .boolean), Cond.methodLink RX8 96 yX8_readSeat, Cond.instanceMethod yX8_readSeat, Cond.selects RX8 yX8_readSeat yX8_readSeat, Cond.code yX8_readSeat cX8_readSeat 2 (some .int), Cond.methodLink RX8 99 yX8_amount, Cond.static yX8_amount, Cond.code yX8_amount cX8_amount 1 (some .int), Cond.methodLink RL 23 yX7_child, Cond.instanceMethod yX7_child, Cond.selects RX7 yX7_child yX7_child, Cond.code yX7_child cX7_child 3 (some .int), Cond.fieldLink RX7 104 "SeeSawForFive$Board" "kinds" "[I", Cond.fieldLink RX7 107 "SeeSawForFive$Board" "weights" "[I"]
def wsL_law_r16 : List Cond := [Cond.fieldLink RX7 110 "SeeSawForFive$Board" "legs" "[I", Cond.methodLink RX7 100 yX0_hasChild, Cond.methodLink RL 27 yX8_child, Cond.instanceMethod yX8_child, Cond.selects RX8 yX8_child yX8_child, Cond.code yX8_child cX8_child 3 (some .int), Cond.methodLink RX8 115 yX8_isKid, Cond.instanceMethod yX8_isKid, Cond.selects RX8 yX8_isKid yX8_isKid, Cond.code yX8_isKid cX8_isKid 2 (some .boolean), Cond.methodLink RX8 53 yX8_isIn, Cond.static yX8_isIn, Cond.code yX8_isIn cX8_isIn 2 (some .boolean), Cond.methodLink RX8 57 yX8_kid, Cond.instanceMethod yX8_kid, Cond.selects RX8 yX8_kid yX8_kid, Cond.code yX8_kid cX8_kid 3 (some .int), Cond.methodLink RL 28 yX7_seat, Cond.instanceMethod yX7_seat, Cond.selects RX7 yX7_seat yX7_seat, Cond.code yX7_seat cX7_seat 2 (some .int), Cond.fieldLink RX7 119 "SeeSawForFive$Board" "feet" "[I", Cond.methodLink RX7 113 yX7_refuseApart, Cond.instanceMethod yX7_refuseApart]
def wsL_law_r17 : List Cond := [Cond.selects RX7 yX7_refuseApart yX7_refuseApart, Cond.code yX7_refuseApart cX7_refuseApart 2 (some .int), Cond.constant RX7 291 (1000000000), Cond.methodLink RX7 116 yX0_sits, Cond.instanceMethod yX0_sits, Cond.selects RX0 yX0_sits yX0_sits, Cond.code yX0_sits cX0_sits 2 (some .boolean), Cond.methodLink RL 31 yX8_seat, Cond.instanceMethod yX8_seat, Cond.selects RX8 yX8_seat yX8_seat, Cond.code yX8_seat cX8_seat 2 (some .int), Cond.constant RX8 118 (1000000000), Cond.methodLink RX8 119 yX8_seatOf, Cond.instanceMethod yX8_seatOf, Cond.selects RX8 yX8_seatOf yX8_seatOf, Cond.code yX8_seatOf cX8_seatOf 2 (some .int), Cond.methodLink RL 32 yX7_sit, Cond.instanceMethod yX7_sit, Cond.selects RX7 yX7_sit yX7_sit, Cond.code yX7_sit cX7_sit 4 (some .int), Cond.methodLink RX7 122 yX0_hasSeat, Cond.methodLink RX7 125 yX0_isTakenByOther, Cond.methodLink RL 35 yX8_sit, Cond.instanceMethod yX8_sit]
def wsL_law_r18 : List Cond := [Cond.selects RX8 yX8_sit yX8_sit, Cond.code yX8_sit cX8_sit 5 (some .int), Cond.methodLink RX8 122 yX8_isSeat, Cond.instanceMethod yX8_isSeat, Cond.selects RX8 yX8_isSeat yX8_isSeat, Cond.code yX8_isSeat cX8_isSeat 2 (some .boolean), Cond.methodLink RX8 125 yX8_whoSits, Cond.instanceMethod yX8_whoSits, Cond.selects RX8 yX8_whoSits yX8_whoSits, Cond.code yX8_whoSits cX8_whoSits 3 (some .int), Cond.methodLink RL 36 yX7_notch, Cond.instanceMethod yX7_notch, Cond.selects RX7 yX7_notch yX7_notch, Cond.code yX7_notch cX7_notch 3 (some .int), Cond.fieldLink RX7 129 "SeeSawForFive$Board" "notch" "I", Cond.methodLink RL 39 yX8_notch, Cond.instanceMethod yX8_notch, Cond.selects RX8 yX8_notch yX8_notch, Cond.code yX8_notch cX8_notch 4 (some .int), Cond.methodLink RL 40 yX7_sum, Cond.instanceMethod yX7_sum, Cond.selects RX7 yX7_sum yX7_sum, Cond.code yX7_sum cX7_sum 1 (some .int), Cond.methodLink RX7 135 yX0_turned]
def wsL_law_r19 : List Cond := [Cond.instanceMethod yX0_turned, Cond.selects RX0 yX0_turned yX0_turned, Cond.code yX0_turned cX0_turned 1 (some .int), Cond.methodLink RX0 58 yX0_turnedBy, Cond.instanceMethod yX0_turnedBy, Cond.selects RX0 yX0_turnedBy yX0_turnedBy, Cond.code yX0_turnedBy cX0_turnedBy 4 (some .int), Cond.methodLink RX0 54 yX0_ownTurnBy, Cond.instanceMethod yX0_ownTurnBy, Cond.selects RX0 yX0_ownTurnBy yX0_ownTurnBy, Cond.code yX0_ownTurnBy cX0_ownTurnBy 2 (some .int), Cond.methodLink RX0 51 yX0_sits, Cond.methodLink RX0 61 yX0_turnOf, Cond.static yX0_turnOf, Cond.code yX0_turnOf cX0_turnOf 3 (some .int), Cond.methodLink RX0 106 yX0_hangerTurn, Cond.static yX0_hangerTurn, Cond.code yX0_hangerTurn cX0_hangerTurn 2 (some .int), Cond.methodLink RX0 109 yX0_inTurn, Cond.static yX0_inTurn, Cond.code yX0_inTurn cX0_inTurn 2 (some .int), Cond.methodLink RX0 112 yJ6_signum_0f7a4, Cond.static yJ6_signum_0f7a4, Cond.initialized RJ6]
def wsL_law_r20 : List Cond := [Cond.code yJ6_signum_0f7a4 cJ6_signum_0f7a4 1 (some .int), Cond.methodLink RL 43 yX8_sum, Cond.instanceMethod yX8_sum, Cond.selects RX8 yX8_sum yX8_sum, Cond.code yX8_sum cX8_sum 1 (some .int), Cond.methodLink RX8 140 yX8_sumNow, Cond.instanceMethod yX8_sumNow, Cond.selects RX8 yX8_sumNow yX8_sumNow, Cond.code yX8_sumNow cX8_sumNow 3 (some .int), Cond.methodLink RX8 134 yX8_bare, Cond.instanceMethod yX8_bare, Cond.selects RX8 yX8_bare yX8_bare, Cond.code yX8_bare cX8_bare 2 (some .int), Cond.methodLink RX8 137 yX8_turnOf, Cond.instanceMethod yX8_turnOf, Cond.selects RX8 yX8_turnOf yX8_turnOf, Cond.code yX8_turnOf cX8_turnOf 3 (some .int), Cond.methodLink RX8 128 yX8_armOf, Cond.instanceMethod yX8_armOf, Cond.selects RX8 yX8_armOf yX8_armOf, Cond.code yX8_armOf cX8_armOf 2 (some .int), Cond.methodLink RX8 131 yX8_turnBy, Cond.instanceMethod yX8_turnBy, Cond.selects RX8 yX8_turnBy yX8_turnBy]
def wsL_law_r21 : List Cond := [Cond.code yX8_turnBy cX8_turnBy 6 (some .int), Cond.methodLink RL 44 yX7_down, Cond.instanceMethod yX7_down, Cond.selects RX7 yX7_down yX7_down, Cond.code yX7_down cX7_down 1 (some .int), Cond.methodLink RX7 138 yX7_sideOf, Cond.static yX7_sideOf, Cond.code yX7_sideOf cX7_sideOf 1 (some .int), Cond.methodLink RL 47 yX8_down, Cond.instanceMethod yX8_down, Cond.selects RX8 yX8_down yX8_down, Cond.code yX8_down cX8_down 1 (some .int), Cond.methodLink RX8 143 yX8_downBy, Cond.static yX8_downBy, Cond.code yX8_downBy cX8_downBy 1 (some .int), Cond.methodLink RL 48 yX7_level, Cond.instanceMethod yX7_level, Cond.selects RX7 yX7_level yX7_level, Cond.code yX7_level cX7_level 1 (some .int), Cond.fieldLink RX7 145 "SeeSawForFive$Placings" "levelOnes" "I", Cond.methodLink RX7 141 yX4_look, Cond.instanceMethod yX4_look, Cond.selects RX4 yX4_look yX4_look, Cond.code yX4_look cX4_look 4 none]
def wsL_law_r22 : List Cond := [Cond.fieldLink RX4 30 "SeeSawForFive$Board" "children" "I", Cond.fieldLink RX4 36 "SeeSawForFive$Placings" "children" "I", Cond.fieldLink RX4 41 "SeeSawForFive$Placings" "seats" "I", Cond.fieldLink RX4 52 "SeeSawForFive$Placings" "levelOnes" "I", Cond.fieldLink RX4 55 "SeeSawForFive$Placings" "least" "I", Cond.methodLink RX4 37 yX0_seatsMany, Cond.instanceMethod yX0_seatsMany, Cond.selects RX0 yX0_seatsMany yX0_seatsMany, Cond.code yX0_seatsMany cX0_seatsMany 1 (some .int), Cond.methodLink RX4 44 yX0_seatFromLeft, Cond.instanceMethod yX0_seatFromLeft, Cond.selects RX0 yX0_seatFromLeft yX0_seatFromLeft, Cond.code yX0_seatFromLeft cX0_seatFromLeft 2 (some .int), Cond.methodLink RX4 48 yX0_turnOn, Cond.instanceMethod yX0_turnOn, Cond.selects RX0 yX0_turnOn yX0_turnOn, Cond.code yX0_turnOn cX0_turnOn 3 (some .int), Cond.methodLink RX0 65 yX0_armOf, Cond.instanceMethod yX0_armOf, Cond.selects RX0 yX0_armOf yX0_armOf, Cond.code yX0_armOf cX0_armOf 2 (some .int), Cond.methodLink RX4 58 yX0_ownTurn, Cond.instanceMethod yX0_ownTurn, Cond.selects RX0 yX0_ownTurn yX0_ownTurn]
def wsL_law_r23 : List Cond := [Cond.code yX0_ownTurn cX0_ownTurn 1 (some .int), Cond.methodLink RX4 61 yX4_goThrough, Cond.instanceMethod yX4_goThrough, Cond.selects RX4 yX4_goThrough yX4_goThrough, Cond.code yX4_goThrough cX4_goThrough 5 none, Cond.methodLink RX4 65 yX4_weigh, Cond.instanceMethod yX4_weigh, Cond.selects RX4 yX4_weigh yX4_weigh, Cond.code yX4_weigh cX4_weigh 3 none, Cond.methodLink RX4 69 Lib.Math.abs.name, Cond.methodLink RX4 74 arraycopyName, Cond.methodLink RL 51 yX8_level, Cond.instanceMethod yX8_level, Cond.selects RX8 yX8_level yX8_level, Cond.code yX8_level cX8_level 1 (some .int), Cond.fieldLink RX8 146 "SeeSawForFiveModel" "levels" "I", Cond.methodLink RX8 156 yX8_findsPlacings, Cond.instanceMethod yX8_findsPlacings, Cond.selects RX8 yX8_findsPlacings yX8_findsPlacings, Cond.code yX8_findsPlacings cX8_findsPlacings 1 none, Cond.fieldLink RX8 149 "SeeSawForFiveModel" "leastOff" "I", Cond.methodLink RX8 152 yX8_places, Cond.instanceMethod yX8_places, Cond.selects RX8 yX8_places yX8_places]
def wsL_law_r24 : List Cond := [Cond.code yX8_places cX8_places 6 none, Cond.methodLink RL 52 yX7_first, Cond.instanceMethod yX7_first, Cond.selects RX7 yX7_first yX7_first, Cond.code yX7_first cX7_first 4 (some .int), Cond.fieldLink RX7 148 "SeeSawForFive$Placings" "least" "I", Cond.fieldLink RX7 151 "SeeSawForFive$Placings" "best" "[I", Cond.methodLink RL 55 yX8_first, Cond.instanceMethod yX8_first, Cond.selects RX8 yX8_first yX8_first, Cond.code yX8_first cX8_first 3 (some .int), Cond.methodLink RL 56 yX7_off, Cond.instanceMethod yX7_off, Cond.selects RX7 yX7_off yX7_off, Cond.code yX7_off cX7_off 1 (some .int), Cond.methodLink RL 59 yX8_off, Cond.instanceMethod yX8_off, Cond.selects RX8 yX8_off yX8_off, Cond.code yX8_off cX8_off 1 (some .int), Cond.methodLink RL 60 yX7_bucket, Cond.instanceMethod yX7_bucket, Cond.selects RX7 yX7_bucket yX7_bucket, Cond.code yX7_bucket cX7_bucket 5 (some .int), Cond.methodLink RX7 154 yX0_isTaken]
def wsL_law_r25 : List Cond := [Cond.instanceMethod yX0_isTaken, Cond.selects RX0 yX0_isTaken yX0_isTaken, Cond.code yX0_isTaken cX0_isTaken 2 (some .boolean), Cond.methodLink RX7 157 yX0_armOf, Cond.methodLink RL 63 yX8_bucket, Cond.instanceMethod yX8_bucket, Cond.selects RX8 yX8_bucket yX8_bucket, Cond.code yX8_bucket cX8_bucket 5 (some .int), Cond.methodLink RL 64 yX7_notchBest, Cond.instanceMethod yX7_notchBest, Cond.selects RX7 yX7_notchBest yX7_notchBest, Cond.code yX7_notchBest cX7_notchBest 3 (some .int), Cond.methodLink RX7 163 Lib.Math.abs.name, Cond.methodLink RX7 160 yX0_turnedBy, Cond.methodLink RL 67 yX8_notchBest, Cond.instanceMethod yX8_notchBest, Cond.selects RX8 yX8_notchBest yX8_notchBest, Cond.code yX8_notchBest cX8_notchBest 6 (some .int), Cond.methodLink RL 68 yX7_orders, Cond.instanceMethod yX7_orders, Cond.selects RX7 yX7_orders yX7_orders, Cond.code yX7_orders cX7_orders 2 (some .int), Cond.fieldLink RX7 171 "SeeSawForFive$Orders" "quiet" "I", Cond.methodLink RX7 168 yX3_look]
def wsL_law_r26 : List Cond := [Cond.instanceMethod yX3_look, Cond.selects RX3 yX3_look yX3_look, Cond.code yX3_look cX3_look 4 none, Cond.fieldLink RX3 24 "SeeSawForFive$Orders" "bang" "I", Cond.fieldLink RX3 28 "SeeSawForFive$Orders" "many" "I", Cond.fieldLink RX3 31 "SeeSawForFive$Board" "children" "I", Cond.fieldLink RX3 40 "SeeSawForFive$Board" "feet" "[I", Cond.fieldLink RX3 47 "SeeSawForFive$Orders" "quiet" "I", Cond.constant RX3 50 (2147483647), Cond.fieldLink RX3 51 "SeeSawForFive$Orders" "leastBang" "I", Cond.methodLink RX3 36 yX0_sits, Cond.methodLink RX3 43 yX0_turnOn, Cond.methodLink RX3 54 yX0_ownTurn, Cond.methodLink RX3 58 yX3_goThrough, Cond.instanceMethod yX3_goThrough, Cond.selects RX3 yX3_goThrough yX3_goThrough, Cond.code yX3_goThrough cX3_goThrough 7 none, Cond.methodLink RX3 66 Lib.Math.abs.name, Cond.methodLink RX3 72 Lib.Math.max.name, Cond.static Lib.Math.max.name, Cond.code Lib.Math.max.name Lib.Math.max.code 2 (some .int), Cond.methodLink RX3 62 yX3_hear, Cond.instanceMethod yX3_hear, Cond.selects RX3 yX3_hear yX3_hear]
def wsL_law_r27 : List Cond := [Cond.code yX3_hear cX3_hear 2 none, Cond.methodLink RX3 75 Lib.Math.min.name, Cond.static Lib.Math.min.name, Cond.code Lib.Math.min.name Lib.Math.min.code 2 (some .int), Cond.methodLink RX3 78 arraycopyName, Cond.methodLink RL 71 yX8_orders, Cond.instanceMethod yX8_orders, Cond.selects RX8 yX8_orders yX8_orders, Cond.code yX8_orders cX8_orders 2 (some .int), Cond.fieldLink RX8 165 "SeeSawForFiveModel" "orders" "I", Cond.methodLink RX8 172 yX8_findsOrders, Cond.instanceMethod yX8_findsOrders, Cond.selects RX8 yX8_findsOrders yX8_findsOrders, Cond.code yX8_findsOrders cX8_findsOrders 2 none, Cond.fieldLink RX8 162 "SeeSawForFiveModel" "leastBang" "I", Cond.methodLink RX8 168 yX8_gets, Cond.instanceMethod yX8_gets, Cond.selects RX8 yX8_gets yX8_gets, Cond.code yX8_gets cX8_gets 8 none, Cond.methodLink RX8 159 yX8_sitters, Cond.instanceMethod yX8_sitters, Cond.selects RX8 yX8_sitters yX8_sitters, Cond.code yX8_sitters cX8_sitters 3 (some .int), Cond.methodLink RL 72 yX7_order]
def wsL_law_r28 : List Cond := [Cond.instanceMethod yX7_order, Cond.selects RX7 yX7_order yX7_order, Cond.code yX7_order cX7_order 3 (some .int), Cond.fieldLink RX7 174 "SeeSawForFive$Orders" "many" "I", Cond.fieldLink RX7 175 "SeeSawForFive$Orders" "best" "[I", Cond.methodLink RL 75 yX8_order, Cond.instanceMethod yX8_order, Cond.selects RX8 yX8_order yX8_order, Cond.code yX8_order cX8_order 3 (some .int), Cond.methodLink RL 76 yX7_leastBang, Cond.instanceMethod yX7_leastBang, Cond.selects RX7 yX7_leastBang yX7_leastBang, Cond.code yX7_leastBang cX7_leastBang 1 (some .int), Cond.fieldLink RX7 176 "SeeSawForFive$Orders" "leastBang" "I", Cond.methodLink RL 79 yX8_leastBang, Cond.instanceMethod yX8_leastBang, Cond.selects RX8 yX8_leastBang yX8_leastBang, Cond.code yX8_leastBang cX8_leastBang 1 (some .int), Cond.methodLink RL 80 yX7_go, Cond.instanceMethod yX7_go, Cond.selects RX7 yX7_go yX7_go, Cond.code yX7_go cX7_go 5 (some .int), Cond.fieldLink RX7 186 "SeeSawForFive$Goes" "many" "I", Cond.methodLink RX7 179 yX7_isSide]
def wsL_law_r29 : List Cond := [Cond.static yX7_isSide, Cond.code yX7_isSide cX7_isSide 1 (some .boolean), Cond.methodLink RX7 182 yX1_isFull, Cond.instanceMethod yX1_isFull, Cond.selects RX1 yX1_isFull yX1_isFull, Cond.code yX1_isFull cX1_isFull 1 (some .boolean), Cond.fieldLink RX1 31 "SeeSawForFive$Goes" "many" "I", Cond.methodLink RX7 183 yX1_add, Cond.instanceMethod yX1_add, Cond.selects RX1 yX1_add yX1_add, Cond.code yX1_add cX1_add 5 none, Cond.methodLink RX1 41 yX1_isFull, Cond.methodLink RL 84 yX8_go, Cond.instanceMethod yX8_go, Cond.selects RX8 yX8_go yX8_go, Cond.code yX8_go cX8_go 7 (some .int), Cond.methodLink RL 85 yX7_fitting, Cond.instanceMethod yX7_fitting, Cond.selects RX7 yX7_fitting yX7_fitting, Cond.code yX7_fitting cX7_fitting 2 (some .int), Cond.fieldLink RX7 188 "SeeSawForFive$Goes" "fitMany" "I", Cond.fieldLink RX7 191 "SeeSawForFive$Goes" "fitLeast" "I", Cond.fieldLink RX7 194 "SeeSawForFive$Goes" "fitMost" "I", Cond.methodLink RX7 187 yX1_look]
def wsL_law_r30 : List Cond := [Cond.instanceMethod yX1_look, Cond.selects RX1 yX1_look yX1_look, Cond.code yX1_look cX1_look 3 none, Cond.fieldLink RX1 45 "SeeSawForFive$Goes" "fitMany" "I", Cond.fieldLink RX1 48 "SeeSawForFive$Goes" "fitLeast" "I", Cond.fieldLink RX1 51 "SeeSawForFive$Goes" "fitMost" "I", Cond.methodLink RX1 54 yX1_fit, Cond.instanceMethod yX1_fit, Cond.selects RX1 yX1_fit yX1_fit, Cond.code yX1_fit cX1_fit 6 (some .boolean), Cond.methodLink RX1 65 yX0_armOf, Cond.methodLink RX1 59 yX0_ownTurn, Cond.methodLink RL 88 yX8_fitting, Cond.instanceMethod yX8_fitting, Cond.selects RX8 yX8_fitting yX8_fitting, Cond.code yX8_fitting cX8_fitting 6 (some .int), Cond.methodLink RX8 180 yX8_fits, Cond.instanceMethod yX8_fits, Cond.selects RX8 yX8_fits yX8_fits, Cond.code yX8_fits cX8_fits 4 (some .boolean), Cond.methodLink RX8 176 yX8_downWith, Cond.instanceMethod yX8_downWith, Cond.selects RX8 yX8_downWith yX8_downWith, Cond.code yX8_downWith cX8_downWith 5 (some .int)]
def wsL_law_r31 : List Cond := [Cond.methodLink RL 89 yX7_next, Cond.instanceMethod yX7_next, Cond.selects RX7 yX7_next yX7_next, Cond.code yX7_next cX7_next 3 (some .int), Cond.methodLink RX7 197 yX1_bestBucket, Cond.instanceMethod yX1_bestBucket, Cond.selects RX1 yX1_bestBucket yX1_bestBucket, Cond.code yX1_bestBucket cX1_bestBucket 8 (some .int), Cond.constant RX1 58 (2147483647), Cond.methodLink RX1 69 yX1_greatestPart, Cond.instanceMethod yX1_greatestPart, Cond.selects RX1 yX1_greatestPart yX1_greatestPart, Cond.code yX1_greatestPart cX1_greatestPart 4 (some .int), Cond.methodLink RX1 76 Lib.Math.max.name, Cond.methodLink RL 92 yX8_next, Cond.instanceMethod yX8_next, Cond.selects RX8 yX8_next yX8_next, Cond.code yX8_next cX8_next 7 (some .int), Cond.methodLink RX8 183 yX8_greatestPart, Cond.instanceMethod yX8_greatestPart, Cond.selects RX8 yX8_greatestPart yX8_greatestPart, Cond.code yX8_greatestPart cX8_greatestPart 5 (some .int), Cond.methodLink RL 93 yX7_inertia, Cond.instanceMethod yX7_inertia]
def wsL_law_r32 : List Cond := [Cond.selects RX7 yX7_inertia yX7_inertia, Cond.code yX7_inertia cX7_inertia 1 (some .int), Cond.methodLink RX7 201 yX0_slowness, Cond.instanceMethod yX0_slowness, Cond.selects RX0 yX0_slowness yX0_slowness, Cond.code yX0_slowness cX0_slowness 4 (some .int), Cond.methodLink RX0 68 Lib.Math.max.name, Cond.methodLink RL 96 yX8_inertia, Cond.instanceMethod yX8_inertia, Cond.selects RX8 yX8_inertia yX8_inertia, Cond.code yX8_inertia cX8_inertia 1 (some .int), Cond.methodLink RX8 186 yX8_inertiaNow, Cond.instanceMethod yX8_inertiaNow, Cond.selects RX8 yX8_inertiaNow yX8_inertiaNow, Cond.code yX8_inertiaNow cX8_inertiaNow 3 (some .int), Cond.methodLink RL 97 yX7_comesDown, Cond.instanceMethod yX7_comesDown, Cond.selects RX7 yX7_comesDown yX7_comesDown, Cond.code yX7_comesDown cX7_comesDown 3 (some .int), Cond.fieldLink RX7 213 "SeeSawForFive$Swing" "speed" "I", Cond.methodLink RX7 204 yX5_start, Cond.instanceMethod yX5_start, Cond.selects RX5 yX5_start yX5_start, Cond.code yX5_start cX5_start 2 none]
def wsL_law_r33 : List Cond := [Cond.fieldLink RX5 9 "SeeSawForFive$Swing" "speed" "I", Cond.fieldLink RX5 15 "SeeSawForFive$Swing" "tilt" "I", Cond.methodLink RX5 27 Lib.Math.max.name, Cond.fieldLink RX5 33 "SeeSawForFive$Swing" "gain" "I", Cond.methodLink RX5 18 yX0_turned, Cond.methodLink RX5 24 yX0_slowness, Cond.methodLink RX7 207 yX5_turn, Cond.instanceMethod yX5_turn, Cond.selects RX5 yX5_turn yX5_turn, Cond.code yX5_turn cX5_turn 1 none, Cond.methodLink RX5 36 Lib.Math.min.name, Cond.methodLink RX7 210 yX5_isDown, Cond.instanceMethod yX5_isDown, Cond.selects RX5 yX5_isDown yX5_isDown, Cond.code yX5_isDown cX5_isDown 1 (some .boolean), Cond.methodLink RL 100 yX8_comesDown, Cond.instanceMethod yX8_comesDown, Cond.selects RX8 yX8_comesDown yX8_comesDown, Cond.code yX8_comesDown cX8_comesDown 4 (some .int), Cond.fieldLink RX8 189 "SeeSawForFiveModel" "speed" "I", Cond.fieldLink RX8 192 "SeeSawForFiveModel" "tilt" "I", Cond.methodLink RX8 195 yX8_more, Cond.instanceMethod yX8_more, Cond.selects RX8 yX8_more yX8_more]
def wsL_law_r34 : List Cond := [Cond.code yX8_more cX8_more 1 (some .int), Cond.methodLink RX8 198 yX8_goesTenth, Cond.instanceMethod yX8_goesTenth, Cond.selects RX8 yX8_goesTenth yX8_goesTenth, Cond.code yX8_goesTenth cX8_goesTenth 2 none, Cond.methodLink RL 101 yX7_up, Cond.instanceMethod yX7_up, Cond.selects RX7 yX7_up yX7_up, Cond.code yX7_up cX7_up 5 (some .int), Cond.fieldLink RX7 216 "SeeSawForFive$Swing" "tilt" "I", Cond.methodLink RX7 219 yX7_areOpposite, Cond.static yX7_areOpposite, Cond.code yX7_areOpposite cX7_areOpposite 2 (some .boolean), Cond.methodLink RX7 222 yX5_pushOff, Cond.instanceMethod yX5_pushOff, Cond.selects RX5 yX5_pushOff yX5_pushOff, Cond.code yX5_pushOff cX5_pushOff 3 none, Cond.methodLink RX5 39 yX0_legsOn, Cond.instanceMethod yX0_legsOn, Cond.selects RX0 yX0_legsOn yX0_legsOn, Cond.code yX0_legsOn cX0_legsOn 4 (some .int), Cond.methodLink RL 104 yX8_up, Cond.instanceMethod yX8_up, Cond.selects RX8 yX8_up yX8_up]
def wsL_law_r35 : List Cond := [Cond.code yX8_up cX8_up 7 (some .int), Cond.methodLink RX8 201 yX8_legsOn, Cond.instanceMethod yX8_legsOn, Cond.selects RX8 yX8_legsOn yX8_legsOn, Cond.code yX8_legsOn cX8_legsOn 4 (some .int), Cond.methodLink RL 105 yX7_thrown, Cond.instanceMethod yX7_thrown, Cond.selects RX7 yX7_thrown yX7_thrown, Cond.code yX7_thrown cX7_thrown 10 (some .int), Cond.methodLink RX7 225 yX7_inLeastTerms, Cond.static yX7_inLeastTerms, Cond.code yX7_inLeastTerms cX7_inLeastTerms 6 (some .int), Cond.methodLink RL 109 yX8_thrown, Cond.instanceMethod yX8_thrown, Cond.selects RX8 yX8_thrown yX8_thrown, Cond.code yX8_thrown cX8_thrown 12 (some .int), Cond.methodLink RX8 49 yX8_common, Cond.static yX8_common, Cond.code yX8_common cX8_common 2 (some .int), Cond.methodLink RL 110 yX7_highest, Cond.instanceMethod yX7_highest, Cond.selects RX7 yX7_highest yX7_highest, Cond.code yX7_highest cX7_highest 8 (some .int), Cond.methodLink RX7 229 yX0_seatsMany]
def wsL_law_r36 : List Cond := [Cond.methodLink RX7 232 yX0_seatFromLeft, Cond.methodLink RL 113 yX8_highest, Cond.instanceMethod yX8_highest, Cond.selects RX8 yX8_highest yX8_highest, Cond.code yX8_highest cX8_highest 7 (some .int), Cond.methodLink RL 114 yX7_guess, Cond.instanceMethod yX7_guess, Cond.selects RX7 yX7_guess yX7_guess, Cond.code yX7_guess cX7_guess 4 (some .int), Cond.methodLink RX7 235 yX7_isRule, Cond.static yX7_isRule, Cond.code yX7_isRule cX7_isRule 1 (some .boolean), Cond.methodLink RX7 238 yX7_isWeightAndFeet, Cond.static yX7_isWeightAndFeet, Cond.code yX7_isWeightAndFeet cX7_isWeightAndFeet 1 (some .boolean), Cond.methodLink RX7 241 yX7_guessBy, Cond.static yX7_guessBy, Cond.code yX7_guessBy cX7_guessBy 5 (some .int), Cond.methodLink RL 118 yX8_guess, Cond.instanceMethod yX8_guess, Cond.selects RX8 yX8_guess yX8_guess, Cond.code yX8_guess cX8_guess 5 (some .int), Cond.methodLink RX8 207 yX8_areDigits, Cond.static yX8_areDigits]
def wsL_law_r37 : List Cond := [Cond.code yX8_areDigits cX8_areDigits 1 (some .boolean), Cond.methodLink RX8 210 yX8_guessBy, Cond.static yX8_guessBy, Cond.code yX8_guessBy cX8_guessBy 7 (some .int), Cond.methodLink RX8 204 yX8_compared, Cond.static yX8_compared, Cond.code yX8_compared cX8_compared 2 (some .int), Cond.methodLink RL 119 yX7_parting, Cond.instanceMethod yX7_parting, Cond.selects RX7 yX7_parting yX7_parting, Cond.code yX7_parting cX7_parting 8 (some .int), Cond.methodLink RX7 245 yX7_areParted, Cond.static yX7_areParted, Cond.code yX7_areParted cX7_areParted 4 (some .boolean), Cond.methodLink RX7 314 yX7_isOfParting, Cond.static yX7_isOfParting, Cond.code yX7_isOfParting cX7_isOfParting 1 (some .boolean), Cond.methodLink RL 122 yX8_parting, Cond.instanceMethod yX8_parting, Cond.selects RX8 yX8_parting yX8_parting, Cond.code yX8_parting cX8_parting 10 (some .int), Cond.methodLink RL 123 yX7_guessed, Cond.instanceMethod yX7_guessed, Cond.selects RX7 yX7_guessed yX7_guessed]
def wsL_law_r38 : List Cond := [Cond.code yX7_guessed cX7_guessed 4 (some .int), Cond.fieldLink RX7 253 "SeeSawForFive$Guesses" "many" "I", Cond.methodLink RX7 249 yX2_isFull, Cond.instanceMethod yX2_isFull, Cond.selects RX2 yX2_isFull yX2_isFull, Cond.code yX2_isFull cX2_isFull 1 (some .boolean), Cond.fieldLink RX2 19 "SeeSawForFive$Guesses" "many" "I", Cond.methodLink RX7 250 yX2_add, Cond.instanceMethod yX2_add, Cond.selects RX2 yX2_add yX2_add, Cond.code yX2_add cX2_add 4 none, Cond.methodLink RX2 29 yX2_isFull, Cond.methodLink RL 126 yX8_guessed, Cond.instanceMethod yX8_guessed, Cond.selects RX8 yX8_guessed yX8_guessed, Cond.code yX8_guessed cX8_guessed 6 (some .int), Cond.methodLink RL 127 yX7_rules, Cond.instanceMethod yX7_rules, Cond.selects RX7 yX7_rules yX7_rules, Cond.code yX7_rules cX7_rules 3 (some .int), Cond.methodLink RX7 254 yX2_fit, Cond.instanceMethod yX2_fit, Cond.selects RX2 yX2_fit yX2_fit, Cond.code yX2_fit cX2_fit 3 (some .boolean)]
def wsL_law_r39 : List Cond := [Cond.methodLink RL 130 yX8_rules, Cond.instanceMethod yX8_rules, Cond.selects RX8 yX8_rules yX8_rules, Cond.code yX8_rules cX8_rules 5 (some .int), Cond.methodLink RL 131 yX7_seeds, Cond.instanceMethod yX7_seeds, Cond.selects RX7 yX7_seeds yX7_seeds, Cond.code yX7_seeds cX7_seeds 8 (some .int), Cond.methodLink RX7 260 yX0_sitByDraws, Cond.instanceMethod yX0_sitByDraws, Cond.selects RX0 yX0_sitByDraws yX0_sitByDraws, Cond.code yX0_sitByDraws cX0_sitByDraws 5 (some .int), Cond.constant RX0 90 (1664525), Cond.constant RX0 91 (1013904223), Cond.methodLink RX0 92 yX0_seatsMany, Cond.methodLink RX0 96 yX0_drawn, Cond.static yX0_drawn, Cond.code yX0_drawn cX0_drawn 2 (some .int), Cond.constant RX0 105 (2147483647), Cond.methodLink RX0 99 yX0_seatFromLeft, Cond.methodLink RX0 102 yX0_isTaken, Cond.methodLink RL 134 yX8_seeds, Cond.instanceMethod yX8_seeds, Cond.selects RX8 yX8_seeds yX8_seeds]
def wsL_law_r40 : List Cond := [Cond.code yX8_seeds cX8_seeds 11 (some .int), Cond.constant RX8 213 (1664525), Cond.constant RX8 214 (1013904223), Cond.constant RX8 215 (2147483647), Cond.methodLink RL 135 yX7_row, Cond.instanceMethod yX7_row, Cond.selects RX7 yX7_row yX7_row, Cond.code yX7_row cX7_row 2 (some .int), Cond.fieldLink RX7 263 "SeeSawForFive" "rowMany" "I", Cond.methodLink RL 138 yX8_row, Cond.instanceMethod yX8_row, Cond.selects RX8 yX8_row yX8_row, Cond.code yX8_row cX8_row 3 (some .int), Cond.fieldLink RX8 216 "SeeSawForFiveModel" "rowed" "I", Cond.methodLink RL 139 yX7_judge, Cond.instanceMethod yX7_judge, Cond.selects RX7 yX7_judge yX7_judge, Cond.code yX7_judge cX7_judge 2 (some .int), Cond.methodLink RX7 266 yX7_lookAtRow, Cond.instanceMethod yX7_lookAtRow, Cond.selects RX7 yX7_lookAtRow yX7_lookAtRow, Cond.code yX7_lookAtRow cX7_lookAtRow 2 (some .int), Cond.fieldLink RX7 279 "SeeSawForFive$Board" "children" "I", Cond.methodLink RX7 311 Lib.Math.min.name]
def wsL_law_r41 : List Cond := [Cond.methodLink RL 142 yX8_judge, Cond.instanceMethod yX8_judge, Cond.selects RX8 yX8_judge yX8_judge, Cond.code yX8_judge cX8_judge 3 (some .int), Cond.methodLink RL 143 yX7_image, Cond.instanceMethod yX7_image, Cond.selects RX7 yX7_image yX7_image, Cond.code yX7_image cX7_image 1 (some .int), Cond.fieldLink RX7 275 "SeeSawForFive" "kept" "Z", Cond.methodLink RX7 269 yX1_become, Cond.instanceMethod yX1_become, Cond.selects RX1 yX1_become yX1_become, Cond.code yX1_become cX1_become 2 none, Cond.methodLink RX1 35 arraycopyName, Cond.methodLink RX7 272 yX2_become, Cond.instanceMethod yX2_become, Cond.selects RX2 yX2_become yX2_become, Cond.code yX2_become cX2_become 2 none, Cond.methodLink RX2 23 arraycopyName, Cond.methodLink RL 146 yX8_image, Cond.instanceMethod yX8_image, Cond.selects RX8 yX8_image yX8_image, Cond.code yX8_image cX8_image 1 (some .int), Cond.fieldLink RX8 219 "SeeSawForFiveModel" "isImage" "Z"]
def wsL_law_r42 : List Cond := [Cond.methodLink RL 147 yX7_on, Cond.instanceMethod yX7_on, Cond.selects RX7 yX7_on yX7_on, Cond.code yX7_on cX7_on 1 (some .int), Cond.methodLink RL 150 yX8_on, Cond.instanceMethod yX8_on, Cond.selects RX8 yX8_on yX8_on, Cond.code yX8_on cX8_on 1 (some .int), Cond.methodLink RL 151 yX7_count, Cond.instanceMethod yX7_count, Cond.selects RX7 yX7_count yX7_count, Cond.code yX7_count cX7_count 2 (some .int), Cond.fieldLink RX7 285 "SeeSawForFive$Board" "length" "I", Cond.fieldLink RX7 288 "SeeSawForFive$Board" "own" "I", Cond.methodLink RX7 282 yX0_sitters, Cond.instanceMethod yX0_sitters, Cond.selects RX0 yX0_sitters yX0_sitters, Cond.code yX0_sitters cX0_sitters 3 (some .int), Cond.methodLink RL 154 yX8_count, Cond.instanceMethod yX8_count, Cond.selects RX8 yX8_count yX8_count, Cond.code yX8_count cX8_count 2 (some .int)]
def wsL_law : List Cond := (wsL_law_r1 ++ (wsL_law_r2 ++ (wsL_law_r3 ++ (wsL_law_r4 ++ (wsL_law_r5 ++ (wsL_law_r6 ++ (wsL_law_r7 ++ (wsL_law_r8 ++ (wsL_law_r9 ++ (wsL_law_r10 ++ (wsL_law_r11 ++ (wsL_law_r12 ++ (wsL_law_r13 ++ (wsL_law_r14 ++ (wsL_law_r15 ++ (wsL_law_r16 ++ (wsL_law_r17 ++ (wsL_law_r18 ++ (wsL_law_r19 ++ (wsL_law_r20 ++ (wsL_law_r21 ++ (wsL_law_r22 ++ (wsL_law_r23 ++ (wsL_law_r24 ++ (wsL_law_r25 ++ (wsL_law_r26 ++ (wsL_law_r27 ++ (wsL_law_r28 ++ (wsL_law_r29 ++ (wsL_law_r30 ++ (wsL_law_r31 ++ (wsL_law_r32 ++ (wsL_law_r33 ++ (wsL_law_r34 ++ (wsL_law_r35 ++ (wsL_law_r36 ++ (wsL_law_r37 ++ (wsL_law_r38 ++ (wsL_law_r39 ++ (wsL_law_r40 ++ (wsL_law_r41 ++ wsL_law_r42))))))))))))))))))))))))))))))))))))))))) ++ wsX70 ++ wsX80 ++ wsX60 ++ wsX00 ++ wsX10 ++ wsX20 ++ wsX40 ++ wsX30 ++ wsX50 ++ ([] : List Cond)
set_option maxRecDepth 20000 in
theorem wsL_law_in : ∀ w ∈ wsL_law, w ∈ lw_tbl := fun w h => (goodIn_p wsL_law [72, 75, 80, 107, 149, 191, 211, 250, 285, 886, 348, 352, 356, 360, 961, 964, 968, 365, 369, 373, 377, 381, 384, 393, 397, 401, 407, 411, 414, 417, 422, 425, 428, 431, 435, 445, 448, 452, 455, 458, 461, 465, 473, 477, 480, 484, 488, 492, 496, 500, 504, 508, 512, 516, 972, 976, 980, 984, 988, 992, 996, 999, 1003, 1006, 1010, 1014, 1017, 521, 1021, 1025, 1028, 1032, 526, 530, 535, 1036, 1041, 539, 1045, 1049, 1053, 545, 1057, 549, 553, 557, 561, 565, 568, 571, 574, 1061, 1065, 1069, 1073, 1077, 1081, 578, 581, 1085, 1088, 585, 589, 593, 597, 601, 605, 609, 613, 617, 1092, 1096, 1100, 623, 1104, 627, 1108, 631, 635, 1112, 640, 1116, 646, 650, 658, 670, 662, 665, 1120, 1124, 1128, 1132, 674, 1136, 678, 1140, 682, 685, 689, 693, 1144, 698, 702, 706, 1148, 1152, 1156, 713, 717, 722, 1160, 1164, 727, 731, 1168, 1172, 736, 740, 747, 752, 1176, 1180, 1184, 756, 759, 763, 767, 1188, 1192, 771, 774, 1196, 1199, 778, 1203, 784, 787, 790, 793, 1207, 1210, 1213, 1216, 797, 800, 803, 1220, 807, 811, 815, 1224, 820, 824, 1228, 829, 833, 839, 1232, 846, 1239, 850, 854, 1243, 859, 863, 868, 1247, 873, 1251, 877, 881, 1255] (by decide +kernel) (by decide +kernel) w h).1
theorem inlX0 : ∀ w ∈ wsX00, w ∈ wsL_law := fun _ h => List.mem_append_left _ (List.mem_append_left _ (List.mem_append_left _ (List.mem_append_left _ (List.mem_append_left _ (List.mem_append_left _ (List.mem_append_right _ h))))))
theorem inX0 : ∀ w ∈ wsX00, w ∈ lw_tbl := fun w h => wsL_law_in w (inlX0 w h)
theorem inlX1 : ∀ w ∈ wsX10, w ∈ wsL_law := fun _ h => List.mem_append_left _ (List.mem_append_left _ (List.mem_append_left _ (List.mem_append_left _ (List.mem_append_left _ (List.mem_append_right _ h)))))
theorem inX1 : ∀ w ∈ wsX10, w ∈ lw_tbl := fun w h => wsL_law_in w (inlX1 w h)
theorem inlX2 : ∀ w ∈ wsX20, w ∈ wsL_law := fun _ h => List.mem_append_left _ (List.mem_append_left _ (List.mem_append_left _ (List.mem_append_left _ (List.mem_append_right _ h))))
theorem inX2 : ∀ w ∈ wsX20, w ∈ lw_tbl := fun w h => wsL_law_in w (inlX2 w h)
theorem inlX3 : ∀ w ∈ wsX30, w ∈ wsL_law := fun _ h => List.mem_append_left _ (List.mem_append_left _ (List.mem_append_right _ h))
theorem inX3 : ∀ w ∈ wsX30, w ∈ lw_tbl := fun w h => wsL_law_in w (inlX3 w h)
theorem inlX4 : ∀ w ∈ wsX40, w ∈ wsL_law := fun _ h => List.mem_append_left _ (List.mem_append_left _ (List.mem_append_left _ (List.mem_append_right _ h)))
theorem inX4 : ∀ w ∈ wsX40, w ∈ lw_tbl := fun w h => wsL_law_in w (inlX4 w h)
theorem inlX5 : ∀ w ∈ wsX50, w ∈ wsL_law := fun _ h => List.mem_append_left _ (List.mem_append_right _ h)
theorem inX5 : ∀ w ∈ wsX50, w ∈ lw_tbl := fun w h => wsL_law_in w (inlX5 w h)
theorem inlX6 : ∀ w ∈ wsX60, w ∈ wsL_law := fun _ h => List.mem_append_left _ (List.mem_append_left _ (List.mem_append_left _ (List.mem_append_left _ (List.mem_append_left _ (List.mem_append_left _ (List.mem_append_left _ (List.mem_append_right _ h)))))))
theorem inX6 : ∀ w ∈ wsX60, w ∈ lw_tbl := fun w h => wsL_law_in w (inlX6 w h)
theorem inlX7 : ∀ w ∈ wsX70, w ∈ wsL_law := fun _ h => List.mem_append_left _ (List.mem_append_left _ (List.mem_append_left _ (List.mem_append_left _ (List.mem_append_left _ (List.mem_append_left _ (List.mem_append_left _ (List.mem_append_left _ (List.mem_append_left _ (List.mem_append_right _ h)))))))))
theorem inX7 : ∀ w ∈ wsX70, w ∈ lw_tbl := fun w h => wsL_law_in w (inlX7 w h)
theorem inlX8 : ∀ w ∈ wsX80, w ∈ wsL_law := fun _ h => List.mem_append_left _ (List.mem_append_left _ (List.mem_append_left _ (List.mem_append_left _ (List.mem_append_left _ (List.mem_append_left _ (List.mem_append_left _ (List.mem_append_left _ (List.mem_append_right _ h))))))))
theorem inX8 : ∀ w ∈ wsX80, w ∈ lw_tbl := fun w h => wsL_law_in w (inlX8 w h)
abbrev vwCl : List vw_C := [(RX0, TX0, 8), (RX1, TX1, 10), (RX2, TX2, 4), (RX3, TX3, 8), (RX4, TX4, 9), (RX5, TX5, 3), (RX6, TX6, 5), (RX7, TX7, 15), (RX8, TX8, 23)]
