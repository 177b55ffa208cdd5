section
-- ===== PART A: goes FIRST, ahead of the names: the tables' words, and 'selects' of the private methods out of them =====
/-- a private method of a class that the tables say can be made, by its rows of tables_1 -/
def lw_okq (q : MethodName × Nat) : Prop := (q.1.cls ≠ "java/lang/invoke/MethodHandle" ∧ q.1.cls ≠ "java/lang/invoke/VarHandle") ∧ Cond.instantiable q.1.cls q.2 ∈ tables_1 ∧ Cond.privateMethod q.1 ∈ tables_1 ∧ Cond.instanceMethod q.1 ∈ tables_1
theorem lw_p0 : lw_okq (⟨"SeeSawForFive", "refuse", "(I)I"⟩, 15) := ⟨⟨by decide +kernel, by decide +kernel⟩, List.mem_of_getElem? (i := 18) (by decide +kernel), List.mem_of_getElem? (i := 299) (by decide +kernel), List.mem_of_getElem? (i := 300) (by decide +kernel)⟩
theorem lw_p1 : lw_okq (⟨"SeeSawForFive", "readBoard", "()I"⟩, 15) := ⟨⟨by decide +kernel, by decide +kernel⟩, List.mem_of_getElem? (i := 18) (by decide +kernel), List.mem_of_getElem? (i := 316) (by decide +kernel), List.mem_of_getElem? (i := 317) (by decide +kernel)⟩
theorem lw_p2 : lw_okq (⟨"SeeSawForFive$Text", "here", "()I"⟩, 5) := ⟨⟨by decide +kernel, by decide +kernel⟩, List.mem_of_getElem? (i := 26) (by decide +kernel), List.mem_of_getElem? (i := 328) (by decide +kernel), List.mem_of_getElem? (i := 329) (by decide +kernel)⟩
theorem lw_p3 : lw_okq (⟨"SeeSawForFive$Text", "readNumber", "()I"⟩, 5) := ⟨⟨by decide +kernel, by decide +kernel⟩, List.mem_of_getElem? (i := 26) (by decide +kernel), List.mem_of_getElem? (i := 392) (by decide +kernel), List.mem_of_getElem? (i := 393) (by decide +kernel)⟩
theorem lw_p4 : lw_okq (⟨"SeeSawForFive$Text", "readSign", "(C)I"⟩, 5) := ⟨⟨by decide +kernel, by decide +kernel⟩, List.mem_of_getElem? (i := 26) (by decide +kernel), List.mem_of_getElem? (i := 399) (by decide +kernel), List.mem_of_getElem? (i := 400) (by decide +kernel)⟩
theorem lw_p5 : lw_okq (⟨"SeeSawForFive$Board", "takesLength", "(II)Z"⟩, 8) := ⟨⟨by decide +kernel, by decide +kernel⟩, List.mem_of_getElem? (i := 53) (by decide +kernel), List.mem_of_getElem? (i := 424) (by decide +kernel), List.mem_of_getElem? (i := 425) (by decide +kernel)⟩
theorem lw_p6 : lw_okq (⟨"SeeSawForFive$Board", "takesNotch", "(I)Z"⟩, 8) := ⟨⟨by decide +kernel, by decide +kernel⟩, List.mem_of_getElem? (i := 53) (by decide +kernel), List.mem_of_getElem? (i := 431) (by decide +kernel), List.mem_of_getElem? (i := 432) (by decide +kernel)⟩
theorem lw_p7 : lw_okq (⟨"SeeSawForFive$Board", "takesChild", "(III)Z"⟩, 8) := ⟨⟨by decide +kernel, by decide +kernel⟩, List.mem_of_getElem? (i := 53) (by decide +kernel), List.mem_of_getElem? (i := 435) (by decide +kernel), List.mem_of_getElem? (i := 436) (by decide +kernel)⟩
theorem lw_p8 : lw_okq (⟨"SeeSawForFive$Board", "takesSeat", "(II)Z"⟩, 8) := ⟨⟨by decide +kernel, by decide +kernel⟩, List.mem_of_getElem? (i := 53) (by decide +kernel), List.mem_of_getElem? (i := 439) (by decide +kernel), List.mem_of_getElem? (i := 440) (by decide +kernel)⟩
theorem lw_p9 : lw_okq (⟨"SeeSawForFive$Board", "takesOff", "(I)Z"⟩, 8) := ⟨⟨by decide +kernel, by decide +kernel⟩, List.mem_of_getElem? (i := 53) (by decide +kernel), List.mem_of_getElem? (i := 455) (by decide +kernel), List.mem_of_getElem? (i := 456) (by decide +kernel)⟩
theorem lw_p10 : lw_okq (⟨"SeeSawForFive", "refuseApart", "(I)I"⟩, 15) := ⟨⟨by decide +kernel, by decide +kernel⟩, List.mem_of_getElem? (i := 18) (by decide +kernel), List.mem_of_getElem? (i := 477) (by decide +kernel), List.mem_of_getElem? (i := 478) (by decide +kernel)⟩
theorem lw_p11 : lw_okq (⟨"SeeSawForFive$Board", "ownTurnBy", "(I)I"⟩, 8) := ⟨⟨by decide +kernel, by decide +kernel⟩, List.mem_of_getElem? (i := 53) (by decide +kernel), List.mem_of_getElem? (i := 508) (by decide +kernel), List.mem_of_getElem? (i := 509) (by decide +kernel)⟩
theorem lw_p12 : lw_okq (⟨"SeeSawForFive$Placings", "goThrough", "(III)V"⟩, 9) := ⟨⟨by decide +kernel, by decide +kernel⟩, List.mem_of_getElem? (i := 157) (by decide +kernel), List.mem_of_getElem? (i := 560) (by decide +kernel), List.mem_of_getElem? (i := 561) (by decide +kernel)⟩
theorem lw_p13 : lw_okq (⟨"SeeSawForFive$Placings", "weigh", "(I)V"⟩, 9) := ⟨⟨by decide +kernel, by decide +kernel⟩, List.mem_of_getElem? (i := 157) (by decide +kernel), List.mem_of_getElem? (i := 564) (by decide +kernel), List.mem_of_getElem? (i := 565) (by decide +kernel)⟩
theorem lw_p14 : lw_okq (⟨"SeeSawForFive$Orders", "goThrough", "(IIII)V"⟩, 8) := ⟨⟨by decide +kernel, by decide +kernel⟩, List.mem_of_getElem? (i := 196) (by decide +kernel), List.mem_of_getElem? (i := 605) (by decide +kernel), List.mem_of_getElem? (i := 606) (by decide +kernel)⟩
theorem lw_p15 : lw_okq (⟨"SeeSawForFive$Orders", "hear", "(I)V"⟩, 8) := ⟨⟨by decide +kernel, by decide +kernel⟩, List.mem_of_getElem? (i := 196) (by decide +kernel), List.mem_of_getElem? (i := 609) (by decide +kernel), List.mem_of_getElem? (i := 610) (by decide +kernel)⟩
def lw_privs_1 : List (MethodName × Nat) := [(⟨"SeeSawForFive", "refuse", "(I)I"⟩, 15), (⟨"SeeSawForFive", "readBoard", "()I"⟩, 15), (⟨"SeeSawForFive$Text", "here", "()I"⟩, 5), (⟨"SeeSawForFive$Text", "readNumber", "()I"⟩, 5), (⟨"SeeSawForFive$Text", "readSign", "(C)I"⟩, 5), (⟨"SeeSawForFive$Board", "takesLength", "(II)Z"⟩, 8), (⟨"SeeSawForFive$Board", "takesNotch", "(I)Z"⟩, 8), (⟨"SeeSawForFive$Board", "takesChild", "(III)Z"⟩, 8), (⟨"SeeSawForFive$Board", "takesSeat", "(II)Z"⟩, 8), (⟨"SeeSawForFive$Board", "takesOff", "(I)Z"⟩, 8), (⟨"SeeSawForFive", "refuseApart", "(I)I"⟩, 15), (⟨"SeeSawForFive$Board", "ownTurnBy", "(I)I"⟩, 8), (⟨"SeeSawForFive$Placings", "goThrough", "(III)V"⟩, 9), (⟨"SeeSawForFive$Placings", "weigh", "(I)V"⟩, 9), (⟨"SeeSawForFive$Orders", "goThrough", "(IIII)V"⟩, 8), (⟨"SeeSawForFive$Orders", "hear", "(I)V"⟩, 8)]
theorem lw_r1 : ∀ q ∈ lw_privs_1, lw_okq q := List.forall_mem_cons.mpr ⟨lw_p0, List.forall_mem_cons.mpr ⟨lw_p1, List.forall_mem_cons.mpr ⟨lw_p2, List.forall_mem_cons.mpr ⟨lw_p3, List.forall_mem_cons.mpr ⟨lw_p4, List.forall_mem_cons.mpr ⟨lw_p5, List.forall_mem_cons.mpr ⟨lw_p6, List.forall_mem_cons.mpr ⟨lw_p7, List.forall_mem_cons.mpr ⟨lw_p8, List.forall_mem_cons.mpr ⟨lw_p9, List.forall_mem_cons.mpr ⟨lw_p10, List.forall_mem_cons.mpr ⟨lw_p11, List.forall_mem_cons.mpr ⟨lw_p12, List.forall_mem_cons.mpr ⟨lw_p13, List.forall_mem_cons.mpr ⟨lw_p14, List.forall_mem_cons.mpr ⟨lw_p15, fun _ h => absurd h List.not_mem_nil⟩⟩⟩⟩⟩⟩⟩⟩⟩⟩⟩⟩⟩⟩⟩⟩
theorem lw_p16 : lw_okq (⟨"SeeSawForFive$Goes", "fit", "(LSeeSawForFive$Board;I)Z"⟩, 10) := ⟨⟨by decide +kernel, by decide +kernel⟩, List.mem_of_getElem? (i := 95) (by decide +kernel), List.mem_of_getElem? (i := 653) (by decide +kernel), List.mem_of_getElem? (i := 654) (by decide +kernel)⟩
theorem lw_p17 : lw_okq (⟨"SeeSawForFive$Goes", "greatestPart", "(II)I"⟩, 10) := ⟨⟨by decide +kernel, by decide +kernel⟩, List.mem_of_getElem? (i := 95) (by decide +kernel), List.mem_of_getElem? (i := 669) (by decide +kernel), List.mem_of_getElem? (i := 670) (by decide +kernel)⟩
theorem lw_p18 : lw_okq (⟨"SeeSawForFive", "lookAtRow", "()I"⟩, 15) := ⟨⟨by decide +kernel, by decide +kernel⟩, List.mem_of_getElem? (i := 18) (by decide +kernel), List.mem_of_getElem? (i := 801) (by decide +kernel), List.mem_of_getElem? (i := 802) (by decide +kernel)⟩
theorem lw_p19 : lw_okq (⟨"SeeSawForFiveModel", "refuse", "(I)I"⟩, 23) := ⟨⟨by decide +kernel, by decide +kernel⟩, List.mem_of_getElem? (i := 832) (by decide +kernel), List.mem_of_getElem? (i := 915) (by decide +kernel), List.mem_of_getElem? (i := 916) (by decide +kernel)⟩
theorem lw_p20 : lw_okq (⟨"SeeSawForFiveModel", "reads", "()I"⟩, 23) := ⟨⟨by decide +kernel, by decide +kernel⟩, List.mem_of_getElem? (i := 832) (by decide +kernel), List.mem_of_getElem? (i := 923) (by decide +kernel), List.mem_of_getElem? (i := 924) (by decide +kernel)⟩
theorem lw_p21 : lw_okq (⟨"SeeSawForFiveModel", "readsStatement", "()Z"⟩, 23) := ⟨⟨by decide +kernel, by decide +kernel⟩, List.mem_of_getElem? (i := 832) (by decide +kernel), List.mem_of_getElem? (i := 927) (by decide +kernel), List.mem_of_getElem? (i := 928) (by decide +kernel)⟩
theorem lw_p22 : lw_okq (⟨"SeeSawForFiveModel", "sign", "()I"⟩, 23) := ⟨⟨by decide +kernel, by decide +kernel⟩, List.mem_of_getElem? (i := 832) (by decide +kernel), List.mem_of_getElem? (i := 931) (by decide +kernel), List.mem_of_getElem? (i := 932) (by decide +kernel)⟩
theorem lw_p23 : lw_okq (⟨"SeeSawForFiveModel", "readsNumber", "(II)Z"⟩, 23) := ⟨⟨by decide +kernel, by decide +kernel⟩, List.mem_of_getElem? (i := 832) (by decide +kernel), List.mem_of_getElem? (i := 935) (by decide +kernel), List.mem_of_getElem? (i := 936) (by decide +kernel)⟩
theorem lw_p24 : lw_okq (⟨"SeeSawForFiveModel", "takes", "(I)Z"⟩, 23) := ⟨⟨by decide +kernel, by decide +kernel⟩, List.mem_of_getElem? (i := 832) (by decide +kernel), List.mem_of_getElem? (i := 939) (by decide +kernel), List.mem_of_getElem? (i := 940) (by decide +kernel)⟩
theorem lw_p25 : lw_okq (⟨"SeeSawForFiveModel", "readsKind", "()Z"⟩, 23) := ⟨⟨by decide +kernel, by decide +kernel⟩, List.mem_of_getElem? (i := 832) (by decide +kernel), List.mem_of_getElem? (i := 943) (by decide +kernel), List.mem_of_getElem? (i := 944) (by decide +kernel)⟩
theorem lw_p26 : lw_okq (⟨"SeeSawForFiveModel", "readsSide", "()Z"⟩, 23) := ⟨⟨by decide +kernel, by decide +kernel⟩, List.mem_of_getElem? (i := 832) (by decide +kernel), List.mem_of_getElem? (i := 950) (by decide +kernel), List.mem_of_getElem? (i := 951) (by decide +kernel)⟩
theorem lw_p27 : lw_okq (⟨"SeeSawForFiveModel", "comes", "(I)Z"⟩, 23) := ⟨⟨by decide +kernel, by decide +kernel⟩, List.mem_of_getElem? (i := 832) (by decide +kernel), List.mem_of_getElem? (i := 957) (by decide +kernel), List.mem_of_getElem? (i := 958) (by decide +kernel)⟩
theorem lw_p28 : lw_okq (⟨"SeeSawForFiveModel", "readSeat", "(I)I"⟩, 23) := ⟨⟨by decide +kernel, by decide +kernel⟩, List.mem_of_getElem? (i := 832) (by decide +kernel), List.mem_of_getElem? (i := 961) (by decide +kernel), List.mem_of_getElem? (i := 962) (by decide +kernel)⟩
theorem lw_p29 : lw_okq (⟨"SeeSawForFiveModel", "isKid", "(I)Z"⟩, 23) := ⟨⟨by decide +kernel, by decide +kernel⟩, List.mem_of_getElem? (i := 832) (by decide +kernel), List.mem_of_getElem? (i := 972) (by decide +kernel), List.mem_of_getElem? (i := 973) (by decide +kernel)⟩
theorem lw_p30 : lw_okq (⟨"SeeSawForFiveModel", "kid", "(II)I"⟩, 23) := ⟨⟨by decide +kernel, by decide +kernel⟩, List.mem_of_getElem? (i := 832) (by decide +kernel), List.mem_of_getElem? (i := 979) (by decide +kernel), List.mem_of_getElem? (i := 980) (by decide +kernel)⟩
theorem lw_p31 : lw_okq (⟨"SeeSawForFiveModel", "seatOf", "(I)I"⟩, 23) := ⟨⟨by decide +kernel, by decide +kernel⟩, List.mem_of_getElem? (i := 832) (by decide +kernel), List.mem_of_getElem? (i := 988) (by decide +kernel), List.mem_of_getElem? (i := 989) (by decide +kernel)⟩
def lw_privs_2 : List (MethodName × Nat) := [(⟨"SeeSawForFive$Goes", "fit", "(LSeeSawForFive$Board;I)Z"⟩, 10), (⟨"SeeSawForFive$Goes", "greatestPart", "(II)I"⟩, 10), (⟨"SeeSawForFive", "lookAtRow", "()I"⟩, 15), (⟨"SeeSawForFiveModel", "refuse", "(I)I"⟩, 23), (⟨"SeeSawForFiveModel", "reads", "()I"⟩, 23), (⟨"SeeSawForFiveModel", "readsStatement", "()Z"⟩, 23), (⟨"SeeSawForFiveModel", "sign", "()I"⟩, 23), (⟨"SeeSawForFiveModel", "readsNumber", "(II)Z"⟩, 23), (⟨"SeeSawForFiveModel", "takes", "(I)Z"⟩, 23), (⟨"SeeSawForFiveModel", "readsKind", "()Z"⟩, 23), (⟨"SeeSawForFiveModel", "readsSide", "()Z"⟩, 23), (⟨"SeeSawForFiveModel", "comes", "(I)Z"⟩, 23), (⟨"SeeSawForFiveModel", "readSeat", "(I)I"⟩, 23), (⟨"SeeSawForFiveModel", "isKid", "(I)Z"⟩, 23), (⟨"SeeSawForFiveModel", "kid", "(II)I"⟩, 23), (⟨"SeeSawForFiveModel", "seatOf", "(I)I"⟩, 23)]
theorem lw_r2 : ∀ q ∈ lw_privs_2, lw_okq q := List.forall_mem_cons.mpr ⟨lw_p16, List.forall_mem_cons.mpr ⟨lw_p17, List.forall_mem_cons.mpr ⟨lw_p18, List.forall_mem_cons.mpr ⟨lw_p19, List.forall_mem_cons.mpr ⟨lw_p20, List.forall_mem_cons.mpr ⟨lw_p21, List.forall_mem_cons.mpr ⟨lw_p22, List.forall_mem_cons.mpr ⟨lw_p23, List.forall_mem_cons.mpr ⟨lw_p24, List.forall_mem_cons.mpr ⟨lw_p25, List.forall_mem_cons.mpr ⟨lw_p26, List.forall_mem_cons.mpr ⟨lw_p27, List.forall_mem_cons.mpr ⟨lw_p28, List.forall_mem_cons.mpr ⟨lw_p29, List.forall_mem_cons.mpr ⟨lw_p30, List.forall_mem_cons.mpr ⟨lw_p31, fun _ h => absurd h List.not_mem_nil⟩⟩⟩⟩⟩⟩⟩⟩⟩⟩⟩⟩⟩⟩⟩⟩
theorem lw_p32 : lw_okq (⟨"SeeSawForFiveModel", "isSeat", "(I)Z"⟩, 23) := ⟨⟨by decide +kernel, by decide +kernel⟩, List.mem_of_getElem? (i := 832) (by decide +kernel), List.mem_of_getElem? (i := 996) (by decide +kernel), List.mem_of_getElem? (i := 997) (by decide +kernel)⟩
theorem lw_p33 : lw_okq (⟨"SeeSawForFiveModel", "whoSits", "(I)I"⟩, 23) := ⟨⟨by decide +kernel, by decide +kernel⟩, List.mem_of_getElem? (i := 832) (by decide +kernel), List.mem_of_getElem? (i := 1000) (by decide +kernel), List.mem_of_getElem? (i := 1001) (by decide +kernel)⟩
theorem lw_p34 : lw_okq (⟨"SeeSawForFiveModel", "sumNow", "()I"⟩, 23) := ⟨⟨by decide +kernel, by decide +kernel⟩, List.mem_of_getElem? (i := 832) (by decide +kernel), List.mem_of_getElem? (i := 1012) (by decide +kernel), List.mem_of_getElem? (i := 1013) (by decide +kernel)⟩
theorem lw_p35 : lw_okq (⟨"SeeSawForFiveModel", "bare", "(I)I"⟩, 23) := ⟨⟨by decide +kernel, by decide +kernel⟩, List.mem_of_getElem? (i := 832) (by decide +kernel), List.mem_of_getElem? (i := 1016) (by decide +kernel), List.mem_of_getElem? (i := 1017) (by decide +kernel)⟩
theorem lw_p36 : lw_okq (⟨"SeeSawForFiveModel", "turnOf", "(II)I"⟩, 23) := ⟨⟨by decide +kernel, by decide +kernel⟩, List.mem_of_getElem? (i := 832) (by decide +kernel), List.mem_of_getElem? (i := 1020) (by decide +kernel), List.mem_of_getElem? (i := 1021) (by decide +kernel)⟩
theorem lw_p37 : lw_okq (⟨"SeeSawForFiveModel", "armOf", "(I)I"⟩, 23) := ⟨⟨by decide +kernel, by decide +kernel⟩, List.mem_of_getElem? (i := 832) (by decide +kernel), List.mem_of_getElem? (i := 1024) (by decide +kernel), List.mem_of_getElem? (i := 1025) (by decide +kernel)⟩
theorem lw_p38 : lw_okq (⟨"SeeSawForFiveModel", "turnBy", "(III)I"⟩, 23) := ⟨⟨by decide +kernel, by decide +kernel⟩, List.mem_of_getElem? (i := 832) (by decide +kernel), List.mem_of_getElem? (i := 1028) (by decide +kernel), List.mem_of_getElem? (i := 1029) (by decide +kernel)⟩
theorem lw_p39 : lw_okq (⟨"SeeSawForFiveModel", "findsPlacings", "()V"⟩, 23) := ⟨⟨by decide +kernel, by decide +kernel⟩, List.mem_of_getElem? (i := 832) (by decide +kernel), List.mem_of_getElem? (i := 1043) (by decide +kernel), List.mem_of_getElem? (i := 1044) (by decide +kernel)⟩
theorem lw_p40 : lw_okq (⟨"SeeSawForFiveModel", "places", "(II)V"⟩, 23) := ⟨⟨by decide +kernel, by decide +kernel⟩, List.mem_of_getElem? (i := 832) (by decide +kernel), List.mem_of_getElem? (i := 1047) (by decide +kernel), List.mem_of_getElem? (i := 1048) (by decide +kernel)⟩
theorem lw_p41 : lw_okq (⟨"SeeSawForFiveModel", "findsOrders", "(I)V"⟩, 23) := ⟨⟨by decide +kernel, by decide +kernel⟩, List.mem_of_getElem? (i := 832) (by decide +kernel), List.mem_of_getElem? (i := 1071) (by decide +kernel), List.mem_of_getElem? (i := 1072) (by decide +kernel)⟩
theorem lw_p42 : lw_okq (⟨"SeeSawForFiveModel", "gets", "(IIIII)V"⟩, 23) := ⟨⟨by decide +kernel, by decide +kernel⟩, List.mem_of_getElem? (i := 832) (by decide +kernel), List.mem_of_getElem? (i := 1075) (by decide +kernel), List.mem_of_getElem? (i := 1076) (by decide +kernel)⟩
theorem lw_p43 : lw_okq (⟨"SeeSawForFiveModel", "sitters", "()I"⟩, 23) := ⟨⟨by decide +kernel, by decide +kernel⟩, List.mem_of_getElem? (i := 832) (by decide +kernel), List.mem_of_getElem? (i := 1079) (by decide +kernel), List.mem_of_getElem? (i := 1080) (by decide +kernel)⟩
theorem lw_p44 : lw_okq (⟨"SeeSawForFiveModel", "fits", "(I)Z"⟩, 23) := ⟨⟨by decide +kernel, by decide +kernel⟩, List.mem_of_getElem? (i := 832) (by decide +kernel), List.mem_of_getElem? (i := 1099) (by decide +kernel), List.mem_of_getElem? (i := 1100) (by decide +kernel)⟩
theorem lw_p45 : lw_okq (⟨"SeeSawForFiveModel", "downWith", "(IIII)I"⟩, 23) := ⟨⟨by decide +kernel, by decide +kernel⟩, List.mem_of_getElem? (i := 832) (by decide +kernel), List.mem_of_getElem? (i := 1103) (by decide +kernel), List.mem_of_getElem? (i := 1104) (by decide +kernel)⟩
theorem lw_p46 : lw_okq (⟨"SeeSawForFiveModel", "greatestPart", "(III)I"⟩, 23) := ⟨⟨by decide +kernel, by decide +kernel⟩, List.mem_of_getElem? (i := 832) (by decide +kernel), List.mem_of_getElem? (i := 1111) (by decide +kernel), List.mem_of_getElem? (i := 1112) (by decide +kernel)⟩
theorem lw_p47 : lw_okq (⟨"SeeSawForFiveModel", "inertiaNow", "()I"⟩, 23) := ⟨⟨by decide +kernel, by decide +kernel⟩, List.mem_of_getElem? (i := 832) (by decide +kernel), List.mem_of_getElem? (i := 1119) (by decide +kernel), List.mem_of_getElem? (i := 1120) (by decide +kernel)⟩
def lw_privs_3 : List (MethodName × Nat) := [(⟨"SeeSawForFiveModel", "isSeat", "(I)Z"⟩, 23), (⟨"SeeSawForFiveModel", "whoSits", "(I)I"⟩, 23), (⟨"SeeSawForFiveModel", "sumNow", "()I"⟩, 23), (⟨"SeeSawForFiveModel", "bare", "(I)I"⟩, 23), (⟨"SeeSawForFiveModel", "turnOf", "(II)I"⟩, 23), (⟨"SeeSawForFiveModel", "armOf", "(I)I"⟩, 23), (⟨"SeeSawForFiveModel", "turnBy", "(III)I"⟩, 23), (⟨"SeeSawForFiveModel", "findsPlacings", "()V"⟩, 23), (⟨"SeeSawForFiveModel", "places", "(II)V"⟩, 23), (⟨"SeeSawForFiveModel", "findsOrders", "(I)V"⟩, 23), (⟨"SeeSawForFiveModel", "gets", "(IIIII)V"⟩, 23), (⟨"SeeSawForFiveModel", "sitters", "()I"⟩, 23), (⟨"SeeSawForFiveModel", "fits", "(I)Z"⟩, 23), (⟨"SeeSawForFiveModel", "downWith", "(IIII)I"⟩, 23), (⟨"SeeSawForFiveModel", "greatestPart", "(III)I"⟩, 23), (⟨"SeeSawForFiveModel", "inertiaNow", "()I"⟩, 23)]
theorem lw_r3 : ∀ q ∈ lw_privs_3, lw_okq q := List.forall_mem_cons.mpr ⟨lw_p32, List.forall_mem_cons.mpr ⟨lw_p33, List.forall_mem_cons.mpr ⟨lw_p34, List.forall_mem_cons.mpr ⟨lw_p35, List.forall_mem_cons.mpr ⟨lw_p36, List.forall_mem_cons.mpr ⟨lw_p37, List.forall_mem_cons.mpr ⟨lw_p38, List.forall_mem_cons.mpr ⟨lw_p39, List.forall_mem_cons.mpr ⟨lw_p40, List.forall_mem_cons.mpr ⟨lw_p41, List.forall_mem_cons.mpr ⟨lw_p42, List.forall_mem_cons.mpr ⟨lw_p43, List.forall_mem_cons.mpr ⟨lw_p44, List.forall_mem_cons.mpr ⟨lw_p45, List.forall_mem_cons.mpr ⟨lw_p46, List.forall_mem_cons.mpr ⟨lw_p47, fun _ h => absurd h List.not_mem_nil⟩⟩⟩⟩⟩⟩⟩⟩⟩⟩⟩⟩⟩⟩⟩⟩
theorem lw_p48 : lw_okq (⟨"SeeSawForFiveModel", "more", "()I"⟩, 23) := ⟨⟨by decide +kernel, by decide +kernel⟩, List.mem_of_getElem? (i := 832) (by decide +kernel), List.mem_of_getElem? (i := 1127) (by decide +kernel), List.mem_of_getElem? (i := 1128) (by decide +kernel)⟩
theorem lw_p49 : lw_okq (⟨"SeeSawForFiveModel", "goesTenth", "(I)V"⟩, 23) := ⟨⟨by decide +kernel, by decide +kernel⟩, List.mem_of_getElem? (i := 832) (by decide +kernel), List.mem_of_getElem? (i := 1131) (by decide +kernel), List.mem_of_getElem? (i := 1132) (by decide +kernel)⟩
theorem lw_p50 : lw_okq (⟨"SeeSawForFiveModel", "legsOn", "(I)I"⟩, 23) := ⟨⟨by decide +kernel, by decide +kernel⟩, List.mem_of_getElem? (i := 832) (by decide +kernel), List.mem_of_getElem? (i := 1139) (by decide +kernel), List.mem_of_getElem? (i := 1140) (by decide +kernel)⟩
def lw_privs_4 : List (MethodName × Nat) := [(⟨"SeeSawForFiveModel", "more", "()I"⟩, 23), (⟨"SeeSawForFiveModel", "goesTenth", "(I)V"⟩, 23), (⟨"SeeSawForFiveModel", "legsOn", "(I)I"⟩, 23)]
theorem lw_r4 : ∀ q ∈ lw_privs_4, lw_okq q := List.forall_mem_cons.mpr ⟨lw_p48, List.forall_mem_cons.mpr ⟨lw_p49, List.forall_mem_cons.mpr ⟨lw_p50, fun _ h => absurd h List.not_mem_nil⟩⟩⟩
def lw_privs : List (MethodName × Nat) := lw_privs_1 ++ (lw_privs_2 ++ (lw_privs_3 ++ (lw_privs_4)))
def lw_tbl : List Cond := k2_sels lw_privs ++ tables_1
theorem lw_privs_ok : ∀ q ∈ lw_privs, lw_okq q := by
  show ∀ q ∈ lw_privs_1 ++ (lw_privs_2 ++ (lw_privs_3 ++ (lw_privs_4))), lw_okq q
  exact List.forall_mem_append.mpr ⟨lw_r1, List.forall_mem_append.mpr ⟨lw_r2, List.forall_mem_append.mpr ⟨lw_r3, lw_r4⟩⟩⟩
/-! ===== BEGIN words of one list among another's, by their places ===== -/
theorem goodIn_r {big : List Cond} (ws : List Cond) (ps : List Nat) (hp : ws = ps.filterMap (fun i => big[i]?)) (h : ws.all goodWord = true) : GoodIn big ws := by
  intro w hw
  have h1 := List.all_eq_true.mp h w hw
  rw [hp] at hw
  obtain ⟨i, -, hi⟩ := List.mem_filterMap.mp hw
  have hm : w ∈ big := by first | exact List.mem_of_getElem? hi | exact List.getElem?_mem hi
  exact ⟨hm, good_of_word h1⟩
theorem goodIn_app {big a b : List Cond} (ha : GoodIn big a) (hb : GoodIn big b) : GoodIn big (a ++ b) := fun w h => (List.mem_append.mp h).elim (ha w) (hb w)
theorem goodIn_ca {big a b : List Cond} {c : Cond} (ha : GoodIn big (c :: a)) (hb : GoodIn big b) : GoodIn big (c :: (a ++ b)) := fun w h => (List.mem_cons.mp h).elim (fun e => ha w (List.mem_cons.mpr (Or.inl e))) (fun h => (List.mem_append.mp h).elim (fun h => ha w (List.mem_cons.mpr (Or.inr h))) (hb w))
theorem goodIn_sub {big ws : List Cond} (hm : ∀ w ∈ ws, w ∈ big) (h : ws.all goodWord = true) : GoodIn big ws := fun w hw => ⟨hm w hw, good_of_word (List.all_eq_true.mp h w hw)⟩
/-! ===== END ===== -/

def RX0 : String := "SeeSawForFive$Board"
def TX0 : u_T := fun k => match k with
  | 0 => ("SeeSawForFive$Board", "length", "I", false)
  | 1 => ("SeeSawForFive$Board", "own", "I", false)
  | 2 => ("SeeSawForFive$Board", "notch", "I", false)
  | 3 => ("SeeSawForFive$Board", "children", "I", false)
  | 4 => ("SeeSawForFive$Board", "kinds", "[I", true)
  | 5 => ("SeeSawForFive$Board", "weights", "[I", true)
  | 6 => ("SeeSawForFive$Board", "legs", "[I", true)
  | _ => ("SeeSawForFive$Board", "feet", "[I", true)
def tyX0 : Nat → FieldType := fun k => match k with
  | 0 => .int
  | 1 => .int
  | 2 => .int
  | 3 => .int
  | 4 => .array .int
  | 5 => .array .int
  | 6 => .array .int
  | _ => .array .int
abbrev wsX00 : List Cond := u_ws RX0 TX0 8
theorem nmX0 : ∀ a, a < 8 → ∀ b, b < 8 → a ≠ b → (TX0 a).2.1 ≠ (TX0 b).2.1 := by decide +kernel
theorem tyX0_ok : ∀ k, k < 8 → parseFieldDescriptor (TX0 k).2.2.1 = some (tyX0 k) := by decide +kernel
abbrev cX0_init : ByteArray := prog_2_method_1_code
def yX0_init : MethodName := ⟨RX0, "<init>", "()V"⟩
abbrev cX0_become : ByteArray := prog_2_method_2_code
def yX0_become : MethodName := ⟨RX0, "become", "(LSeeSawForFive$Board;)V"⟩
abbrev cX0_hasChild : ByteArray := prog_2_method_3_code
def yX0_hasChild : MethodName := ⟨RX0, "hasChild", "(I)Z"⟩
abbrev cX0_hasSeat : ByteArray := prog_2_method_4_code
def yX0_hasSeat : MethodName := ⟨RX0, "hasSeat", "(I)Z"⟩
abbrev cX0_sits : ByteArray := prog_2_method_5_code
def yX0_sits : MethodName := ⟨RX0, "sits", "(I)Z"⟩
abbrev cX0_isTaken : ByteArray := prog_2_method_6_code
def yX0_isTaken : MethodName := ⟨RX0, "isTaken", "(I)Z"⟩
abbrev cX0_isTakenByOther : ByteArray := prog_2_method_7_code
def yX0_isTakenByOther : MethodName := ⟨RX0, "isTakenByOther", "(II)Z"⟩
abbrev cX0_sitters : ByteArray := prog_2_method_8_code
def yX0_sitters : MethodName := ⟨RX0, "sitters", "()I"⟩
abbrev cX0_seatsMany : ByteArray := prog_2_method_9_code
def yX0_seatsMany : MethodName := ⟨RX0, "seatsMany", "()I"⟩
abbrev cX0_seatFromLeft : ByteArray := prog_2_method_10_code
def yX0_seatFromLeft : MethodName := ⟨RX0, "seatFromLeft", "(I)I"⟩
abbrev cX0_armOf : ByteArray := prog_2_method_11_code
def yX0_armOf : MethodName := ⟨RX0, "armOf", "(I)I"⟩
abbrev cX0_ownTurn : ByteArray := prog_2_method_12_code
def yX0_ownTurn : MethodName := ⟨RX0, "ownTurn", "()I"⟩
abbrev cX0_turned : ByteArray := prog_2_method_13_code
def yX0_turned : MethodName := ⟨RX0, "turned", "()I"⟩
abbrev cX0_turnedBy : ByteArray := prog_2_method_14_code
def yX0_turnedBy : MethodName := ⟨RX0, "turnedBy", "(I)I"⟩
abbrev cX0_turnOn : ByteArray := prog_2_method_15_code
def yX0_turnOn : MethodName := ⟨RX0, "turnOn", "(II)I"⟩
abbrev cX0_slowness : ByteArray := prog_2_method_16_code
def yX0_slowness : MethodName := ⟨RX0, "slowness", "()I"⟩
abbrev cX0_legsOn : ByteArray := prog_2_method_17_code
def yX0_legsOn : MethodName := ⟨RX0, "legsOn", "(I)I"⟩
abbrev cX0_takes : ByteArray := prog_2_method_18_code
def yX0_takes : MethodName := ⟨RX0, "takes", "(I[I)Z"⟩
abbrev cX0_sitByDraws : ByteArray := prog_2_method_19_code
def yX0_sitByDraws : MethodName := ⟨RX0, "sitByDraws", "(I)I"⟩
abbrev cX0_drawn : ByteArray := prog_2_method_20_code
def yX0_drawn : MethodName := ⟨RX0, "drawn", "(II)I"⟩
abbrev cX0_ownTurnBy : ByteArray := prog_2_method_21_code
def yX0_ownTurnBy : MethodName := ⟨RX0, "ownTurnBy", "(I)I"⟩
abbrev cX0_turnOf : ByteArray := prog_2_method_22_code
def yX0_turnOf : MethodName := ⟨RX0, "turnOf", "(III)I"⟩
abbrev cX0_hangerTurn : ByteArray := prog_2_method_23_code
def yX0_hangerTurn : MethodName := ⟨RX0, "hangerTurn", "(II)I"⟩
abbrev cX0_inTurn : ByteArray := prog_2_method_24_code
def yX0_inTurn : MethodName := ⟨RX0, "inTurn", "(II)I"⟩
abbrev cX0_takesLength : ByteArray := prog_2_method_25_code
def yX0_takesLength : MethodName := ⟨RX0, "takesLength", "(II)Z"⟩
abbrev cX0_takesNotch : ByteArray := prog_2_method_26_code
def yX0_takesNotch : MethodName := ⟨RX0, "takesNotch", "(I)Z"⟩
abbrev cX0_takesChild : ByteArray := prog_2_method_27_code
def yX0_takesChild : MethodName := ⟨RX0, "takesChild", "(III)Z"⟩
abbrev cX0_takesSeat : ByteArray := prog_2_method_28_code
def yX0_takesSeat : MethodName := ⟨RX0, "takesSeat", "(II)Z"⟩
abbrev cX0_takesOff : ByteArray := prog_2_method_29_code
def yX0_takesOff : MethodName := ⟨RX0, "takesOff", "(I)Z"⟩
def RX1 : String := "SeeSawForFive$Goes"
def TX1 : u_T := fun k => match k with
  | 0 => ("SeeSawForFive$Goes", "many", "I", false)
  | 1 => ("SeeSawForFive$Goes", "fitMany", "I", false)
  | 2 => ("SeeSawForFive$Goes", "fitLeast", "I", false)
  | 3 => ("SeeSawForFive$Goes", "fitMost", "I", false)
  | 4 => ("SeeSawForFive$Goes", "seats", "[I", true)
  | 5 => ("SeeSawForFive$Goes", "weights", "[I", true)
  | 6 => ("SeeSawForFive$Goes", "others", "[I", true)
  | 7 => ("SeeSawForFive$Goes", "told", "[I", true)
  | 8 => ("SeeSawForFive$Goes", "fits", "[Z", true)
  | _ => ("SeeSawForFive$Goes", "parts", "[I", true)
def tyX1 : Nat → FieldType := fun k => match k with
  | 0 => .int
  | 1 => .int
  | 2 => .int
  | 3 => .int
  | 4 => .array .int
  | 5 => .array .int
  | 6 => .array .int
  | 7 => .array .int
  | 8 => .array .boolean
  | _ => .array .int
abbrev wsX10 : List Cond := u_ws RX1 TX1 10
theorem nmX1 : ∀ a, a < 10 → ∀ b, b < 10 → a ≠ b → (TX1 a).2.1 ≠ (TX1 b).2.1 := by decide +kernel
theorem tyX1_ok : ∀ k, k < 10 → parseFieldDescriptor (TX1 k).2.2.1 = some (tyX1 k) := by decide +kernel
abbrev cX1_init : ByteArray := prog_3_method_1_code
def yX1_init : MethodName := ⟨RX1, "<init>", "()V"⟩
abbrev cX1_become : ByteArray := prog_3_method_2_code
def yX1_become : MethodName := ⟨RX1, "become", "(LSeeSawForFive$Goes;)V"⟩
abbrev cX1_isFull : ByteArray := prog_3_method_3_code
def yX1_isFull : MethodName := ⟨RX1, "isFull", "()Z"⟩
abbrev cX1_add : ByteArray := prog_3_method_4_code
def yX1_add : MethodName := ⟨RX1, "add", "(IIII)V"⟩
abbrev cX1_look : ByteArray := prog_3_method_5_code
def yX1_look : MethodName := ⟨RX1, "look", "(LSeeSawForFive$Board;)V"⟩
abbrev cX1_bestBucket : ByteArray := prog_3_method_6_code
def yX1_bestBucket : MethodName := ⟨RX1, "bestBucket", "(LSeeSawForFive$Board;II)I"⟩
abbrev cX1_greatestPart : ByteArray := prog_3_method_7_code
def yX1_greatestPart : MethodName := ⟨RX1, "greatestPart", "(II)I"⟩
abbrev cX1_fit : ByteArray := prog_3_method_8_code
def yX1_fit : MethodName := ⟨RX1, "fit", "(LSeeSawForFive$Board;I)Z"⟩
def RX2 : String := "SeeSawForFive$Guesses"
def TX2 : u_T := fun k => match k with
  | 0 => ("SeeSawForFive$Guesses", "many", "I", false)
  | 1 => ("SeeSawForFive$Guesses", "lefts", "[I", true)
  | 2 => ("SeeSawForFive$Guesses", "rights", "[I", true)
  | _ => ("SeeSawForFive$Guesses", "told", "[I", true)
def tyX2 : Nat → FieldType := fun k => match k with
  | 0 => .int
  | 1 => .array .int
  | 2 => .array .int
  | _ => .array .int
abbrev wsX20 : List Cond := u_ws RX2 TX2 4
theorem nmX2 : ∀ a, a < 4 → ∀ b, b < 4 → a ≠ b → (TX2 a).2.1 ≠ (TX2 b).2.1 := by decide +kernel
theorem tyX2_ok : ∀ k, k < 4 → parseFieldDescriptor (TX2 k).2.2.1 = some (tyX2 k) := by decide +kernel
abbrev cX2_init : ByteArray := prog_4_method_1_code
def yX2_init : MethodName := ⟨RX2, "<init>", "()V"⟩
abbrev cX2_become : ByteArray := prog_4_method_2_code
def yX2_become : MethodName := ⟨RX2, "become", "(LSeeSawForFive$Guesses;)V"⟩
abbrev cX2_isFull : ByteArray := prog_4_method_3_code
def yX2_isFull : MethodName := ⟨RX2, "isFull", "()Z"⟩
abbrev cX2_add : ByteArray := prog_4_method_4_code
def yX2_add : MethodName := ⟨RX2, "add", "(III)V"⟩
abbrev cX2_fit : ByteArray := prog_4_method_5_code
def yX2_fit : MethodName := ⟨RX2, "fit", "(I)Z"⟩
def RX3 : String := "SeeSawForFive$Orders"
def TX3 : u_T := fun k => match k with
  | 0 => ("SeeSawForFive$Orders", "many", "I", false)
  | 1 => ("SeeSawForFive$Orders", "quiet", "I", false)
  | 2 => ("SeeSawForFive$Orders", "leastBang", "I", false)
  | 3 => ("SeeSawForFive$Orders", "best", "[I", true)
  | 4 => ("SeeSawForFive$Orders", "bang", "I", false)
  | 5 => ("SeeSawForFive$Orders", "sitters", "[I", true)
  | 6 => ("SeeSawForFive$Orders", "turns", "[I", true)
  | _ => ("SeeSawForFive$Orders", "at", "[I", true)
def tyX3 : Nat → FieldType := fun k => match k with
  | 0 => .int
  | 1 => .int
  | 2 => .int
  | 3 => .array .int
  | 4 => .int
  | 5 => .array .int
  | 6 => .array .int
  | _ => .array .int
abbrev wsX30 : List Cond := u_ws RX3 TX3 8
theorem nmX3 : ∀ a, a < 8 → ∀ b, b < 8 → a ≠ b → (TX3 a).2.1 ≠ (TX3 b).2.1 := by decide +kernel
theorem tyX3_ok : ∀ k, k < 8 → parseFieldDescriptor (TX3 k).2.2.1 = some (tyX3 k) := by decide +kernel
abbrev cX3_init : ByteArray := prog_5_method_1_code
def yX3_init : MethodName := ⟨RX3, "<init>", "()V"⟩
abbrev cX3_look : ByteArray := prog_5_method_2_code
def yX3_look : MethodName := ⟨RX3, "look", "(LSeeSawForFive$Board;I)V"⟩
abbrev cX3_goThrough : ByteArray := prog_5_method_3_code
def yX3_goThrough : MethodName := ⟨RX3, "goThrough", "(IIII)V"⟩
abbrev cX3_hear : ByteArray := prog_5_method_4_code
def yX3_hear : MethodName := ⟨RX3, "hear", "(I)V"⟩
def RX4 : String := "SeeSawForFive$Placings"
def TX4 : u_T := fun k => match k with
  | 0 => ("SeeSawForFive$Placings", "looked", "Z", false)
  | 1 => ("SeeSawForFive$Placings", "levelOnes", "I", false)
  | 2 => ("SeeSawForFive$Placings", "least", "I", false)
  | 3 => ("SeeSawForFive$Placings", "best", "[I", true)
  | 4 => ("SeeSawForFive$Placings", "children", "I", false)
  | 5 => ("SeeSawForFive$Placings", "seats", "I", false)
  | 6 => ("SeeSawForFive$Placings", "at", "[I", true)
  | 7 => ("SeeSawForFive$Placings", "feet", "[I", true)
  | _ => ("SeeSawForFive$Placings", "turns", "[[I", true)
def tyX4 : Nat → FieldType := fun k => match k with
  | 0 => .boolean
  | 1 => .int
  | 2 => .int
  | 3 => .array .int
  | 4 => .int
  | 5 => .int
  | 6 => .array .int
  | 7 => .array .int
  | _ => .array (.array .int)
abbrev wsX40 : List Cond := u_ws RX4 TX4 9
theorem nmX4 : ∀ a, a < 9 → ∀ b, b < 9 → a ≠ b → (TX4 a).2.1 ≠ (TX4 b).2.1 := by decide +kernel
theorem tyX4_ok : ∀ k, k < 9 → parseFieldDescriptor (TX4 k).2.2.1 = some (tyX4 k) := by decide +kernel
abbrev cX4_init : ByteArray := prog_6_method_1_code
def yX4_init : MethodName := ⟨RX4, "<init>", "()V"⟩
abbrev cX4_forget : ByteArray := prog_6_method_2_code
def yX4_forget : MethodName := ⟨RX4, "forget", "()V"⟩
abbrev cX4_look : ByteArray := prog_6_method_3_code
def yX4_look : MethodName := ⟨RX4, "look", "(LSeeSawForFive$Board;)V"⟩
abbrev cX4_goThrough : ByteArray := prog_6_method_4_code
def yX4_goThrough : MethodName := ⟨RX4, "goThrough", "(III)V"⟩
abbrev cX4_weigh : ByteArray := prog_6_method_5_code
def yX4_weigh : MethodName := ⟨RX4, "weigh", "(I)V"⟩
def RX5 : String := "SeeSawForFive$Swing"
def TX5 : u_T := fun k => match k with
  | 0 => ("SeeSawForFive$Swing", "speed", "I", false)
  | 1 => ("SeeSawForFive$Swing", "tilt", "I", false)
  | _ => ("SeeSawForFive$Swing", "gain", "I", false)
def tyX5 : Nat → FieldType := fun k => match k with
  | 0 => .int
  | 1 => .int
  | _ => .int
abbrev wsX50 : List Cond := u_ws RX5 TX5 3
theorem nmX5 : ∀ a, a < 3 → ∀ b, b < 3 → a ≠ b → (TX5 a).2.1 ≠ (TX5 b).2.1 := by decide +kernel
theorem tyX5_ok : ∀ k, k < 3 → parseFieldDescriptor (TX5 k).2.2.1 = some (tyX5 k) := by decide +kernel
abbrev cX5_init : ByteArray := prog_7_method_1_code
def yX5_init : MethodName := ⟨RX5, "<init>", "()V"⟩
abbrev cX5_start : ByteArray := prog_7_method_2_code
def yX5_start : MethodName := ⟨RX5, "start", "(LSeeSawForFive$Board;)V"⟩
abbrev cX5_turn : ByteArray := prog_7_method_3_code
def yX5_turn : MethodName := ⟨RX5, "turn", "()V"⟩
abbrev cX5_isDown : ByteArray := prog_7_method_4_code
def yX5_isDown : MethodName := ⟨RX5, "isDown", "()Z"⟩
abbrev cX5_pushOff : ByteArray := prog_7_method_5_code
def yX5_pushOff : MethodName := ⟨RX5, "pushOff", "(LSeeSawForFive$Board;)V"⟩
def RX6 : String := "SeeSawForFive$Text"
def TX6 : u_T := fun k => match k with
  | 0 => ("SeeSawForFive$Text", "letters", "[I", true)
  | 1 => ("SeeSawForFive$Text", "many", "I", false)
  | 2 => ("SeeSawForFive$Text", "place", "I", false)
  | 3 => ("SeeSawForFive$Text", "verb", "I", false)
  | _ => ("SeeSawForFive$Text", "told", "[I", true)
def tyX6 : Nat → FieldType := fun k => match k with
  | 0 => .array .int
  | 1 => .int
  | 2 => .int
  | 3 => .int
  | _ => .array .int
abbrev wsX60 : List Cond := u_ws RX6 TX6 5
theorem nmX6 : ∀ a, a < 5 → ∀ b, b < 5 → a ≠ b → (TX6 a).2.1 ≠ (TX6 b).2.1 := by decide +kernel
theorem tyX6_ok : ∀ k, k < 5 → parseFieldDescriptor (TX6 k).2.2.1 = some (tyX6 k) := by decide +kernel
abbrev cX6_init : ByteArray := prog_8_method_1_code
def yX6_init : MethodName := ⟨RX6, "<init>", "()V"⟩
abbrev cX6_isFull : ByteArray := prog_8_method_2_code
def yX6_isFull : MethodName := ⟨RX6, "isFull", "()Z"⟩
abbrev cX6_add : ByteArray := prog_8_method_3_code
def yX6_add : MethodName := ⟨RX6, "add", "(I)V"⟩
abbrev cX6_empty : ByteArray := prog_8_method_4_code
def yX6_empty : MethodName := ⟨RX6, "empty", "()V"⟩
abbrev cX6_faultPlace : ByteArray := prog_8_method_5_code
def yX6_faultPlace : MethodName := ⟨RX6, "faultPlace", "()I"⟩
abbrev cX6_readStatement : ByteArray := prog_8_method_6_code
def yX6_readStatement : MethodName := ⟨RX6, "readStatement", "()Z"⟩
abbrev cX6_formOf : ByteArray := prog_8_method_7_code
def yX6_formOf : MethodName := ⟨RX6, "formOf", "(I)Ljava/lang/String;"⟩
abbrev cX6_here : ByteArray := prog_8_method_8_code
def yX6_here : MethodName := ⟨RX6, "here", "()I"⟩
abbrev cX6_readNumber : ByteArray := prog_8_method_9_code
def yX6_readNumber : MethodName := ⟨RX6, "readNumber", "()I"⟩
abbrev cX6_readSign : ByteArray := prog_8_method_10_code
def yX6_readSign : MethodName := ⟨RX6, "readSign", "(C)I"⟩
abbrev cX6_valueOf : ByteArray := prog_8_method_11_code
def yX6_valueOf : MethodName := ⟨RX6, "valueOf", "(CI)I"⟩
abbrev cX6_digitOf : ByteArray := prog_8_method_12_code
def yX6_digitOf : MethodName := ⟨RX6, "digitOf", "(I)I"⟩
abbrev cX6_kindOf : ByteArray := prog_8_method_13_code
def yX6_kindOf : MethodName := ⟨RX6, "kindOf", "(I)I"⟩
abbrev cX6_sideOfLetter : ByteArray := prog_8_method_14_code
def yX6_sideOfLetter : MethodName := ⟨RX6, "sideOfLetter", "(I)I"⟩
def RX7 : String := "SeeSawForFive"
def TX7 : u_T := fun k => match k with
  | 0 => ("SeeSawForFive", "text", "LSeeSawForFive$Text;", true)
  | 1 => ("SeeSawForFive", "now", "LSeeSawForFive$Board;", true)
  | 2 => ("SeeSawForFive", "trial", "LSeeSawForFive$Board;", true)
  | 3 => ("SeeSawForFive", "keptBoard", "LSeeSawForFive$Board;", true)
  | 4 => ("SeeSawForFive", "goes", "LSeeSawForFive$Goes;", true)
  | 5 => ("SeeSawForFive", "keptGoes", "LSeeSawForFive$Goes;", true)
  | 6 => ("SeeSawForFive", "guesses", "LSeeSawForFive$Guesses;", true)
  | 7 => ("SeeSawForFive", "keptGuesses", "LSeeSawForFive$Guesses;", true)
  | 8 => ("SeeSawForFive", "placings", "LSeeSawForFive$Placings;", true)
  | 9 => ("SeeSawForFive", "orders", "LSeeSawForFive$Orders;", true)
  | 10 => ("SeeSawForFive", "swing", "LSeeSawForFive$Swing;", true)
  | 11 => ("SeeSawForFive", "row", "[I", true)
  | 12 => ("SeeSawForFive", "refusals", "[I", true)
  | 13 => ("SeeSawForFive", "rowMany", "I", false)
  | _ => ("SeeSawForFive", "kept", "Z", false)
def tyX7 : Nat → FieldType := fun k => match k with
  | 0 => .object "SeeSawForFive$Text"
  | 1 => .object "SeeSawForFive$Board"
  | 2 => .object "SeeSawForFive$Board"
  | 3 => .object "SeeSawForFive$Board"
  | 4 => .object "SeeSawForFive$Goes"
  | 5 => .object "SeeSawForFive$Goes"
  | 6 => .object "SeeSawForFive$Guesses"
  | 7 => .object "SeeSawForFive$Guesses"
  | 8 => .object "SeeSawForFive$Placings"
  | 9 => .object "SeeSawForFive$Orders"
  | 10 => .object "SeeSawForFive$Swing"
  | 11 => .array .int
  | 12 => .array .int
  | 13 => .int
  | _ => .boolean
abbrev wsX70 : List Cond := u_ws RX7 TX7 15
theorem nmX7 : ∀ a, a < 15 → ∀ b, b < 15 → a ≠ b → (TX7 a).2.1 ≠ (TX7 b).2.1 := by decide +kernel
theorem tyX7_ok : ∀ k, k < 15 → parseFieldDescriptor (TX7 k).2.2.1 = some (tyX7 k) := by decide +kernel
abbrev cX7_init : ByteArray := prog_1_method_1_code
def yX7_init : MethodName := ⟨RX7, "<init>", "()V"⟩
abbrev cX7_letter : ByteArray := prog_1_method_2_code
def yX7_letter : MethodName := ⟨RX7, "letter", "(I)I"⟩
abbrev cX7_board : ByteArray := prog_1_method_3_code
def yX7_board : MethodName := ⟨RX7, "board", "()I"⟩
abbrev cX7_child : ByteArray := prog_1_method_4_code
def yX7_child : MethodName := ⟨RX7, "child", "(II)I"⟩
abbrev cX7_seat : ByteArray := prog_1_method_5_code
def yX7_seat : MethodName := ⟨RX7, "seat", "(I)I"⟩
abbrev cX7_sit : ByteArray := prog_1_method_6_code
def yX7_sit : MethodName := ⟨RX7, "sit", "(II)I"⟩
abbrev cX7_notch : ByteArray := prog_1_method_7_code
def yX7_notch : MethodName := ⟨RX7, "notch", "(I)I"⟩
abbrev cX7_sum : ByteArray := prog_1_method_8_code
def yX7_sum : MethodName := ⟨RX7, "sum", "()I"⟩
abbrev cX7_down : ByteArray := prog_1_method_9_code
def yX7_down : MethodName := ⟨RX7, "down", "()I"⟩
abbrev cX7_level : ByteArray := prog_1_method_10_code
def yX7_level : MethodName := ⟨RX7, "level", "()I"⟩
abbrev cX7_first : ByteArray := prog_1_method_11_code
def yX7_first : MethodName := ⟨RX7, "first", "(II)I"⟩
abbrev cX7_off : ByteArray := prog_1_method_12_code
def yX7_off : MethodName := ⟨RX7, "off", "()I"⟩
abbrev cX7_bucket : ByteArray := prog_1_method_13_code
def yX7_bucket : MethodName := ⟨RX7, "bucket", "(I)I"⟩
abbrev cX7_notchBest : ByteArray := prog_1_method_14_code
def yX7_notchBest : MethodName := ⟨RX7, "notchBest", "()I"⟩
abbrev cX7_orders : ByteArray := prog_1_method_15_code
def yX7_orders : MethodName := ⟨RX7, "orders", "(I)I"⟩
abbrev cX7_order : ByteArray := prog_1_method_16_code
def yX7_order : MethodName := ⟨RX7, "order", "(II)I"⟩
abbrev cX7_leastBang : ByteArray := prog_1_method_17_code
def yX7_leastBang : MethodName := ⟨RX7, "leastBang", "()I"⟩
abbrev cX7_go : ByteArray := prog_1_method_18_code
def yX7_go : MethodName := ⟨RX7, "go", "(IIII)I"⟩
abbrev cX7_fitting : ByteArray := prog_1_method_19_code
def yX7_fitting : MethodName := ⟨RX7, "fitting", "(I)I"⟩
abbrev cX7_next : ByteArray := prog_1_method_20_code
def yX7_next : MethodName := ⟨RX7, "next", "(II)I"⟩
abbrev cX7_inertia : ByteArray := prog_1_method_21_code
def yX7_inertia : MethodName := ⟨RX7, "inertia", "()I"⟩
abbrev cX7_comesDown : ByteArray := prog_1_method_22_code
def yX7_comesDown : MethodName := ⟨RX7, "comesDown", "(I)I"⟩
abbrev cX7_up : ByteArray := prog_1_method_23_code
def yX7_up : MethodName := ⟨RX7, "up", "(I)I"⟩
abbrev cX7_thrown : ByteArray := prog_1_method_24_code
def yX7_thrown : MethodName := ⟨RX7, "thrown", "(IIIII)I"⟩
abbrev cX7_highest : ByteArray := prog_1_method_25_code
def yX7_highest : MethodName := ⟨RX7, "highest", "(I)I"⟩
abbrev cX7_guess : ByteArray := prog_1_method_26_code
def yX7_guess : MethodName := ⟨RX7, "guess", "(III)I"⟩
abbrev cX7_parting : ByteArray := prog_1_method_27_code
def yX7_parting : MethodName := ⟨RX7, "parting", "(III)I"⟩
abbrev cX7_guessed : ByteArray := prog_1_method_28_code
def yX7_guessed : MethodName := ⟨RX7, "guessed", "(III)I"⟩
abbrev cX7_rules : ByteArray := prog_1_method_29_code
def yX7_rules : MethodName := ⟨RX7, "rules", "()I"⟩
abbrev cX7_seeds : ByteArray := prog_1_method_30_code
def yX7_seeds : MethodName := ⟨RX7, "seeds", "(III)I"⟩
abbrev cX7_row : ByteArray := prog_1_method_31_code
def yX7_row : MethodName := ⟨RX7, "row", "(I)I"⟩
abbrev cX7_judge : ByteArray := prog_1_method_32_code
def yX7_judge : MethodName := ⟨RX7, "judge", "()I"⟩
abbrev cX7_image : ByteArray := prog_1_method_33_code
def yX7_image : MethodName := ⟨RX7, "image", "()I"⟩
abbrev cX7_on : ByteArray := prog_1_method_34_code
def yX7_on : MethodName := ⟨RX7, "on", "()I"⟩
abbrev cX7_count : ByteArray := prog_1_method_35_code
def yX7_count : MethodName := ⟨RX7, "count", "(I)I"⟩
abbrev cX7_refuse : ByteArray := prog_1_method_36_code
def yX7_refuse : MethodName := ⟨RX7, "refuse", "(I)I"⟩
abbrev cX7_refuseApart : ByteArray := prog_1_method_37_code
def yX7_refuseApart : MethodName := ⟨RX7, "refuseApart", "(I)I"⟩
abbrev cX7_readBoard : ByteArray := prog_1_method_38_code
def yX7_readBoard : MethodName := ⟨RX7, "readBoard", "()I"⟩
abbrev cX7_lookAtRow : ByteArray := prog_1_method_39_code
def yX7_lookAtRow : MethodName := ⟨RX7, "lookAtRow", "()I"⟩
abbrev cX7_sideOf : ByteArray := prog_1_method_40_code
def yX7_sideOf : MethodName := ⟨RX7, "sideOf", "(I)I"⟩
abbrev cX7_isSide : ByteArray := prog_1_method_41_code
def yX7_isSide : MethodName := ⟨RX7, "isSide", "(I)Z"⟩
abbrev cX7_areOpposite : ByteArray := prog_1_method_42_code
def yX7_areOpposite : MethodName := ⟨RX7, "areOpposite", "(II)Z"⟩
abbrev cX7_inLeastTerms : ByteArray := prog_1_method_43_code
def yX7_inLeastTerms : MethodName := ⟨RX7, "inLeastTerms", "(II)I"⟩
abbrev cX7_isRule : ByteArray := prog_1_method_44_code
def yX7_isRule : MethodName := ⟨RX7, "isRule", "(I)Z"⟩
abbrev cX7_isWeightAndFeet : ByteArray := prog_1_method_45_code
def yX7_isWeightAndFeet : MethodName := ⟨RX7, "isWeightAndFeet", "(I)Z"⟩
abbrev cX7_areParted : ByteArray := prog_1_method_46_code
def yX7_areParted : MethodName := ⟨RX7, "areParted", "(IIII)Z"⟩
abbrev cX7_isOfParting : ByteArray := prog_1_method_47_code
def yX7_isOfParting : MethodName := ⟨RX7, "isOfParting", "(I)Z"⟩
abbrev cX7_guessBy : ByteArray := prog_1_method_48_code
def yX7_guessBy : MethodName := ⟨RX7, "guessBy", "(III)I"⟩
def RX8 : String := "SeeSawForFiveModel"
def TX8 : u_T := fun k => match k with
  | 0 => ("SeeSawForFiveModel", "refusals", "[I", true)
  | 1 => ("SeeSawForFiveModel", "s", "[I", true)
  | 2 => ("SeeSawForFiveModel", "image", "[I", true)
  | 3 => ("SeeSawForFiveModel", "read", "[I", true)
  | 4 => ("SeeSawForFiveModel", "isImage", "Z", false)
  | 5 => ("SeeSawForFiveModel", "tape", "[I", true)
  | 6 => ("SeeSawForFiveModel", "told", "[I", true)
  | 7 => ("SeeSawForFiveModel", "taped", "I", false)
  | 8 => ("SeeSawForFiveModel", "at", "I", false)
  | 9 => ("SeeSawForFiveModel", "tried", "[I", true)
  | 10 => ("SeeSawForFiveModel", "firstLevel", "[I", true)
  | 11 => ("SeeSawForFiveModel", "firstLeast", "[I", true)
  | 12 => ("SeeSawForFiveModel", "levels", "I", false)
  | 13 => ("SeeSawForFiveModel", "leastOff", "I", false)
  | 14 => ("SeeSawForFiveModel", "firstOrder", "[I", true)
  | 15 => ("SeeSawForFiveModel", "orders", "I", false)
  | 16 => ("SeeSawForFiveModel", "leastBang", "I", false)
  | 17 => ("SeeSawForFiveModel", "part", "[I", true)
  | 18 => ("SeeSawForFiveModel", "speed", "I", false)
  | 19 => ("SeeSawForFiveModel", "tilt", "I", false)
  | 20 => ("SeeSawForFiveModel", "keptRow", "[I", true)
  | 21 => ("SeeSawForFiveModel", "row", "[I", true)
  | _ => ("SeeSawForFiveModel", "rowed", "I", false)
def tyX8 : Nat → FieldType := fun k => match k with
  | 0 => .array .int
  | 1 => .array .int
  | 2 => .array .int
  | 3 => .array .int
  | 4 => .boolean
  | 5 => .array .int
  | 6 => .array .int
  | 7 => .int
  | 8 => .int
  | 9 => .array .int
  | 10 => .array .int
  | 11 => .array .int
  | 12 => .int
  | 13 => .int
  | 14 => .array .int
  | 15 => .int
  | 16 => .int
  | 17 => .array .int
  | 18 => .int
  | 19 => .int
  | 20 => .array .int
  | 21 => .array .int
  | _ => .int
abbrev wsX80 : List Cond := u_ws RX8 TX8 23
theorem nmX8 : ∀ a, a < 23 → ∀ b, b < 23 → a ≠ b → (TX8 a).2.1 ≠ (TX8 b).2.1 := by decide +kernel
theorem tyX8_ok : ∀ k, k < 23 → parseFieldDescriptor (TX8 k).2.2.1 = some (tyX8 k) := by decide +kernel
abbrev cX8_init : ByteArray := prog_10_method_1_code
def yX8_init : MethodName := ⟨RX8, "<init>", "()V"⟩
abbrev cX8_refuse : ByteArray := prog_10_method_2_code
def yX8_refuse : MethodName := ⟨RX8, "refuse", "(I)I"⟩
abbrev cX8_isIn : ByteArray := prog_10_method_3_code
def yX8_isIn : MethodName := ⟨RX8, "isIn", "(II)Z"⟩
abbrev cX8_within : ByteArray := prog_10_method_4_code
def yX8_within : MethodName := ⟨RX8, "within", "(III)I"⟩
abbrev cX8_amount : ByteArray := prog_10_method_5_code
def yX8_amount : MethodName := ⟨RX8, "amount", "(I)I"⟩
abbrev cX8_copies : ByteArray := prog_10_method_6_code
def yX8_copies : MethodName := ⟨RX8, "copies", "([I[I)V"⟩
abbrev cX8_common : ByteArray := prog_10_method_7_code
def yX8_common : MethodName := ⟨RX8, "common", "(II)I"⟩
abbrev cX8_isKid : ByteArray := prog_10_method_8_code
def yX8_isKid : MethodName := ⟨RX8, "isKid", "(I)Z"⟩
abbrev cX8_kid : ByteArray := prog_10_method_9_code
def yX8_kid : MethodName := ⟨RX8, "kid", "(II)I"⟩
abbrev cX8_seatOf : ByteArray := prog_10_method_10_code
def yX8_seatOf : MethodName := ⟨RX8, "seatOf", "(I)I"⟩
abbrev cX8_isSeat : ByteArray := prog_10_method_11_code
def yX8_isSeat : MethodName := ⟨RX8, "isSeat", "(I)Z"⟩
abbrev cX8_letter : ByteArray := prog_10_method_12_code
def yX8_letter : MethodName := ⟨RX8, "letter", "(I)I"⟩
abbrev cX8_sign : ByteArray := prog_10_method_13_code
def yX8_sign : MethodName := ⟨RX8, "sign", "()I"⟩
abbrev cX8_takes : ByteArray := prog_10_method_14_code
def yX8_takes : MethodName := ⟨RX8, "takes", "(I)Z"⟩
abbrev cX8_readsNumber : ByteArray := prog_10_method_15_code
def yX8_readsNumber : MethodName := ⟨RX8, "readsNumber", "(II)Z"⟩
abbrev cX8_kindOf : ByteArray := prog_10_method_16_code
def yX8_kindOf : MethodName := ⟨RX8, "kindOf", "(I)I"⟩
abbrev cX8_readsKind : ByteArray := prog_10_method_17_code
def yX8_readsKind : MethodName := ⟨RX8, "readsKind", "()Z"⟩
abbrev cX8_readsSide : ByteArray := prog_10_method_18_code
def yX8_readsSide : MethodName := ⟨RX8, "readsSide", "()Z"⟩
abbrev cX8_readsStatement : ByteArray := prog_10_method_19_code
def yX8_readsStatement : MethodName := ⟨RX8, "readsStatement", "()Z"⟩
abbrev cX8_readSeat : ByteArray := prog_10_method_20_code
def yX8_readSeat : MethodName := ⟨RX8, "readSeat", "(I)I"⟩
abbrev cX8_comes : ByteArray := prog_10_method_21_code
def yX8_comes : MethodName := ⟨RX8, "comes", "(I)Z"⟩
abbrev cX8_reads : ByteArray := prog_10_method_22_code
def yX8_reads : MethodName := ⟨RX8, "reads", "()I"⟩
abbrev cX8_board : ByteArray := prog_10_method_23_code
def yX8_board : MethodName := ⟨RX8, "board", "()I"⟩
abbrev cX8_child : ByteArray := prog_10_method_24_code
def yX8_child : MethodName := ⟨RX8, "child", "(II)I"⟩
abbrev cX8_seat : ByteArray := prog_10_method_25_code
def yX8_seat : MethodName := ⟨RX8, "seat", "(I)I"⟩
abbrev cX8_whoSits : ByteArray := prog_10_method_26_code
def yX8_whoSits : MethodName := ⟨RX8, "whoSits", "(I)I"⟩
abbrev cX8_sit : ByteArray := prog_10_method_27_code
def yX8_sit : MethodName := ⟨RX8, "sit", "(II)I"⟩
abbrev cX8_notch : ByteArray := prog_10_method_28_code
def yX8_notch : MethodName := ⟨RX8, "notch", "(I)I"⟩
abbrev cX8_armOf : ByteArray := prog_10_method_29_code
def yX8_armOf : MethodName := ⟨RX8, "armOf", "(I)I"⟩
abbrev cX8_turnBy : ByteArray := prog_10_method_30_code
def yX8_turnBy : MethodName := ⟨RX8, "turnBy", "(III)I"⟩
abbrev cX8_turnOf : ByteArray := prog_10_method_31_code
def yX8_turnOf : MethodName := ⟨RX8, "turnOf", "(II)I"⟩
abbrev cX8_bare : ByteArray := prog_10_method_32_code
def yX8_bare : MethodName := ⟨RX8, "bare", "(I)I"⟩
abbrev cX8_sumNow : ByteArray := prog_10_method_33_code
def yX8_sumNow : MethodName := ⟨RX8, "sumNow", "()I"⟩
abbrev cX8_sum : ByteArray := prog_10_method_34_code
def yX8_sum : MethodName := ⟨RX8, "sum", "()I"⟩
abbrev cX8_downBy : ByteArray := prog_10_method_35_code
def yX8_downBy : MethodName := ⟨RX8, "downBy", "(I)I"⟩
abbrev cX8_down : ByteArray := prog_10_method_36_code
def yX8_down : MethodName := ⟨RX8, "down", "()I"⟩
abbrev cX8_places : ByteArray := prog_10_method_37_code
def yX8_places : MethodName := ⟨RX8, "places", "(II)V"⟩
abbrev cX8_findsPlacings : ByteArray := prog_10_method_38_code
def yX8_findsPlacings : MethodName := ⟨RX8, "findsPlacings", "()V"⟩
abbrev cX8_level : ByteArray := prog_10_method_39_code
def yX8_level : MethodName := ⟨RX8, "level", "()I"⟩
abbrev cX8_first : ByteArray := prog_10_method_40_code
def yX8_first : MethodName := ⟨RX8, "first", "(II)I"⟩
abbrev cX8_off : ByteArray := prog_10_method_41_code
def yX8_off : MethodName := ⟨RX8, "off", "()I"⟩
abbrev cX8_bucket : ByteArray := prog_10_method_42_code
def yX8_bucket : MethodName := ⟨RX8, "bucket", "(I)I"⟩
abbrev cX8_notchBest : ByteArray := prog_10_method_43_code
def yX8_notchBest : MethodName := ⟨RX8, "notchBest", "()I"⟩
abbrev cX8_sitters : ByteArray := prog_10_method_44_code
def yX8_sitters : MethodName := ⟨RX8, "sitters", "()I"⟩
abbrev cX8_gets : ByteArray := prog_10_method_45_code
def yX8_gets : MethodName := ⟨RX8, "gets", "(IIIII)V"⟩
abbrev cX8_findsOrders : ByteArray := prog_10_method_46_code
def yX8_findsOrders : MethodName := ⟨RX8, "findsOrders", "(I)V"⟩
abbrev cX8_orders : ByteArray := prog_10_method_47_code
def yX8_orders : MethodName := ⟨RX8, "orders", "(I)I"⟩
abbrev cX8_order : ByteArray := prog_10_method_48_code
def yX8_order : MethodName := ⟨RX8, "order", "(II)I"⟩
abbrev cX8_leastBang : ByteArray := prog_10_method_49_code
def yX8_leastBang : MethodName := ⟨RX8, "leastBang", "()I"⟩
abbrev cX8_go : ByteArray := prog_10_method_50_code
def yX8_go : MethodName := ⟨RX8, "go", "(IIII)I"⟩
abbrev cX8_downWith : ByteArray := prog_10_method_51_code
def yX8_downWith : MethodName := ⟨RX8, "downWith", "(IIII)I"⟩
abbrev cX8_fits : ByteArray := prog_10_method_52_code
def yX8_fits : MethodName := ⟨RX8, "fits", "(I)Z"⟩
abbrev cX8_fitting : ByteArray := prog_10_method_53_code
def yX8_fitting : MethodName := ⟨RX8, "fitting", "(I)I"⟩
abbrev cX8_greatestPart : ByteArray := prog_10_method_54_code
def yX8_greatestPart : MethodName := ⟨RX8, "greatestPart", "(III)I"⟩
abbrev cX8_next : ByteArray := prog_10_method_55_code
def yX8_next : MethodName := ⟨RX8, "next", "(II)I"⟩
abbrev cX8_inertiaNow : ByteArray := prog_10_method_56_code
def yX8_inertiaNow : MethodName := ⟨RX8, "inertiaNow", "()I"⟩
abbrev cX8_inertia : ByteArray := prog_10_method_57_code
def yX8_inertia : MethodName := ⟨RX8, "inertia", "()I"⟩
abbrev cX8_goesTenth : ByteArray := prog_10_method_58_code
def yX8_goesTenth : MethodName := ⟨RX8, "goesTenth", "(I)V"⟩
abbrev cX8_more : ByteArray := prog_10_method_59_code
def yX8_more : MethodName := ⟨RX8, "more", "()I"⟩
abbrev cX8_comesDown : ByteArray := prog_10_method_60_code
def yX8_comesDown : MethodName := ⟨RX8, "comesDown", "(I)I"⟩
abbrev cX8_legsOn : ByteArray := prog_10_method_61_code
def yX8_legsOn : MethodName := ⟨RX8, "legsOn", "(I)I"⟩
abbrev cX8_up : ByteArray := prog_10_method_62_code
def yX8_up : MethodName := ⟨RX8, "up", "(I)I"⟩
abbrev cX8_thrown : ByteArray := prog_10_method_63_code
def yX8_thrown : MethodName := ⟨RX8, "thrown", "(IIIII)I"⟩
abbrev cX8_highest : ByteArray := prog_10_method_64_code
def yX8_highest : MethodName := ⟨RX8, "highest", "(I)I"⟩
abbrev cX8_areDigits : ByteArray := prog_10_method_65_code
def yX8_areDigits : MethodName := ⟨RX8, "areDigits", "(I)Z"⟩
abbrev cX8_compared : ByteArray := prog_10_method_66_code
def yX8_compared : MethodName := ⟨RX8, "compared", "(II)I"⟩
abbrev cX8_guessBy : ByteArray := prog_10_method_67_code
def yX8_guessBy : MethodName := ⟨RX8, "guessBy", "(III)I"⟩
abbrev cX8_guess : ByteArray := prog_10_method_68_code
def yX8_guess : MethodName := ⟨RX8, "guess", "(III)I"⟩
abbrev cX8_parting : ByteArray := prog_10_method_69_code
def yX8_parting : MethodName := ⟨RX8, "parting", "(III)I"⟩
abbrev cX8_guessed : ByteArray := prog_10_method_70_code
def yX8_guessed : MethodName := ⟨RX8, "guessed", "(III)I"⟩
abbrev cX8_rules : ByteArray := prog_10_method_71_code
def yX8_rules : MethodName := ⟨RX8, "rules", "()I"⟩
abbrev cX8_seeds : ByteArray := prog_10_method_72_code
def yX8_seeds : MethodName := ⟨RX8, "seeds", "(III)I"⟩
abbrev cX8_row : ByteArray := prog_10_method_73_code
def yX8_row : MethodName := ⟨RX8, "row", "(I)I"⟩
abbrev cX8_judge : ByteArray := prog_10_method_74_code
def yX8_judge : MethodName := ⟨RX8, "judge", "()I"⟩
abbrev cX8_image : ByteArray := prog_10_method_75_code
def yX8_image : MethodName := ⟨RX8, "image", "()I"⟩
abbrev cX8_on : ByteArray := prog_10_method_76_code
def yX8_on : MethodName := ⟨RX8, "on", "()I"⟩
abbrev cX8_count : ByteArray := prog_10_method_77_code
def yX8_count : MethodName := ⟨RX8, "count", "(I)I"⟩
def RJ6 : String := "java/lang/Integer"
def TJ6 : u_T := fun k => match k with
  | _ => ("", "", "", false)
def tyJ6 : Nat → FieldType := fun k => match k with
  | _ => .int
abbrev wsJ60 : List Cond := u_ws RJ6 TJ6 0
theorem nmJ6 : ∀ a, a < 0 → ∀ b, b < 0 → a ≠ b → (TJ6 a).2.1 ≠ (TJ6 b).2.1 := by decide +kernel
theorem tyJ6_ok : ∀ k, k < 0 → parseFieldDescriptor (TJ6 k).2.2.1 = some (tyJ6 k) := by decide +kernel
abbrev cJ6_signum_0f7a4 : ByteArray := prog_11_method_56_code
def yJ6_signum_0f7a4 : MethodName := ⟨RJ6, "signum", "(I)I"⟩
def RJ9 : String := "java/lang/Math"
def TJ9 : u_T := fun k => match k with
  | _ => ("", "", "", false)
def tyJ9 : Nat → FieldType := fun k => match k with
  | _ => .int
abbrev wsJ90 : List Cond := u_ws RJ9 TJ9 0
theorem nmJ9 : ∀ a, a < 0 → ∀ b, b < 0 → a ≠ b → (TJ9 a).2.1 ≠ (TJ9 b).2.1 := by decide +kernel
theorem tyJ9_ok : ∀ k, k < 0 → parseFieldDescriptor (TJ9 k).2.2.1 = some (tyJ9 k) := by decide +kernel
abbrev cJ9_abs_0f7a4 : ByteArray := prog_12_method_59_code
def yJ9_abs_0f7a4 : MethodName := ⟨RJ9, "abs", "(I)I"⟩
abbrev cJ9_max_7cf53 : ByteArray := prog_12_method_65_code
def yJ9_max_7cf53 : MethodName := ⟨RJ9, "max", "(II)I"⟩
abbrev cJ9_min_7cf53 : ByteArray := prog_12_method_69_code
def yJ9_min_7cf53 : MethodName := ⟨RJ9, "min", "(II)I"⟩
def RJ0 : String := "java/lang/String"
def TJ0 : u_T := fun k => match k with
  | _ => ("", "", "", false)
def tyJ0 : Nat → FieldType := fun k => match k with
  | _ => .int
abbrev wsJ00 : List Cond := u_ws RJ0 TJ0 0
theorem nmJ0 : ∀ a, a < 0 → ∀ b, b < 0 → a ≠ b → (TJ0 a).2.1 ≠ (TJ0 b).2.1 := by decide +kernel
theorem tyJ0_ok : ∀ k, k < 0 → parseFieldDescriptor (TJ0 k).2.2.1 = some (tyJ0 k) := by decide +kernel
abbrev cJ0_length_8abf5 : ByteArray := prog_13_method_54_code
def yJ0_length_8abf5 : MethodName := ⟨RJ0, "length", "()I"⟩
abbrev cJ0_isEmpty_aae02 : ByteArray := prog_13_method_55_code
def yJ0_isEmpty_aae02 : MethodName := ⟨RJ0, "isEmpty", "()Z"⟩
abbrev cJ0_charAt_5068e : ByteArray := prog_13_method_56_code
def yJ0_charAt_5068e : MethodName := ⟨RJ0, "charAt", "(I)C"⟩
abbrev cJ0_coder_7d493 : ByteArray := prog_13_method_152_code
def yJ0_coder_7d493 : MethodName := ⟨RJ0, "coder", "()B"⟩
abbrev cJ0_isLatin1_aae02 : ByteArray := prog_13_method_154_code
def yJ0_isLatin1_aae02 : MethodName := ⟨RJ0, "isLatin1", "()Z"⟩
abbrev cJ0_checkIndex_df160 : ByteArray := prog_13_method_155_code
def yJ0_checkIndex_df160 : MethodName := ⟨RJ0, "checkIndex", "(II)V"⟩
def RJ1 : String := "java/lang/StringLatin1"
def TJ1 : u_T := fun k => match k with
  | _ => ("", "", "", false)
def tyJ1 : Nat → FieldType := fun k => match k with
  | _ => .int
abbrev wsJ10 : List Cond := u_ws RJ1 TJ1 0
theorem nmJ1 : ∀ a, a < 0 → ∀ b, b < 0 → a ≠ b → (TJ1 a).2.1 ≠ (TJ1 b).2.1 := by decide +kernel
theorem tyJ1_ok : ∀ k, k < 0 → parseFieldDescriptor (TJ1 k).2.2.1 = some (tyJ1 k) := by decide +kernel
abbrev cJ1_charAt_3b067 : ByteArray := prog_14_method_2_code
def yJ1_charAt_3b067 : MethodName := ⟨RJ1, "charAt", "([BI)C"⟩
def RJ2 : String := "java/lang/StringUTF16"
def TJ2 : u_T := fun k => match k with
  | _ => ("", "", "", false)
def tyJ2 : Nat → FieldType := fun k => match k with
  | _ => .int
abbrev wsJ20 : List Cond := u_ws RJ2 TJ2 0
theorem nmJ2 : ∀ a, a < 0 → ∀ b, b < 0 → a ≠ b → (TJ2 a).2.1 ≠ (TJ2 b).2.1 := by decide +kernel
theorem tyJ2_ok : ∀ k, k < 0 → parseFieldDescriptor (TJ2 k).2.2.1 = some (tyJ2 k) := by decide +kernel
abbrev cJ2_getChar_3b067 : ByteArray := prog_15_method_5_code
def yJ2_getChar_3b067 : MethodName := ⟨RJ2, "getChar", "([BI)C"⟩
abbrev cJ2_length_9d52b : ByteArray := prog_15_method_6_code
def yJ2_length_9d52b : MethodName := ⟨RJ2, "length", "([B)I"⟩
abbrev cJ2_charAt_3b067 : ByteArray := prog_15_method_83_code
def yJ2_charAt_3b067 : MethodName := ⟨RJ2, "charAt", "([BI)C"⟩
abbrev cJ2_checkIndex_2214a : ByteArray := prog_15_method_91_code
def yJ2_checkIndex_2214a : MethodName := ⟨RJ2, "checkIndex", "(I[B)V"⟩
def RJ10 : String := "java/lang/System"
def TJ10 : u_T := fun k => match k with
  | _ => ("", "", "", false)
def tyJ10 : Nat → FieldType := fun k => match k with
  | _ => .int
abbrev wsJ100 : List Cond := u_ws RJ10 TJ10 0
theorem nmJ10 : ∀ a, a < 0 → ∀ b, b < 0 → a ≠ b → (TJ10 a).2.1 ≠ (TJ10 b).2.1 := by decide +kernel
theorem tyJ10_ok : ∀ k, k < 0 → parseFieldDescriptor (TJ10 k).2.2.1 = some (tyJ10 k) := by decide +kernel
def RJ3 : String := "jdk/internal/util/Preconditions"
def TJ3 : u_T := fun k => match k with
  | _ => ("", "", "", false)
def tyJ3 : Nat → FieldType := fun k => match k with
  | _ => .int
abbrev wsJ30 : List Cond := u_ws RJ3 TJ3 0
theorem nmJ3 : ∀ a, a < 0 → ∀ b, b < 0 → a ≠ b → (TJ3 a).2.1 ≠ (TJ3 b).2.1 := by decide +kernel
theorem tyJ3_ok : ∀ k, k < 0 → parseFieldDescriptor (TJ3 k).2.2.1 = some (tyJ3 k) := by decide +kernel
abbrev cJ3_checkIndex_8e157 : ByteArray := prog_17_method_11_code
def yJ3_checkIndex_8e157 : MethodName := ⟨RJ3, "checkIndex", "(IILjava/util/function/BiFunction;)I"⟩
def RL : String := "SeeSawForFiveLaw"
abbrev cL_law : ByteArray := code
def yL_law : MethodName := ⟨RL, "law", "([I)Z"⟩
abbrev vwCl : List vw_C := [(RX0, TX0, 8), (RX1, TX1, 10), (RX2, TX2, 4), (RX3, TX3, 8), (RX4, TX4, 9), (RX5, TX5, 3), (RX6, TX6, 5), (RX7, TX7, 15), (RX8, TX8, 23)]
/-! the five texts of Text.formOf, and what their methods read -/
def z_len : List Nat := [4, 2, 5, 4, 0]
def z_byt : List (List Int32) := [[68, 44, 78, 59], [68, 59], [75, 78, 44, 68, 59], [68, 83, 68, 59], []]
def z_ix : Nat → Nat := fun i => [60, 62, 64, 66, 68].getD i 0
def z_tx : Nat → String := fun i => ["D,N;", "D;", "KN,D;", "DSD;", ""].getD i ""
def z_nst : List (String × Nat × MethodName × String) := [(RX1, 73, yX7_sideOf, RX7), (RX2, 33, yX7_guessBy, RX7)]
end
section
/-! THE PURE MACHINE: places for addresses, one heap of cells, one judgement a body and one a call -/
def ALL : List Jvm.Cond := lw_tbl.filter goodWord
theorem mem_ALL {w : Jvm.Cond} {i : Nat} (h : lw_tbl[i]? = some w) (g : goodWord w = true) : w ∈ ALL := List.mem_filter.mpr ⟨List.mem_of_getElem? h, g⟩
theorem good_ALL {w : Jvm.Cond} (h : w ∈ ALL) : (w.onTables && w.keeps) = true ∨ ∃ ty, w = .arrayClass ty := good_of_word (List.mem_filter.mp h).2
theorem good_in {y : MethodName} {cc : ByteArray} {n : Nat} {r : Option FieldType} (h : Jvm.Cond.code y cc n r ∈ ALL) : GoodIn ALL (Jvm.Cond.code y cc n r :: ALL) := fun w hw => by
  rcases List.mem_cons.mp hw with rfl | hw
  · exact ⟨h, good_ALL h⟩
  · exact ⟨hw, good_ALL hw⟩
abbrev z_V : Type := Int32 ⊕ Option Nat
abbrev z_C : Type := (Nat × (Nat → Int32)) ⊕ ((Nat × (Nat → Int32)) ⊕ ((Nat × (Nat → Option Nat)) ⊕ (Nat × List z_V)))
def z_cv (ad : Nat → Nat) : z_V → Value
  | .inl x => .int x
  | .inr none => .null
  | .inr (some k) => .ref (ad k)
theorem z_cv_cat (ad : Nat → Nat) (v : z_V) : (z_cv ad v).category = 1 := by
  rcases v with x | (_ | k) <;> rfl
abbrev z_I : Type := ClassId × ClassId × ClassId
def z_ce (ci : z_I) (ad : Nat → Nat) : z_C → va_E
  | .inl a => .inl (ci.1, a.1, .inl a.2)
  | .inr (.inl a) => .inl (ci.2.1, a.1, .inl a.2)
  | .inr (.inr (.inl a)) => .inl (ci.2.2, a.1, .inr (.inr (.inr (.inr (fun j => (a.2 j).map ad)))))
  | .inr (.inr (.inr o)) => .inr (o.1, o.2.map (z_cv ad))
abbrev z_G : Type := va_G × z_I × (Nat → Nat)
def z_cw (g : z_G) (h : List z_C) : va_W := h.mapIdx (fun k e => (g.2.2 k, z_ce g.2.1 g.2.2 e))
def z_ty (g : z_G) : List (ClassId × FieldType) := [(g.2.1.1, .int), (g.2.1.2.1, .boolean), (g.2.1.2.2, .array .int)]
theorem z_cw_at {g : z_G} {h : List z_C} {k : Nat} {e : z_C} (hk : h[k]? = some e) : (z_cw g h)[k]? = some (g.2.2 k, z_ce g.2.1 g.2.2 e) := by
  unfold z_cw
  rw [List.getElem?_mapIdx, hk]
  rfl
theorem z_cw_get {g : z_G} {h : List z_C} {i : Nat} {p : Nat × va_E} (hp : (z_cw g h)[i]? = some p) : i < h.length ∧ p.1 = g.2.2 i := by
  unfold z_cw at hp
  rw [List.getElem?_mapIdx] at hp
  cases he : h[i]? with
  | none => rw [he] at hp; cases hp
  | some e => rw [he] at hp; cases hp; exact ⟨(List.getElem?_eq_some_iff.mp he).1, rfl⟩
theorem z_cw_set {g : z_G} {h : List z_C} {k : Nat} {e : z_C} : (z_cw g h).set k (g.2.2 k, z_ce g.2.1 g.2.2 e) = z_cw g (h.set k e) := by
  unfold z_cw
  refine List.ext_getElem? (fun j => ?_)
  rw [List.getElem?_mapIdx, List.getElem?_set, List.getElem?_set, List.getElem?_mapIdx, List.length_mapIdx]
  by_cases hj : k = j
  · subst hj
    by_cases hl : k < h.length <;> simp [hl]
  · simp [hj]
def z_A (g : z_G) (n : Nat) : Nat → Prop := fun q => ∃ k, k < n ∧ g.2.2 k = q
def z_inj (g : z_G) (n : Nat) : Prop := ∀ i j, i < n → j < n → g.2.2 i = g.2.2 j → i = j
theorem z_D {g : z_G} {h : List z_C} {A : Nat → Prop} {n : Nat} (hn : h.length = n) (hi : z_inj g n) (hA : ∀ q, z_A g n q → A q) : va_D A (z_cw g h) := by
  subst hn
  refine ⟨fun i j p q hp hq hpq => ?_, fun k q hq => ?_⟩
  · obtain ⟨h1, h2⟩ := z_cw_get hp
    obtain ⟨h3, h4⟩ := z_cw_get hq
    exact hi i j h1 h3 (by rw [← h2, ← h4]; exact hpq)
  · obtain ⟨h1, h2⟩ := z_cw_get hq
    exact hA _ ⟨k, h1, h2.symm⟩
def z_lit (g : z_G) (A : Nat → Prop) (U : State) (H : Heap) : Prop := ∃ adV : Nat → Nat, vk_S 5 z_len z_byt (fun i => g.2.2 (1000000 + i)) adV A U H ∧ (∀ i, i < 5 → vk_R RX6 (z_ix i) (z_tx i) (g.2.2 (1000000 + i)) U) ∧ va_Z "java/lang/String" "COMPACT_STRINGS" "Z" (.int 1) A U H ∧ va_Zq "jdk/internal/util/Preconditions" "SIOOBE_FORMATTER" "Ljava/util/function/BiFunction;" A U H ∧ ∀ q ∈ z_nst, va_Nw (.methodLinkNest q.1 q.2.1 q.2.2.1 q.2.2.2) U
theorem z_lit.kept {g : z_G} {A : Nat → Prop} {U : State} {H H1 : Heap} (h : z_lit g A U H) (hq : ∀ a : Nat, a < H.size → ¬ A a → H1[a]? = H[a]?) : z_lit g A U H1 := by
  obtain ⟨v, h1, h2, h3, h4, h5⟩ := h
  exact ⟨v, h1.kept hq, h2, h3.kept hq, h4.kept hq, h5⟩
theorem z_lit.narrow {g : z_G} {A B : Nat → Prop} {U : State} {H : Heap} (h : z_lit g A U H) (hq : ∀ q, B q → A q) : z_lit g B U H := by
  obtain ⟨v, h1, h2, h3, h4, h5⟩ := h
  exact ⟨v, h1.narrow hq, h2, h3.narrow hq, h4.narrow hq, h5⟩
theorem z_lit.warm {g : z_G} {A : Nat → Prop} {s U : State} {H : Heap} (h : z_lit g A s H) (hW : s.WarmedH U.vm) : z_lit g A U H := by
  obtain ⟨v, h1, h2, h3, h4, h5⟩ := h
  exact ⟨v, h1.moved hW.alike, fun i hi => (h2 i hi).warm hW, h3.moved hW.alike, h4.moved hW.alike, fun q hq => (h5 q hq).warmM hW⟩
theorem z_lit.same {g : z_G} {A : Nat → Prop} {s U : State} {H : Heap} (h : z_lit g A s H) (hv : U.vm = s.vm) : z_lit g A U H := by
  obtain ⟨v, h1, h2, h3, h4, h5⟩ := h
  have ha : s.vm.Alike U.vm := by rw [hv]; exact Vm.Alike.refl s.vm
  exact ⟨v, h1.moved ha, fun i hi => (h2 i hi).same hv, h3.moved ha, h4.moved ha, fun q hq => (h5 q hq).same rfl hv.symm⟩
def z_scr (g : z_G) (scr : Option (Nat × (Nat → Int32))) (A : Nat → Prop) (s : State) : Prop := ∀ q, scr = some q → va_X (g.2.2 999999) q.1 q.2 s s.heap ∧ g.2.2 999999 < s.heap.size ∧ ¬ A (g.2.2 999999)
def z_Cx (d nh : Nat) (own : String) (cc : ByteArray) (nL : Nat) (scr : Option (Nat × (Nat → Int32))) (p : Program) (R : Room) (s : State) (m : MethodId) (args : Array Value) (c : Code) (g : z_G) (A : Nat → Prop) (kc ks : Nat) : Prop :=
  CallFix p m c cc nL s args ALL own ∧ va_K g.1 vwCl (z_ty g) s ∧ z_inj g nh ∧ (∀ q, z_A g nh q → A q) ∧ z_lit g A s s.heap ∧ z_scr g scr A s ∧ (d ≤ R.frames ∧ 64 * d ≤ R.locals ∧ kc ≤ R.cells ∧ ks ≤ R.slots)
def z_ret (cc : ByteArray) (pc : Nat) : Option z_V → Prop
  | none => decode cc pc = .ok (.return_, 1)
  | some (.inl _) => decode cc pc = .ok (.ireturn, 1)
  | some (.inr _) => decode cc pc = .ok (.areturn, 1)
def z_cL (g : z_G) (L : List (Nat × z_V)) : List (Nat × Value) := L.map (fun q => (q.1, z_cv g.2.2 q.2))
/-- from pc, with these locals, stack and cells, the body comes to a return whose answer and cells have Z -/
def z_Run (d nh : Nat) (own : String) (cc : ByteArray) (nL : Nat) (scr : Option (Nat × (Nat → Int32))) (Z : Option z_V → List z_C → Prop) (pc : Nat) (L : List (Nat × z_V)) (st : List z_V) (h : List z_C) : Prop :=
  h.length = nh → ∀ (p : Program) (l : Launch) (e : Env) (R : Room) (s : State) (m : MethodId) (args : Array Value) (below : List Frame) (meth : Method) (c : Code) (g : z_G) (A : Nat → Prop) (kc ks : Nat) (H : Heap) (locs : List Loc) (ls : Array Slot) (Q : State → Prop),
    z_Cx d nh own cc nL scr p R s m args c g A kc ks → va_P g.1 vwCl (z_cw g h) H → va_S A s.heap H locs → lv_has ls nL (z_cL g L) →
    (∀ (v : Option z_V) (h' : List z_C) (H' : Heap) (locs' : List Loc) (pc' : Nat) (ls' : Array Slot), Z v h' → h'.length = nh → va_P g.1 vwCl (z_cw g h') H' → va_S A s.heap H' locs' → z_ret cc pc' v → W p l e R s m args below meth c H' locs' kc ks Q (F0 m pc' ls' (v.toList.map (z_cv g.2.2)))) →
    W p l e R s m args below meth c H locs kc ks Q (F0 m pc ls (st.map (z_cv g.2.2)))
def z_get : List (Nat × z_V) → Nat → Option z_V
  | [], _ => none
  | e :: t, i => bif Nat.beq e.1 i then some e.2 else z_get t i
def z_del (L : List (Nat × z_V)) (i : Nat) : List (Nat × z_V) := L.filter (fun q => !(Nat.beq q.1 i))
def z_set : List (Nat × z_V) → Nat → z_V → List (Nat × z_V)
  | [], i, v => [(i, v)]
  | e :: t, i, v => bif Nat.beq e.1 i then (i, v) :: z_del t i else e :: z_set t i v
def z_pick (L : List (Nat × z_V)) : List Nat → List (Nat × z_V)
  | [] => []
  | k :: ks => match z_get L k with
    | some v => (k, v) :: z_pick L ks
    | none => z_pick L ks
theorem z_get_mem {i : Nat} {v : z_V} : ∀ {L : List (Nat × z_V)}, z_get L i = some v → (i, v) ∈ L
  | [], h => by cases h
  | e :: t, h => by
    unfold z_get at h
    cases hb : Nat.beq e.1 i with
    | true =>
      rw [hb] at h
      have e1 : e.1 = i := Nat.eq_of_beq_eq_true hb
      have e2 : e.2 = v := Option.some.inj h
      rw [← e1, ← e2]
      exact List.mem_cons_self
    | false =>
      rw [hb] at h
      exact List.mem_cons_of_mem _ (z_get_mem h)
theorem z_pick_mem {L : List (Nat × z_V)} {q : Nat × z_V} : ∀ {ks : List Nat}, q ∈ z_pick L ks → q ∈ L
  | [], h => by cases h
  | k :: ks, h => by
    unfold z_pick at h
    cases hg : z_get L k with
    | none => rw [hg] at h; exact z_pick_mem h
    | some v =>
      rw [hg] at h
      rcases List.mem_cons.mp h with rfl | h
      · exact z_get_mem hg
      · exact z_pick_mem h
theorem z_set_mem {i : Nat} {v : z_V} {q : Nat × z_V} : ∀ {L : List (Nat × z_V)}, q ∈ z_set L i v → q = (i, v) ∨ (q ∈ L ∧ ¬ q.1 = i)
  | [], h => Or.inl (List.mem_singleton.mp h)
  | e :: t, h => by
    unfold z_set at h
    cases hb : Nat.beq e.1 i with
    | true =>
      rw [hb] at h
      rcases List.mem_cons.mp h with rfl | h
      · exact Or.inl rfl
      · obtain ⟨h1, h2⟩ := List.mem_filter.mp h
        refine Or.inr ⟨List.mem_cons_of_mem _ h1, fun he => ?_⟩
        have h3 : Nat.beq q.1 i = true := by rw [he]; exact Nat.beq_refl i
        rw [h3] at h2
        cases h2
    | false =>
      rw [hb] at h
      rcases List.mem_cons.mp h with rfl | h
      · refine Or.inr ⟨List.mem_cons_self, fun he => ?_⟩
        have h3 : Nat.beq q.1 i = true := by rw [he]; exact Nat.beq_refl i
        rw [h3] at hb
        cases hb
      · rcases z_set_mem h with h | ⟨h1, h2⟩
        · exact Or.inl h
        · exact Or.inr ⟨List.mem_cons_of_mem _ h1, h2⟩
theorem z_get_ls {g : z_G} {L : List (Nat × z_V)} {i nL : Nat} {v : z_V} {ls : Array Slot} (hl : lv_has ls nL (z_cL g L)) (h : z_get L i = some v) : ls[i]? = some (.val (z_cv g.2.2 v)) :=
  hl.2.2 (i, z_cv g.2.2 v) (List.mem_map.mpr ⟨(i, v), z_get_mem h, rfl⟩)
theorem z_has_sub {g : z_G} {L L' : List (Nat × z_V)} {nL : Nat} {ls : Array Slot} (hl : lv_has ls nL (z_cL g L)) (hs : ∀ q ∈ L', q ∈ L) : lv_has ls nL (z_cL g L') := by
  refine ⟨hl.1, hl.2.1, fun q hq => ?_⟩
  obtain ⟨a, ha, rfl⟩ := List.mem_map.mp hq
  exact hl.2.2 _ (List.mem_map.mpr ⟨a, hs a ha, rfl⟩)
theorem z_has_set {g : z_G} {L : List (Nat × z_V)} {i nL : Nat} {v : z_V} {ls : Array Slot} (hl : lv_has ls nL ((i, z_cv g.2.2 v) :: (z_cL g L).filter (fun q => !(q.1 == i) && !(q.1 + 1 == i && q.2.category == 2)))) : lv_has ls nL (z_cL g (z_set L i v)) := by
  refine ⟨hl.1, hl.2.1, fun q hq => ?_⟩
  obtain ⟨a, ha, rfl⟩ := List.mem_map.mp hq
  rcases z_set_mem ha with rfl | ⟨h1, h2⟩
  · exact hl.2.2 _ List.mem_cons_self
  · refine hl.2.2 _ (List.mem_cons_of_mem _ (List.mem_filter.mpr ⟨List.mem_map.mpr ⟨a, h1, rfl⟩, ?_⟩))
    simp [z_cv_cat, h2]
end
section
/-! RULES: one an instruction, for z_Run, over the kit's rows -/
section z_rules
variable {d nh : Nat} {own : String} {cc : ByteArray} {nL : Nat} {scr : Option (Nat × (Nat → Int32))} {Z : Option z_V → List z_C → Prop} {pc : Nat} {L : List (Nat × z_V)} {r : List z_V} {h : List z_C}
theorem z_iconst {n : Int} (hd : decode cc pc = .ok (.iconst n, 1)) (k : z_Run d nh own cc nL scr Z (pc + 1) L (.inl (Int32.ofInt n) :: r) h) : z_Run d nh own cc nL scr Z pc L (r) h := by
  intro hn p l e R s m args below meth c g A kc ks H locs ls Q C hP hS hl hR
  exact lv_iconst C.1.1 C.1.2.1 hd rfl (k hn p l e R s m args below meth c g A kc ks H locs ls Q C hP hS hl hR)
theorem z_bipush {n : Int} (hd : decode cc pc = .ok (.bipush n, 2)) (k : z_Run d nh own cc nL scr Z (pc + 2) L (.inl (Int8.ofInt n).toInt32 :: r) h) : z_Run d nh own cc nL scr Z pc L (r) h := by
  intro hn p l e R s m args below meth c g A kc ks H locs ls Q C hP hS hl hR
  exact lv_bipush C.1.1 C.1.2.1 hd rfl (k hn p l e R s m args below meth c g A kc ks H locs ls Q C hP hS hl hR)
theorem z_sipush {n : Int} (hd : decode cc pc = .ok (.sipush n, 3)) (k : z_Run d nh own cc nL scr Z (pc + 3) L (.inl (Int16.ofInt n).toInt32 :: r) h) : z_Run d nh own cc nL scr Z pc L (r) h := by
  intro hn p l e R s m args below meth c g A kc ks H locs ls Q C hP hS hl hR
  exact lv_sipush C.1.1 C.1.2.1 hd rfl (k hn p l e R s m args below meth c g A kc ks H locs ls Q C hP hS hl hR)
theorem z_iadd {x y : Int32} (hd : decode cc pc = .ok (.iadd, 1)) (k : z_Run d nh own cc nL scr Z (pc + 1) L (.inl (x + y) :: r) h) : z_Run d nh own cc nL scr Z pc L (.inl y :: .inl x :: r) h := by
  intro hn p l e R s m args below meth c g A kc ks H locs ls Q C hP hS hl hR
  exact lv_iadd C.1.1 C.1.2.1 hd (k hn p l e R s m args below meth c g A kc ks H locs ls Q C hP hS hl hR)
theorem z_isub {x y : Int32} (hd : decode cc pc = .ok (.isub, 1)) (k : z_Run d nh own cc nL scr Z (pc + 1) L (.inl (x - y) :: r) h) : z_Run d nh own cc nL scr Z pc L (.inl y :: .inl x :: r) h := by
  intro hn p l e R s m args below meth c g A kc ks H locs ls Q C hP hS hl hR
  exact lv_isub C.1.1 C.1.2.1 hd (k hn p l e R s m args below meth c g A kc ks H locs ls Q C hP hS hl hR)
theorem z_imul {x y : Int32} (hd : decode cc pc = .ok (.imul, 1)) (k : z_Run d nh own cc nL scr Z (pc + 1) L (.inl (x * y) :: r) h) : z_Run d nh own cc nL scr Z pc L (.inl y :: .inl x :: r) h := by
  intro hn p l e R s m args below meth c g A kc ks H locs ls Q C hP hS hl hR
  exact lv_imul C.1.1 C.1.2.1 hd (k hn p l e R s m args below meth c g A kc ks H locs ls Q C hP hS hl hR)
theorem z_ishl {x y : Int32} (hd : decode cc pc = .ok (.ishl, 1)) (k : z_Run d nh own cc nL scr Z (pc + 1) L (.inl (x <<< (y &&& 31)) :: r) h) : z_Run d nh own cc nL scr Z pc L (.inl y :: .inl x :: r) h := by
  intro hn p l e R s m args below meth c g A kc ks H locs ls Q C hP hS hl hR
  exact lv_ishl C.1.1 C.1.2.1 hd (k hn p l e R s m args below meth c g A kc ks H locs ls Q C hP hS hl hR)
theorem z_ishr {x y : Int32} (hd : decode cc pc = .ok (.ishr, 1)) (k : z_Run d nh own cc nL scr Z (pc + 1) L (.inl (x >>> (y &&& 31)) :: r) h) : z_Run d nh own cc nL scr Z pc L (.inl y :: .inl x :: r) h := by
  intro hn p l e R s m args below meth c g A kc ks H locs ls Q C hP hS hl hR
  exact lv_ishr C.1.1 C.1.2.1 hd (k hn p l e R s m args below meth c g A kc ks H locs ls Q C hP hS hl hR)
theorem z_iand {x y : Int32} (hd : decode cc pc = .ok (.iand, 1)) (k : z_Run d nh own cc nL scr Z (pc + 1) L (.inl (x &&& y) :: r) h) : z_Run d nh own cc nL scr Z pc L (.inl y :: .inl x :: r) h := by
  intro hn p l e R s m args below meth c g A kc ks H locs ls Q C hP hS hl hR
  exact lv_iand C.1.1 C.1.2.1 hd (k hn p l e R s m args below meth c g A kc ks H locs ls Q C hP hS hl hR)
theorem z_ior {x y : Int32} (hd : decode cc pc = .ok (.ior, 1)) (k : z_Run d nh own cc nL scr Z (pc + 1) L (.inl (x ||| y) :: r) h) : z_Run d nh own cc nL scr Z pc L (.inl y :: .inl x :: r) h := by
  intro hn p l e R s m args below meth c g A kc ks H locs ls Q C hP hS hl hR
  exact lv_ior C.1.1 C.1.2.1 hd (k hn p l e R s m args below meth c g A kc ks H locs ls Q C hP hS hl hR)
theorem z_iushr {x y : Int32} (hd : decode cc pc = .ok (.iushr, 1)) (k : z_Run d nh own cc nL scr Z (pc + 1) L (.inl (x.toUInt32 >>> (y.toUInt32 &&& Int32.toUInt32 31)).toInt32 :: r) h) : z_Run d nh own cc nL scr Z pc L (.inl y :: .inl x :: r) h := by
  intro hn p l e R s m args below meth c g A kc ks H locs ls Q C hP hS hl hR
  exact lv_iushr C.1.1 C.1.2.1 hd rfl (k hn p l e R s m args below meth c g A kc ks H locs ls Q C hP hS hl hR)
theorem z_ineg {x : Int32} (hd : decode cc pc = .ok (.ineg, 1)) (k : z_Run d nh own cc nL scr Z (pc + 1) L (.inl (-x) :: r) h) : z_Run d nh own cc nL scr Z pc L (.inl x :: r) h := by
  intro hn p l e R s m args below meth c g A kc ks H locs ls Q C hP hS hl hR
  exact lv_ineg C.1.1 C.1.2.1 hd (k hn p l e R s m args below meth c g A kc ks H locs ls Q C hP hS hl hR)
theorem z_idiv {x y : Int32} (hd : decode cc pc = .ok (.idiv, 1)) (hy : ¬ y = 0) (k : z_Run d nh own cc nL scr Z (pc + 1) L (.inl (x / y) :: r) h) : z_Run d nh own cc nL scr Z pc L (.inl y :: .inl x :: r) h := by
  intro hn p l e R s m args below meth c g A kc ks H locs ls Q C hP hS hl hR
  exact lv_idiv C.1.1 C.1.2.1 hd hy (k hn p l e R s m args below meth c g A kc ks H locs ls Q C hP hS hl hR)
theorem z_irem {x y : Int32} (hd : decode cc pc = .ok (.irem, 1)) (hy : ¬ y = 0) (k : z_Run d nh own cc nL scr Z (pc + 1) L (.inl (x - x / y * y) :: r) h) : z_Run d nh own cc nL scr Z pc L (.inl y :: .inl x :: r) h := by
  intro hn p l e R s m args below meth c g A kc ks H locs ls Q C hP hS hl hR
  exact lv_irem C.1.1 C.1.2.1 hd hy (k hn p l e R s m args below meth c g A kc ks H locs ls Q C hP hS hl hR)
theorem z_dup {a : z_V} (hd : decode cc pc = .ok (.dup, 1)) (k : z_Run d nh own cc nL scr Z (pc + 1) L (a :: a :: r) h) : z_Run d nh own cc nL scr Z pc L (a :: r) h := by
  intro hn p l e R s m args below meth c g A kc ks H locs ls Q C hP hS hl hR
  exact lv_dup C.1.1 C.1.2.1 hd (z_cv_cat _ _) (k hn p l e R s m args below meth c g A kc ks H locs ls Q C hP hS hl hR)
theorem z_dup2 {a b : z_V} (hd : decode cc pc = .ok (.dup2, 1)) (k : z_Run d nh own cc nL scr Z (pc + 1) L (a :: b :: a :: b :: r) h) : z_Run d nh own cc nL scr Z pc L (a :: b :: r) h := by
  intro hn p l e R s m args below meth c g A kc ks H locs ls Q C hP hS hl hR
  exact lv_dup2_11 C.1.1 C.1.2.1 hd (z_cv_cat _ _) (z_cv_cat _ _) (k hn p l e R s m args below meth c g A kc ks H locs ls Q C hP hS hl hR)
theorem z_pop {a : z_V} (hd : decode cc pc = .ok (.pop, 1)) (k : z_Run d nh own cc nL scr Z (pc + 1) L (r) h) : z_Run d nh own cc nL scr Z pc L (a :: r) h := by
  intro hn p l e R s m args below meth c g A kc ks H locs ls Q C hP hS hl hR
  exact lv_pop C.1.1 C.1.2.1 hd (z_cv_cat _ _) (k hn p l e R s m args below meth c g A kc ks H locs ls Q C hP hS hl hR)
theorem z_iload_n {i : Fin 4} {x : Int32} (hd : decode cc pc = .ok (.iload_n i, 1)) (hg : z_get L i = some (.inl x)) (k : z_Run d nh own cc nL scr Z (pc + 1) L (.inl x :: r) h) : z_Run d nh own cc nL scr Z pc L (r) h := by
  intro hn p l e R s m args below meth c g A kc ks H locs ls Q C hP hS hl hR
  exact lv_iload_n C.1.1 C.1.2.1 hd rfl (z_get_ls hl hg) (k hn p l e R s m args below meth c g A kc ks H locs ls Q C hP hS hl hR)
theorem z_iload {i : Nat} {x : Int32} (hd : decode cc pc = .ok (.iload i, 2)) (hg : z_get L i = some (.inl x)) (k : z_Run d nh own cc nL scr Z (pc + 2) L (.inl x :: r) h) : z_Run d nh own cc nL scr Z pc L (r) h := by
  intro hn p l e R s m args below meth c g A kc ks H locs ls Q C hP hS hl hR
  exact lv_iload C.1.1 C.1.2.1 hd (z_get_ls hl hg) (k hn p l e R s m args below meth c g A kc ks H locs ls Q C hP hS hl hR)
theorem z_aload_n {i : Fin 4} {x : Nat} (hd : decode cc pc = .ok (.aload_n i, 1)) (hg : z_get L i = some (.inr (some x))) (k : z_Run d nh own cc nL scr Z (pc + 1) L (.inr (some x) :: r) h) : z_Run d nh own cc nL scr Z pc L (r) h := by
  intro hn p l e R s m args below meth c g A kc ks H locs ls Q C hP hS hl hR
  exact lv_aload_n C.1.1 C.1.2.1 hd rfl (z_get_ls hl hg) (k hn p l e R s m args below meth c g A kc ks H locs ls Q C hP hS hl hR)
theorem z_aload {i : Nat} {x : Nat} (hd : decode cc pc = .ok (.aload i, 2)) (hg : z_get L i = some (.inr (some x))) (k : z_Run d nh own cc nL scr Z (pc + 2) L (.inr (some x) :: r) h) : z_Run d nh own cc nL scr Z pc L (r) h := by
  intro hn p l e R s m args below meth c g A kc ks H locs ls Q C hP hS hl hR
  exact lv_aload C.1.1 C.1.2.1 hd (z_get_ls hl hg) (k hn p l e R s m args below meth c g A kc ks H locs ls Q C hP hS hl hR)
theorem z_istore_n {i : Fin 4} {x : Int32} (hd : decode cc pc = .ok (.istore_n i, 1)) (hi : (i : Nat) < nL) (k : z_Run d nh own cc nL scr Z (pc + 1) (z_set L i (.inl x)) r h) : z_Run d nh own cc nL scr Z pc L (.inl x :: r) h := by
  intro hn p l e R s m args below meth c g A kc ks H locs ls Q C hP hS hl hR
  exact lv_istore_n C.1.1 C.1.2.1 hd rfl hl hi rfl (fun ls hl0 => by
    have hl := z_has_set (v := .inl x) hl0
    exact (k hn p l e R s m args below meth c g A kc ks H locs ls Q C hP hS hl hR))
theorem z_istore {i : Nat} {x : Int32} (hd : decode cc pc = .ok (.istore i, 2)) (hi : (i : Nat) < nL) (k : z_Run d nh own cc nL scr Z (pc + 2) (z_set L i (.inl x)) r h) : z_Run d nh own cc nL scr Z pc L (.inl x :: r) h := by
  intro hn p l e R s m args below meth c g A kc ks H locs ls Q C hP hS hl hR
  exact lv_istore C.1.1 C.1.2.1 hd hl hi rfl (fun ls hl0 => by
    have hl := z_has_set (v := .inl x) hl0
    exact (k hn p l e R s m args below meth c g A kc ks H locs ls Q C hP hS hl hR))
theorem z_astore_n {i : Fin 4} {x : Nat} (hd : decode cc pc = .ok (.astore_n i, 1)) (hi : (i : Nat) < nL) (k : z_Run d nh own cc nL scr Z (pc + 1) (z_set L i (.inr (some x))) r h) : z_Run d nh own cc nL scr Z pc L (.inr (some x) :: r) h := by
  intro hn p l e R s m args below meth c g A kc ks H locs ls Q C hP hS hl hR
  exact lv_astore_n C.1.1 C.1.2.1 hd rfl hl hi rfl (fun ls hl0 => by
    have hl := z_has_set (v := .inr (some x)) hl0
    exact (k hn p l e R s m args below meth c g A kc ks H locs ls Q C hP hS hl hR))
theorem z_astore {i : Nat} {x : Nat} (hd : decode cc pc = .ok (.astore i, 2)) (hi : (i : Nat) < nL) (k : z_Run d nh own cc nL scr Z (pc + 2) (z_set L i (.inr (some x))) r h) : z_Run d nh own cc nL scr Z pc L (.inr (some x) :: r) h := by
  intro hn p l e R s m args below meth c g A kc ks H locs ls Q C hP hS hl hR
  exact lv_astore C.1.1 C.1.2.1 hd hl hi rfl (fun ls hl0 => by
    have hl := z_has_set (v := .inr (some x)) hl0
    exact (k hn p l e R s m args below meth c g A kc ks H locs ls Q C hP hS hl hR))
theorem z_iinc {i : Nat} {n : Int} {x : Int32} (hd : decode cc pc = .ok (.iinc i n, 3)) (hi : i < nL) (hg : z_get L i = some (.inl x)) (k : z_Run d nh own cc nL scr Z (pc + 3) (z_set L i (.inl (x + Int32.ofInt n))) r h) : z_Run d nh own cc nL scr Z pc L r h := by
  intro hn p l e R s m args below meth c g A kc ks H locs ls Q C hP hS hl hR
  obtain ⟨q, hq⟩ := List.getElem?_of_mem (List.mem_map.mpr ⟨(i, .inl x), z_get_mem hg, rfl⟩ : (i, z_cv g.2.2 (.inl x)) ∈ z_cL g L)
  exact lv_iinc C.1.1 C.1.2.1 hd hl hq rfl hi rfl (fun ls hl0 => by
    have hl := z_has_set (v := .inl (x + Int32.ofInt n)) hl0
    exact (k hn p l e R s m args below meth c g A kc ks H locs ls Q C hP hS hl hR))
theorem z_icmp_eq {x y : Int32} {off : Int} {tgt : Nat} (hd : decode cc pc = .ok (.if_icmp .eq off, 3)) (ht : (pc : Int) + off = (tgt : Int)) (kt : x = y → z_Run d nh own cc nL scr Z tgt L r h) (kf : ¬ x = y → z_Run d nh own cc nL scr Z (pc + 3) L r h) : z_Run d nh own cc nL scr Z pc L (.inl y :: .inl x :: r) h := by
  intro hn p l e R s m args below meth c g A kc ks H locs ls Q C hP hS hl hR
  exact lv_icmp_eq C.1.1 C.1.2.1 hd ht (fun q => (kt q hn p l e R s m args below meth c g A kc ks H locs ls Q C hP hS hl hR)) (fun q => (kf q hn p l e R s m args below meth c g A kc ks H locs ls Q C hP hS hl hR))
theorem z_if_eq {x : Int32} {off : Int} {tgt : Nat} (hd : decode cc pc = .ok (.ifCond .eq off, 3)) (ht : (pc : Int) + off = (tgt : Int)) (kt : x = 0 → z_Run d nh own cc nL scr Z tgt L r h) (kf : ¬ x = 0 → z_Run d nh own cc nL scr Z (pc + 3) L r h) : z_Run d nh own cc nL scr Z pc L (.inl x :: r) h := by
  intro hn p l e R s m args below meth c g A kc ks H locs ls Q C hP hS hl hR
  exact lv_if_eq C.1.1 C.1.2.1 hd ht (fun q => (kt q hn p l e R s m args below meth c g A kc ks H locs ls Q C hP hS hl hR)) (fun q => (kf q hn p l e R s m args below meth c g A kc ks H locs ls Q C hP hS hl hR))
theorem z_icmp_ne {x y : Int32} {off : Int} {tgt : Nat} (hd : decode cc pc = .ok (.if_icmp .ne off, 3)) (ht : (pc : Int) + off = (tgt : Int)) (kt : ¬ x = y → z_Run d nh own cc nL scr Z tgt L r h) (kf : x = y → z_Run d nh own cc nL scr Z (pc + 3) L r h) : z_Run d nh own cc nL scr Z pc L (.inl y :: .inl x :: r) h := by
  intro hn p l e R s m args below meth c g A kc ks H locs ls Q C hP hS hl hR
  exact lv_icmp_ne C.1.1 C.1.2.1 hd ht (fun q => (kt q hn p l e R s m args below meth c g A kc ks H locs ls Q C hP hS hl hR)) (fun q => (kf q hn p l e R s m args below meth c g A kc ks H locs ls Q C hP hS hl hR))
theorem z_if_ne {x : Int32} {off : Int} {tgt : Nat} (hd : decode cc pc = .ok (.ifCond .ne off, 3)) (ht : (pc : Int) + off = (tgt : Int)) (kt : ¬ x = 0 → z_Run d nh own cc nL scr Z tgt L r h) (kf : x = 0 → z_Run d nh own cc nL scr Z (pc + 3) L r h) : z_Run d nh own cc nL scr Z pc L (.inl x :: r) h := by
  intro hn p l e R s m args below meth c g A kc ks H locs ls Q C hP hS hl hR
  exact lv_if_ne C.1.1 C.1.2.1 hd ht (fun q => (kt q hn p l e R s m args below meth c g A kc ks H locs ls Q C hP hS hl hR)) (fun q => (kf q hn p l e R s m args below meth c g A kc ks H locs ls Q C hP hS hl hR))
theorem z_icmp_lt {x y : Int32} {off : Int} {tgt : Nat} (hd : decode cc pc = .ok (.if_icmp .lt off, 3)) (ht : (pc : Int) + off = (tgt : Int)) (kt : x < y → z_Run d nh own cc nL scr Z tgt L r h) (kf : ¬ x < y → z_Run d nh own cc nL scr Z (pc + 3) L r h) : z_Run d nh own cc nL scr Z pc L (.inl y :: .inl x :: r) h := by
  intro hn p l e R s m args below meth c g A kc ks H locs ls Q C hP hS hl hR
  exact lv_icmp_lt C.1.1 C.1.2.1 hd ht (fun q => (kt q hn p l e R s m args below meth c g A kc ks H locs ls Q C hP hS hl hR)) (fun q => (kf q hn p l e R s m args below meth c g A kc ks H locs ls Q C hP hS hl hR))
theorem z_if_lt {x : Int32} {off : Int} {tgt : Nat} (hd : decode cc pc = .ok (.ifCond .lt off, 3)) (ht : (pc : Int) + off = (tgt : Int)) (kt : x < 0 → z_Run d nh own cc nL scr Z tgt L r h) (kf : ¬ x < 0 → z_Run d nh own cc nL scr Z (pc + 3) L r h) : z_Run d nh own cc nL scr Z pc L (.inl x :: r) h := by
  intro hn p l e R s m args below meth c g A kc ks H locs ls Q C hP hS hl hR
  exact lv_if_lt C.1.1 C.1.2.1 hd ht (fun q => (kt q hn p l e R s m args below meth c g A kc ks H locs ls Q C hP hS hl hR)) (fun q => (kf q hn p l e R s m args below meth c g A kc ks H locs ls Q C hP hS hl hR))
theorem z_icmp_ge {x y : Int32} {off : Int} {tgt : Nat} (hd : decode cc pc = .ok (.if_icmp .ge off, 3)) (ht : (pc : Int) + off = (tgt : Int)) (kt : y ≤ x → z_Run d nh own cc nL scr Z tgt L r h) (kf : ¬ y ≤ x → z_Run d nh own cc nL scr Z (pc + 3) L r h) : z_Run d nh own cc nL scr Z pc L (.inl y :: .inl x :: r) h := by
  intro hn p l e R s m args below meth c g A kc ks H locs ls Q C hP hS hl hR
  exact lv_icmp_ge C.1.1 C.1.2.1 hd ht (fun q => (kt q hn p l e R s m args below meth c g A kc ks H locs ls Q C hP hS hl hR)) (fun q => (kf q hn p l e R s m args below meth c g A kc ks H locs ls Q C hP hS hl hR))
theorem z_if_ge {x : Int32} {off : Int} {tgt : Nat} (hd : decode cc pc = .ok (.ifCond .ge off, 3)) (ht : (pc : Int) + off = (tgt : Int)) (kt : 0 ≤ x → z_Run d nh own cc nL scr Z tgt L r h) (kf : ¬ 0 ≤ x → z_Run d nh own cc nL scr Z (pc + 3) L r h) : z_Run d nh own cc nL scr Z pc L (.inl x :: r) h := by
  intro hn p l e R s m args below meth c g A kc ks H locs ls Q C hP hS hl hR
  exact lv_if_ge C.1.1 C.1.2.1 hd ht (fun q => (kt q hn p l e R s m args below meth c g A kc ks H locs ls Q C hP hS hl hR)) (fun q => (kf q hn p l e R s m args below meth c g A kc ks H locs ls Q C hP hS hl hR))
theorem z_icmp_gt {x y : Int32} {off : Int} {tgt : Nat} (hd : decode cc pc = .ok (.if_icmp .gt off, 3)) (ht : (pc : Int) + off = (tgt : Int)) (kt : y < x → z_Run d nh own cc nL scr Z tgt L r h) (kf : ¬ y < x → z_Run d nh own cc nL scr Z (pc + 3) L r h) : z_Run d nh own cc nL scr Z pc L (.inl y :: .inl x :: r) h := by
  intro hn p l e R s m args below meth c g A kc ks H locs ls Q C hP hS hl hR
  exact lv_icmp_gt C.1.1 C.1.2.1 hd ht (fun q => (kt q hn p l e R s m args below meth c g A kc ks H locs ls Q C hP hS hl hR)) (fun q => (kf q hn p l e R s m args below meth c g A kc ks H locs ls Q C hP hS hl hR))
theorem z_if_gt {x : Int32} {off : Int} {tgt : Nat} (hd : decode cc pc = .ok (.ifCond .gt off, 3)) (ht : (pc : Int) + off = (tgt : Int)) (kt : 0 < x → z_Run d nh own cc nL scr Z tgt L r h) (kf : ¬ 0 < x → z_Run d nh own cc nL scr Z (pc + 3) L r h) : z_Run d nh own cc nL scr Z pc L (.inl x :: r) h := by
  intro hn p l e R s m args below meth c g A kc ks H locs ls Q C hP hS hl hR
  exact lv_if_gt C.1.1 C.1.2.1 hd ht (fun q => (kt q hn p l e R s m args below meth c g A kc ks H locs ls Q C hP hS hl hR)) (fun q => (kf q hn p l e R s m args below meth c g A kc ks H locs ls Q C hP hS hl hR))
theorem z_icmp_le {x y : Int32} {off : Int} {tgt : Nat} (hd : decode cc pc = .ok (.if_icmp .le off, 3)) (ht : (pc : Int) + off = (tgt : Int)) (kt : x ≤ y → z_Run d nh own cc nL scr Z tgt L r h) (kf : ¬ x ≤ y → z_Run d nh own cc nL scr Z (pc + 3) L r h) : z_Run d nh own cc nL scr Z pc L (.inl y :: .inl x :: r) h := by
  intro hn p l e R s m args below meth c g A kc ks H locs ls Q C hP hS hl hR
  exact lv_icmp_le C.1.1 C.1.2.1 hd ht (fun q => (kt q hn p l e R s m args below meth c g A kc ks H locs ls Q C hP hS hl hR)) (fun q => (kf q hn p l e R s m args below meth c g A kc ks H locs ls Q C hP hS hl hR))
theorem z_if_le {x : Int32} {off : Int} {tgt : Nat} (hd : decode cc pc = .ok (.ifCond .le off, 3)) (ht : (pc : Int) + off = (tgt : Int)) (kt : x ≤ 0 → z_Run d nh own cc nL scr Z tgt L r h) (kf : ¬ x ≤ 0 → z_Run d nh own cc nL scr Z (pc + 3) L r h) : z_Run d nh own cc nL scr Z pc L (.inl x :: r) h := by
  intro hn p l e R s m args below meth c g A kc ks H locs ls Q C hP hS hl hR
  exact lv_if_le C.1.1 C.1.2.1 hd ht (fun q => (kt q hn p l e R s m args below meth c g A kc ks H locs ls Q C hP hS hl hR)) (fun q => (kf q hn p l e R s m args below meth c g A kc ks H locs ls Q C hP hS hl hR))
theorem z_goto {off : Int} {tgt : Nat} (hd : decode cc pc = .ok (.goto off, 3)) (ht : (pc : Int) + off = (tgt : Int)) (k : z_Run d nh own cc nL scr Z tgt L r h) : z_Run d nh own cc nL scr Z pc L r h := by
  intro hn p l e R s m args below meth c g A kc ks H locs ls Q C hP hS hl hR
  exact lv_goto C.1.1 C.1.2.1 hd ht (k hn p l e R s m args below meth c g A kc ks H locs ls Q C hP hS hl hR)
theorem z_lookup {x : Int32} {dflt off : Int} {ps : Array (Int × Int)} {len tgt : Nat} (hd : decode cc pc = .ok (.lookupswitch dflt ps, len)) (hp : (ps.toList.zip (ps.toList.drop 1)).all (fun (a, next) => a.1 < next.1) = true) (ho : Op.lookupswitch.offset ps.toList dflt x.toInt = off) (ht : (pc : Int) + off = (tgt : Int)) (k : z_Run d nh own cc nL scr Z tgt L r h) : z_Run d nh own cc nL scr Z pc L (.inl x :: r) h := by
  intro hn p l e R s m args below meth c g A kc ks H locs ls Q C hP hS hl hR
  exact lv_lookup C.1.1 C.1.2.1 hd hp ho ht (k hn p l e R s m args below meth c g A kc ks H locs ls Q C hP hS hl hR)
theorem z_tableIn {x : Int32} {dflt lo hi off : Int} {offs : Array Int} {len tgt : Nat} (hd : decode cc pc = .ok (.tableswitch dflt lo hi offs, len)) (h1 : ¬ x.toInt < lo) (h2 : ¬ hi < x.toInt) (ho : offs[(x.toInt - lo).toNat]? = some off) (ht : (pc : Int) + off = (tgt : Int)) (k : z_Run d nh own cc nL scr Z tgt L r h) : z_Run d nh own cc nL scr Z pc L (.inl x :: r) h := by
  intro hn p l e R s m args below meth c g A kc ks H locs ls Q C hP hS hl hR
  exact lv_tableIn C.1.1 C.1.2.1 hd h1 h2 ho ht (k hn p l e R s m args below meth c g A kc ks H locs ls Q C hP hS hl hR)
theorem z_tableOut {x : Int32} {dflt lo hi : Int} {offs : Array Int} {len tgt : Nat} (hd : decode cc pc = .ok (.tableswitch dflt lo hi offs, len)) (ho : x.toInt < lo ∨ hi < x.toInt) (ht : (pc : Int) + dflt = (tgt : Int)) (k : z_Run d nh own cc nL scr Z tgt L r h) : z_Run d nh own cc nL scr Z pc L (.inl x :: r) h := by
  intro hn p l e R s m args below meth c g A kc ks H locs ls Q C hP hS hl hR
  exact lv_tableOut C.1.1 C.1.2.1 hd ho ht (k hn p l e R s m args below meth c g A kc ks H locs ls Q C hP hS hl hR)
theorem z_ldc {idx : Nat} {v : Int32} (hd : decode cc pc = .ok (.ldc idx, 2)) (hw : Jvm.Cond.constant own idx v ∈ ALL) (k : z_Run d nh own cc nL scr Z (pc + 2) L (.inl v :: r) h) : z_Run d nh own cc nL scr Z pc L r h := by
  intro hn p l e R s m args below meth c g A kc ks H locs ls Q C hP hS hl hR
  exact lv_ldc C.1.1 C.1.2.1 C.1.2.2.2.1 (C.1.2.2.2.2 _ hw) hd (k hn p l e R s m args below meth c g A kc ks H locs ls Q C hP hS hl hR)
theorem z_ldcw {idx : Nat} {v : Int32} (hd : decode cc pc = .ok (.ldc_w idx, 3)) (hw : Jvm.Cond.constant own idx v ∈ ALL) (k : z_Run d nh own cc nL scr Z (pc + 3) L (.inl v :: r) h) : z_Run d nh own cc nL scr Z pc L r h := by
  intro hn p l e R s m args below meth c g A kc ks H locs ls Q C hP hS hl hR
  exact lv_ldcw C.1.1 C.1.2.1 C.1.2.2.2.1 (C.1.2.2.2.2 _ hw) hd (k hn p l e R s m args below meth c g A kc ks H locs ls Q C hP hS hl hR)
theorem z_ldcS {i : Nat} (hi : i < 5) (ho : own = RX6) (hd : decode cc pc = .ok (.ldc (z_ix i), 2)) (k : z_Run d nh own cc nL scr Z (pc + 2) L (.inr (some (1000000 + i)) :: r) h) : z_Run d nh own cc nL scr Z pc L r h := by
  intro hn p l e R s m args below meth c g A kc ks H locs ls Q C hP hS hl hR
  obtain ⟨v, -, h2, -⟩ := C.2.2.2.2.1
  exact va_ldcS C.1.1 C.1.2.1 C.1.2.2.2.1 (by rw [ho]; exact h2 i hi) hd (k hn p l e R s m args below meth c g A kc ks H locs ls Q C hP hS hl hR)
def z_K (ci : Nat) (C : String) (T : u_T) (N : Nat) : Prop := vwCl[ci]? = some (C, T, N) ∧ (∀ w ∈ u_ws C T N, w ∈ ALL) ∧ (∃ ty : Nat → FieldType, ∀ k, k < N → parseFieldDescriptor (T k).2.2.1 = some (ty k)) ∧ ∀ a, a < N → ∀ b, b < N → a ≠ b → (T a).2.1 ≠ (T b).2.1
theorem z_getf {idx ci k a N : Nat} {C0 : String} {T : u_T} {fs : List z_V} {v : z_V} (hd : decode cc pc = .ok (.getfield idx, 3)) (hc : z_K ci C0 T N) (hk : k < N) (hlink : Jvm.Cond.fieldLink own idx (T k).1 (T k).2.1 (T k).2.2.1 ∈ ALL) (ha : h[a]? = some (.inr (.inr (.inr (ci, fs))))) (hv : fs[k]? = some v) (k : z_Run d nh own cc nL scr Z (pc + 3) L (v :: r) h) : z_Run d nh own cc nL scr Z pc L (.inr (some a) :: r) h := by
  intro hn p l e R s m args below meth c g A kc ks H locs ls Q C hP hS hl hR
  exact va_get C.1.1 C.1.2.1 C.1.2.2.2.2 hc.2.1 C.1.2.2.2.1 C.2.1 hP a (z_cw_at ha) hc.1 _ hk (C.1.2.2.2.2 _ hlink) (fun _ h => h) (v := z_cv g.2.2 v) (by rw [List.getElem?_map, hv]; rfl) hd (k hn p l e R s m args below meth c g A kc ks H locs ls Q C hP hS hl hR)
theorem z_putf {idx ci kf a N : Nat} {C0 : String} {T : u_T} {fs : List z_V} {x : Int32} {ty : FieldType} (hd : decode cc pc = .ok (.putfield idx, 3)) (hc : z_K ci C0 T N) (hk : kf < N) (hlink : Jvm.Cond.fieldLink own idx (T kf).1 (T kf).2.1 (T kf).2.2.1 ∈ ALL) (hfin : (T kf).2.2.2 = false) (hpd : parseFieldDescriptor (T kf).2.2.1 = some ty) (hnr : narrow ty (.int x) = .int x) (hft : fits ty (.int x) = true) (hlen : kf < fs.length) (ha : h[a]? = some (.inr (.inr (.inr (ci, fs))))) (k : z_Run d nh own cc nL scr Z (pc + 3) L r (h.set a (.inr (.inr (.inr (ci, fs.set kf (.inl x))))))) : z_Run d nh own cc nL scr Z pc L (.inl x :: .inr (some a) :: r) h := by
  intro hn p l e R s m args below meth c g A kc ks H locs ls Q C hP hS hl hR
  obtain ⟨ty0, hty⟩ := hc.2.2.1
  refine va_put C.1.1 C.1.2.1 C.1.2.2.2.2 hc.2.1 ty0 hty hc.2.2.2 C.1.2.2.2.1 C.2.1 hP (z_D hn C.2.2.1 C.2.2.2.1) hS a (z_cw_at ha) hc.1 kf hk (C.1.2.2.2.2 _ hlink) (fun _ h => h) hfin hpd hnr hft (by rw [List.length_map]; exact hlen) hd (fun H1 locs1 hP1 _ hS1 => ?_)
  refine k (by rw [List.length_set]; exact hn) p l e R s m args below meth c g A kc ks H1 locs1 ls Q C ?_ hS1 hl hR
  rw [← z_cw_set]
  show va_P g.1 vwCl ((z_cw g h).set a (g.2.2 a, .inr (ci, (fs.set kf (.inl x)).map (z_cv g.2.2)))) H1
  rw [List.map_set]
  exact hP1
theorem z_iald {a n : Nat} {f : Nat → Int32} {i : Int32} (hd : decode cc pc = .ok (.iaload, 1)) (ha : h[a]? = some (.inl (n, f))) (hin : vp_in i n) (k : z_Run d nh own cc nL scr Z (pc + 1) L (.inl (f i.toNatClampNeg) :: r) h) : z_Run d nh own cc nL scr Z pc L (.inl i :: .inr (some a) :: r) h := by
  intro hn p l e R s m args below meth c g A kc ks H locs ls Q C hP hS hl hR
  exact va_iald C.1.1 C.1.2.1 C.2.1 hP a 0 (z_cw_at ha) rfl hin hd (k hn p l e R s m args below meth c g A kc ks H locs ls Q C hP hS hl hR)
theorem z_bald {a n : Nat} {f : Nat → Int32} {i : Int32} (hd : decode cc pc = .ok (.baload, 1)) (ha : h[a]? = some (.inr (.inl (n, f)))) (hin : vp_in i n) (k : z_Run d nh own cc nL scr Z (pc + 1) L (.inl (f i.toNatClampNeg) :: r) h) : z_Run d nh own cc nL scr Z pc L (.inl i :: .inr (some a) :: r) h := by
  intro hn p l e R s m args below meth c g A kc ks H locs ls Q C hP hS hl hR
  exact va_zald C.1.1 C.1.2.1 C.2.1 hP a 1 (z_cw_at ha) rfl hin hd (k hn p l e R s m args below meth c g A kc ks H locs ls Q C hP hS hl hR)
theorem z_aald {a n : Nat} {f : Nat → Option Nat} {i : Int32} (hd : decode cc pc = .ok (.aaload, 1)) (ha : h[a]? = some (.inr (.inr (.inl (n, f))))) (hin : vp_in i n) (k : z_Run d nh own cc nL scr Z (pc + 1) L (.inr (f i.toNatClampNeg) :: r) h) : z_Run d nh own cc nL scr Z pc L (.inl i :: .inr (some a) :: r) h := by
  intro hn p l e R s m args below meth c g A kc ks H locs ls Q C hP hS hl hR
  have hlt : i.toNatClampNeg < n := Nat.not_le.mp fun q => hin (Or.inr q)
  have hk := (k hn p l e R s m args below meth c g A kc ks H locs ls Q C hP hS hl hR)
  refine W.aald (v := va_rf ((f i.toNatClampNeg).map g.2.2)) (ty := .array .int) C.1.1 C.1.2.1 (hP a _ (z_cw_at ha)) ((C.2.1.2 2 _ rfl).1 n (fun j => va_rf ((f j).map g.2.2))) rfl (fun q => by cases q) (by show ¬ (i < 0 ∨ (arrV _ _ _).slots.size ≤ _); rw [arrV_size]; exact hin) (by show (arrV _ _ _).slots[_]? = _; rw [arrV_read _ _ hlt]) rfl rfl hd ?_
  have e1 : va_rf ((f i.toNatClampNeg).map g.2.2) = z_cv g.2.2 (.inr (f i.toNatClampNeg)) := by
    cases f i.toNatClampNeg <;> rfl
  rw [e1]
  exact hk
theorem z_iast {a n : Nat} {f : Nat → Int32} {i x : Int32} (hd : decode cc pc = .ok (.iastore, 1)) (ha : h[a]? = some (.inl (n, f))) (hin : vp_in i n) (k : z_Run d nh own cc nL scr Z (pc + 1) L r (h.set a (.inl (n, upd f i.toNatClampNeg x)))) : z_Run d nh own cc nL scr Z pc L (.inl x :: .inl i :: .inr (some a) :: r) h := by
  intro hn p l e R s m args below meth c g A kc ks H locs ls Q C hP hS hl hR
  refine va_iast C.1.1 C.1.2.1 C.2.1 hP (z_D hn C.2.2.1 C.2.2.2.1) hS a 0 (z_cw_at ha) rfl hin hd (fun H1 locs1 hP1 _ hS1 => ?_)
  refine k (by rw [List.length_set]; exact hn) p l e R s m args below meth c g A kc ks H1 locs1 ls Q C ?_ hS1 hl hR
  rw [← z_cw_set]
  exact hP1
theorem z_bast {a n : Nat} {f : Nat → Int32} {i x : Int32} (hd : decode cc pc = .ok (.bastore, 1)) (ha : h[a]? = some (.inr (.inl (n, f)))) (hin : vp_in i n) (k : z_Run d nh own cc nL scr Z (pc + 1) L r (h.set a (.inr (.inl (n, upd f i.toNatClampNeg (vp_nar .boolean x)))))) : z_Run d nh own cc nL scr Z pc L (.inl x :: .inl i :: .inr (some a) :: r) h := by
  intro hn p l e R s m args below meth c g A kc ks H locs ls Q C hP hS hl hR
  refine va_zast C.1.1 C.1.2.1 C.2.1 hP (z_D hn C.2.2.1 C.2.2.2.1) hS a 1 (z_cw_at ha) rfl hin hd (fun H1 locs1 hP1 _ hS1 => ?_)
  refine k (by rw [List.length_set]; exact hn) p l e R s m args below meth c g A kc ks H1 locs1 ls Q C ?_ hS1 hl hR
  rw [← z_cw_set]
  exact hP1
theorem z_alen {a n : Nat} {f : Nat → Int32} (hd : decode cc pc = .ok (.arraylength, 1)) (ha : h[a]? = some (.inl (n, f))) (k : z_Run d nh own cc nL scr Z (pc + 1) L (.inl (Int32.ofNat n) :: r) h) : z_Run d nh own cc nL scr Z pc L (.inr (some a) :: r) h := by
  intro hn p l e R s m args below meth c g A kc ks H locs ls Q C hP hS hl hR
  exact va_alen C.1.1 C.1.2.1 C.2.1 hP a 0 (z_cw_at ha) (ty := .int) rfl rfl hd (k hn p l e R s m args below meth c g A kc ks H locs ls Q C hP hS hl hR)
theorem z_sld {n : Nat} {f : Nat → Int32} {i : Int32} (hd : decode cc pc = .ok (.iaload, 1)) (hs : scr = some (n, f)) (hin : vp_in i n) (k : z_Run d nh own cc nL scr Z (pc + 1) L (.inl (f i.toNatClampNeg) :: r) h) : z_Run d nh own cc nL scr Z pc L (.inl i :: .inr (some 999999) :: r) h := by
  intro hn p l e R s m args below meth c g A kc ks H locs ls Q C hP hS hl hR
  obtain ⟨h1, h2, h3⟩ := C.2.2.2.2.2.1 _ hs
  exact va_sld C.1.1 C.1.2.1 h1 h2 h3 hS hin hd (k hn p l e R s m args below meth c g A kc ks H locs ls Q C hP hS hl hR)
theorem z_slen {n : Nat} {f : Nat → Int32} (hd : decode cc pc = .ok (.arraylength, 1)) (hs : scr = some (n, f)) (k : z_Run d nh own cc nL scr Z (pc + 1) L (.inl (Int32.ofNat n) :: r) h) : z_Run d nh own cc nL scr Z pc L (.inr (some 999999) :: r) h := by
  intro hn p l e R s m args below meth c g A kc ks H locs ls Q C hP hS hl hR
  obtain ⟨h1, h2, h3⟩ := C.2.2.2.2.2.1 _ hs
  exact va_slen C.1.1 C.1.2.1 h1 h2 h3 hS hd (k hn p l e R s m args below meth c g A kc ks H locs ls Q C hP hS hl hR)
theorem z_done {v : Option z_V} (hd : z_ret cc pc v) (hz : Z v h) : z_Run d nh own cc nL scr Z pc L v.toList h := by
  intro hn p l e R s m args below meth c g A kc ks H locs ls Q C hP hS hl hR
  exact hR v h H locs pc ls hz hn hP hS hd
theorem z_sub {L' : List (Nat × z_V)} (hs : ∀ q ∈ L', q ∈ L) (k : z_Run d nh own cc nL scr Z pc L' r h) : z_Run d nh own cc nL scr Z pc L r h := by
  intro hn p l e R s m args below meth c g A kc ks H locs ls Q C hP hS hl hR
  exact k hn p l e R s m args below meth c g A kc ks H locs ls Q C hP hS (z_has_sub hl hs) hR
end z_rules
end
section
/-! CALLS: a call's judgement is a contract; a body gives it; a caller goes on behind it -/
def z_QZ (Z : Option z_V → List z_C → Prop) (g : z_G) (nh : Nat) : Array Value → State → Outcome → State → Prop := fun _ st oc t => (∃ (v : Option z_V) (h' : List z_C), oc = .returned (v.map (z_cv g.2.2)) ∧ Z v h' ∧ h'.length = nh ∧ va_P g.1 vwCl (z_cw g h') t.heap) ∧ va_F (z_A g nh) st t
def z_Pc (g : z_G) (nh : Nat) (as : List z_V) (h : List z_C) : Array Value → State → Prop := va_Pc (as.map (z_cv g.2.2)) (fun U => va_P g.1 vwCl (z_cw g h) U.heap ∧ va_K g.1 vwCl (z_ty g) U ∧ z_lit g (z_A g nh) U U.heap)
def z_rm (d : Nat) : Room := { frames := d, cells := 0, slots := 0, locals := 64 * d }
def z_Ev (d nh : Nat) (y : MethodName) (cc : ByteArray) (nL : Nat) (ret : Option FieldType) (as : List z_V) (h : List z_C) (Z : Option z_V → List z_C → Prop) : Prop :=
  h.length = nh → ∀ (l : Launch) (g : z_G), z_inj g nh → Met l y (Jvm.Cond.code y cc nL ret :: ALL) (z_rm d) (z_Pc g nh as h) (z_QZ Z g nh) 0 0 (z_A g nh)
theorem z_blind {g : z_G} {nh : Nat} {as : List z_V} {h : List z_C} : FrameBlind (z_Pc g nh as h) := by
  intro a U f mk q
  obtain ⟨q0, qP, qK, qL⟩ := q
  exact ⟨q0, qP, va_K.moved (u := U) (U := U.calling f mk a) (Vm.Alike.refl U.vm) qK, qL.same (U := U.calling f mk a) rfl⟩
theorem z_sum (ad : Nat → Nat) (r : List z_V) : ((r.map (z_cv ad)).map fun v => v.category).sum = r.length := by
  induction r with
  | nil => rfl
  | cons a r ih => simp only [List.map_cons, List.sum_cons, List.length_cons, ih, z_cv_cat]; omega
section z_aft
variable {p : Program} {l : Launch} {e : Env} {R : Room} {s : State} {m : MethodId} {args : Array Value} {below : List Frame} {meth : Method} {c : Code} {H : Heap} {locs : List Loc} {cells slots : Nat} {Q : State → Prop}
variable {pc : Nat} {ls : Array Slot} {rest st0 : List Value} {a : Array Value} {A0 : Nat → Prop}
theorem z_after {g : z_G} {nh : Nat} {Z : Option z_V → List z_C → Prop} (hr : va_Run p l e R s m args below meth c H locs cells slots 0 0 (F0 m pc ls st0) rest (z_QZ Z g nh a) (z_A g nh)) (hS : va_S A0 s.heap H locs) (hA : ∀ q, z_A g nh q → A0 q)
    (kk : ∀ (v : Option z_V) (h' : List z_C) (H1 : Heap) (locs1 : List Loc), Z v h' → h'.length = nh → va_P g.1 vwCl (z_cw g h') H1 → va_S A0 s.heap H1 locs1 → W p l e R s m args below meth c H1 locs1 cells slots Q (F0 m (pc + 3) ls ((v.map (z_cv g.2.2)).toList ++ rest))) : W p l e R s m args below meth c H locs cells slots Q (F0 m pc ls st0) := by
  intro T hT X
  obtain ⟨v, st₀, t, T', L, h0, X', hL, e1, e2, ⟨⟨r, u, hv, hp, hlen, hb⟩, hz, hk⟩, st⟩ := hr T hT X
  cases hv
  rw [h0] at hz hk
  obtain ⟨t2, a1, b1⟩ := kk r u T'.heap (locs ++ L) hp hlen (by rw [e1]; exact hb)
    ⟨Nat.le_trans hS.1 (by rw [e1]; exact hz), fun q h1 h2 => by rw [e1, hk q (Nat.lt_of_lt_of_le h1 hS.1) (fun z => h2 (hA q z))]; exact hS.2.1 q h1 h2, fun q hq => by
      rcases List.mem_append.mp hq with h | h
      · exact hS.2.2 q h
      · exact hA _ (hL q h)⟩ T' rfl X'
  exact ⟨t2, st t2 a1, b1⟩
end z_aft
section z_cl
variable {d nh : Nat} {own : String} {cc : ByteArray} {nL : Nat} {scr : Option (Nat × (Nat → Int32))} {Z : Option z_V → List z_C → Prop} {pc : Nat} {L : List (Nat × z_V)} {r : List z_V} {h : List z_C}
variable {idx n nL' : Nat} {y : MethodName} {cc' : ByteArray} {ret' : Option FieldType} {as : List z_V}
theorem z_pre {g : z_G} {A : Nat → Prop} {s : State} {H : Heap} {locs : List Loc} (hK : va_K g.1 vwCl (z_ty g) s) (hA : ∀ q, z_A g nh q → A q) (hL : z_lit g A s s.heap) (hP : va_P g.1 vwCl (z_cw g h) H) (hS : va_S A s.heap H locs) {av : Array Value} (hav : av = (as.map (z_cv g.2.2)).toArray) : ∀ U : State, U.heap = H → s.WarmedH U.vm → z_Pc g nh as h av U := fun U hU hW =>
  ⟨hav, by rw [hU]; exact hP, va_K.moved hW.alike hK, by rw [hU]; exact ((hL.kept hS.2.1).narrow hA).warm hW⟩
theorem z_cV {ci a N : Nat} {T : u_T} {fs : List z_V} (hd : decode cc pc = .ok (.invokevirtual idx, 3)) (hc : Jvm.Cond.code y cc' nL' ret' ∈ ALL) (hl : Jvm.Cond.methodLink own idx y ∈ ALL) (hin : Jvm.Cond.instanceMethod y ∈ ALL) (hse : Jvm.Cond.selects y.cls y y ∈ ALL) (hini : Jvm.Cond.initialized y.cls ∈ ALL)
    (hy : y.cls ≠ "java/lang/invoke/MethodHandle" ∧ y.cls ≠ "java/lang/invoke/VarHandle" ∧ (parseMethodDescriptor y.desc).map (fun d => d.parameters.length) = some n) (hcl : vwCl[ci]? = some (y.cls, T, N)) (ha : h[a]? = some (.inr (.inr (.inr (ci, fs))))) (hn2 : as.length = n) (hr8 : r.length ≤ 8) (hm40 : nL' ≤ 40)
    (k : z_Ev d nh y cc' nL' ret' (.inr (some a) :: as) h (fun v h' => z_Run (d + 1) nh own cc nL scr Z (pc + 3) L (v.toList ++ r) h')) : z_Run (d + 1) nh own cc nL scr Z pc L (as.reverse ++ .inr (some a) :: r) h := by
  intro hn p l e R s m args below meth c g A kc ks H locs ls Q C hP hS hl' hR
  have hM := k hn l g C.2.2.1
  have hroom := C.2.2.2.2.2.2
  have hts := C.1.2.2.2.2
  refine z_after (va_runV (C := y.cls) (b := g.2.2 a) (As := as.map (z_cv g.2.2)) (rest := r.map (z_cv g.2.2)) (n := n) (bytes := cc') (maxL := nL') (ret := ret') C.1 hM ⟨callB_of n hts (good_in hc) rfl rfl rfl (hts _ hini) (hts _ hl) hy ⟨hroom.1, by show 8 + (nL' + 11) + 64 * d ≤ R.locals; omega⟩, hts _ hin, hts _ hse⟩ ⟨z_blind, va_recv C.2.1 hP hcl (z_cw_at ha), z_pre C.2.1 C.2.2.2.1 C.2.2.2.2.1 hP hS rfl⟩ rfl (by rw [List.length_map]; exact hn2) hl'.1 ?_ (lv_room (by rw [z_sum]; exact hr8)) hd ⟨hroom.2.2.1, hroom.2.2.2⟩) hS C.2.2.2.1 (fun v h' H1 locs1 hz hlen hP1 hS1 => ?_)
  · show (as.reverse ++ .inr (some a) :: r).map (z_cv g.2.2) = _
    rw [List.map_append, List.map_reverse]
    rfl
  · have := hz hlen p l e R s m args below meth c g A kc ks H1 locs1 ls Q C hP1 hS1 hl' hR
    rw [List.map_append] at this
    cases v <;> exact this
theorem z_cS (hd : decode cc pc = .ok (.invokestatic idx, 3)) (hc : Jvm.Cond.code y cc' nL' ret' ∈ ALL) (hl : Jvm.Cond.methodLink own idx y ∈ ALL) (hst : Jvm.Cond.static y ∈ ALL) (hini : Jvm.Cond.initialized y.cls ∈ ALL)
    (hy : y.cls ≠ "java/lang/invoke/MethodHandle" ∧ y.cls ≠ "java/lang/invoke/VarHandle" ∧ (parseMethodDescriptor y.desc).map (fun d => d.parameters.length) = some n) (hn2 : as.length = n) (hr8 : r.length ≤ 8) (hm40 : nL' ≤ 40)
    (k : z_Ev d nh y cc' nL' ret' as h (fun v h' => z_Run (d + 1) nh own cc nL scr Z (pc + 3) L (v.toList ++ r) h')) : z_Run (d + 1) nh own cc nL scr Z pc L (as.reverse ++ r) h := by
  intro hn p l e R s m args below meth c g A kc ks H locs ls Q C hP hS hl' hR
  have hM := k hn l g C.2.2.1
  have hroom := C.2.2.2.2.2.2
  have hts := C.1.2.2.2.2
  refine z_after (va_runS (As := as.map (z_cv g.2.2)) (rest := r.map (z_cv g.2.2)) (n := n) (bytes := cc') (maxL := nL') (ret := ret') C.1 hM ⟨callB_of n hts (good_in hc) rfl rfl rfl (hts _ hini) (hts _ hl) hy ⟨hroom.1, by show 8 + (nL' + 11) + 64 * d ≤ R.locals; omega⟩, hts _ hst⟩ ⟨z_blind, z_pre C.2.1 C.2.2.2.1 C.2.2.2.2.1 hP hS rfl⟩ rfl (by rw [List.length_map]; exact hn2) hl'.1 ?_ (lv_room (by rw [z_sum]; exact hr8)) hd ⟨hroom.2.2.1, hroom.2.2.2⟩) hS C.2.2.2.1 (fun v h' H1 locs1 hz hlen hP1 hS1 => ?_)
  · show (as.reverse ++ r).map (z_cv g.2.2) = _
    rw [List.map_append, List.map_reverse]
  · have := hz hlen p l e R s m args below meth c g A kc ks H1 locs1 ls Q C hP1 hS1 hl' hR
    rw [List.map_append] at this
    cases v <;> exact this
theorem z_cSN {host : String} (hd : decode cc pc = .ok (.invokestatic idx, 3)) (hc : Jvm.Cond.code y cc' nL' ret' ∈ ALL) (hl : (own, idx, y, host) ∈ z_nst) (hst : Jvm.Cond.static y ∈ ALL) (hini : Jvm.Cond.initialized y.cls ∈ ALL)
    (hy : y.cls ≠ "java/lang/invoke/MethodHandle" ∧ y.cls ≠ "java/lang/invoke/VarHandle" ∧ (parseMethodDescriptor y.desc).map (fun d => d.parameters.length) = some n) (hn2 : as.length = n) (hr8 : r.length ≤ 8) (hm40 : nL' ≤ 40)
    (k : z_Ev d nh y cc' nL' ret' as h (fun v h' => z_Run (d + 1) nh own cc nL scr Z (pc + 3) L (v.toList ++ r) h')) : z_Run (d + 1) nh own cc nL scr Z pc L (as.reverse ++ r) h := by
  intro hn p l e R s m args below meth c g A kc ks H locs ls Q C hP hS hl' hR
  have hM := k hn l g C.2.2.1
  have hroom := C.2.2.2.2.2.2
  have hts := C.1.2.2.2.2
  obtain ⟨adV, -, -, -, -, hnst⟩ := C.2.2.2.2.1
  refine z_after (va_runSN (host := host) (As := as.map (z_cv g.2.2)) (rest := r.map (z_cv g.2.2)) (n := n) (bytes := cc') (maxL := nL') (ret := ret') C.1 hM ⟨va_cnB n hts (good_in hc) rfl rfl rfl (hnst _ hl) (hts _ hini) hy ⟨hroom.1, by show 8 + (nL' + 11) + 64 * d ≤ R.locals; omega⟩, hts _ hst, trivial⟩ ⟨z_blind, z_pre C.2.1 C.2.2.2.1 C.2.2.2.2.1 hP hS rfl⟩ rfl (by rw [List.length_map]; exact hn2) hl'.1 ?_ (lv_room (by rw [z_sum]; exact hr8)) hd ⟨hroom.2.2.1, hroom.2.2.2⟩) hS C.2.2.2.1 (fun v h' H1 locs1 hz hlen hP1 hS1 => ?_)
  · show (as.reverse ++ r).map (z_cv g.2.2) = _
    rw [List.map_append, List.map_reverse]
  · have := hz hlen p l e R s m args below meth c g A kc ks H1 locs1 ls Q C hP1 hS1 hl' hR
    rw [List.map_append] at this
    cases v <;> exact this
/-- a call of a text's method: its place is beyond the heap -/
theorem z_cT {i : Nat} (hi : i < 5) (hd : decode cc pc = .ok (.invokevirtual idx, 3)) (hcs : y.cls = "java/lang/String") (hc : Jvm.Cond.code y cc' nL' ret' ∈ ALL) (hl : Jvm.Cond.methodLink own idx y ∈ ALL) (hin : Jvm.Cond.instanceMethod y ∈ ALL) (hse : Jvm.Cond.selects y.cls y y ∈ ALL) (hini : Jvm.Cond.initialized y.cls ∈ ALL)
    (hy : y.cls ≠ "java/lang/invoke/MethodHandle" ∧ y.cls ≠ "java/lang/invoke/VarHandle" ∧ (parseMethodDescriptor y.desc).map (fun d => d.parameters.length) = some n) (hn2 : as.length = n) (hr8 : r.length ≤ 8) (hm40 : nL' ≤ 40)
    (k : z_Ev d nh y cc' nL' ret' (.inr (some (1000000 + i)) :: as) h (fun v h' => z_Run (d + 1) nh own cc nL scr Z (pc + 3) L (v.toList ++ r) h')) : z_Run (d + 1) nh own cc nL scr Z pc L (as.reverse ++ .inr (some (1000000 + i)) :: r) h := by
  intro hn p l e R s m args below meth c g A kc ks H locs ls Q C hP hS hl' hR
  have hM := k hn l g C.2.2.1
  have hroom := C.2.2.2.2.2.2
  have hts := C.1.2.2.2.2
  obtain ⟨adV, hvk, -⟩ := C.2.2.2.2.1
  refine z_after (va_runV (C := y.cls) (b := g.2.2 (1000000 + i)) (As := as.map (z_cv g.2.2)) (rest := r.map (z_cv g.2.2)) (n := n) (bytes := cc') (maxL := nL') (ret := ret') C.1 hM ⟨callB_of n hts (good_in hc) rfl rfl rfl (hts _ hini) (hts _ hl) hy ⟨hroom.1, by show 8 + (nL' + 11) + 64 * d ≤ R.locals; omega⟩, hts _ hin, hts _ hse⟩ ⟨z_blind, by rw [hcs]; exact vk_recv (adK := fun i => g.2.2 (1000000 + i)) hvk hi hS, z_pre C.2.1 C.2.2.2.1 C.2.2.2.2.1 hP hS rfl⟩ rfl (by rw [List.length_map]; exact hn2) hl'.1 ?_ (lv_room (by rw [z_sum]; exact hr8)) hd ⟨hroom.2.2.1, hroom.2.2.2⟩) hS C.2.2.2.1 (fun v h' H1 locs1 hz hlen hP1 hS1 => ?_)
  · show (as.reverse ++ .inr (some (1000000 + i)) :: r).map (z_cv g.2.2) = _
    rw [List.map_append, List.map_reverse]
    rfl
  · have := hz hlen p l e R s m args below meth c g A kc ks H1 locs1 ls Q C hP1 hS1 hl' hR
    rw [List.map_append] at this
    cases v <;> exact this
/-- System.arraycopy between two rows of ints -/
theorem z_copy {a b n0 n1 : Nat} {f f' : Nat → Int32} {sp dp k0 : Int32} (hd : decode cc pc = .ok (.invokestatic idx, 3)) (hl : Jvm.Cond.methodLink own idx arraycopyName ∈ ALL) (hna : Jvm.Cond.native arraycopyName ∈ ALL) (hst : Jvm.Cond.static arraycopyName ∈ ALL) (hini : Jvm.Cond.initialized "java/lang/System" ∈ ALL)
    (ha : h[a]? = some (.inl (n0, f))) (hb : h[b]? = some (.inl (n1, f'))) (h1 : ¬ sp < 0) (h2 : ¬ dp < 0) (h3 : ¬ k0 < 0) (h4 : sp.toNatClampNeg + k0.toNatClampNeg ≤ n0) (h5 : dp.toNatClampNeg + k0.toNatClampNeg ≤ n1) (hr8 : r.length ≤ 8)
    (k : z_Run (d + 1) nh own cc nL scr Z (pc + 3) L r (h.set b (.inl (n1, va_cpy f f' sp.toNatClampNeg dp.toNatClampNeg k0.toNatClampNeg)))) : z_Run (d + 1) nh own cc nL scr Z pc L (.inl k0 :: .inl dp :: .inr (some b) :: .inl sp :: .inr (some a) :: r) h := by
  intro hn p l e R s m args below meth c g A kc ks H locs ls Q C hP hS hl' hR
  have hroom := C.2.2.2.2.2.2
  have hts := C.1.2.2.2.2
  have hnf : nativeFrameWords "java/lang/System" "arraycopy" 5 ≤ 40 := by decide +kernel
  have h13 : ((r.map (z_cv g.2.2)).map fun v => v.category).sum + (nativeFrameWords "java/lang/System" "arraycopy" 5 + 11) ≤ R.locals := by
    rw [z_sum]
    have := hroom.2.1
    omega
  refine va_copyi C.1.1 C.1.2.1 (C.1.2.2.1.trans hl'.1.symm) C.1.2.2.2.1 (hts _ hl) (hts _ hna) (hts _ hst) (hts _ hini) C.2.1 hP (z_D hn C.2.2.1 C.2.2.2.1) hS a b 0 0 (z_cw_at ha) (z_cw_at hb) (ty := .int) rfl rfl rfl h1 h2 h3 h4 h5 (fun _ _ => rfl) (by have := hroom.1; omega) h13 hd (fun H1 locs1 hP1 _ hS1 => ?_)
  refine k (by rw [List.length_set]; exact hn) p l e R s m args below meth c g A kc ks H1 locs1 ls Q C ?_ hS1 hl' hR
  rw [← z_cw_set]
  exact hP1
end z_cl
def z_args : Nat → List z_V → List (Nat × z_V)
  | _, [] => []
  | i, v :: vs => (i, v) :: z_args (i + 1) vs
theorem z_args_eq (g : z_G) : ∀ (as : List z_V) (i : Nat), lv_args i (as.map (z_cv g.2.2)) = z_cL g (z_args i as)
  | [], _ => rfl
  | v :: vs, i => by
    show (i, z_cv g.2.2 v) :: lv_args (if (z_cv g.2.2 v).category = 2 then i + 2 else i + 1) (vs.map (z_cv g.2.2)) = (i, z_cv g.2.2 v) :: z_cL g (z_args (i + 1) vs)
    rw [z_cv_cat, if_neg (by decide), z_args_eq g vs (i + 1)]
theorem z_sl_len (g : z_G) (as : List z_V) : (lg_sl (as.map (z_cv g.2.2))).length = as.length := by
  induction as with
  | nil => rfl
  | cons v vs ih =>
    have e : lg_sl ((v :: vs).map (z_cv g.2.2)) = (if (z_cv g.2.2 v).category = 2 then [Slot.val (z_cv g.2.2 v), .second] else [Slot.val (z_cv g.2.2 v)]) ++ lg_sl (vs.map (z_cv g.2.2)) := rfl
    rw [e, z_cv_cat, if_neg (by decide), List.length_append, ih]
    simp only [List.length_cons, List.length_nil]
    omega
def z_nar (ret : Option FieldType) : Option z_V → Prop
  | none => ret = none
  | some (.inl x) => ∃ ty, ret = some ty ∧ narrow ty (.int x) = .int x
  | some (.inr _) => ∃ n, ret = some (.object n)
theorem z_Ev_of {d nh : Nat} {y : MethodName} {cc : ByteArray} {nL : Nat} {ret : Option FieldType} {as : List z_V} {h : List z_C} {Z : Option z_V → List z_C → Prop} (hy : plainName y.cls = true) (hlen : as.length ≤ nL)
    (k : z_Run d nh y.cls cc nL none (fun v h' => z_nar ret v ∧ Z v h') 0 (z_args 0 as) [] h) : z_Ev d nh y cc nL ret as h Z := by
  intro hn l g hi
  refine Met.ofW (cc := cc) (maxL := nL) (ret := ret) hy rfl ?_
  intro p e s m args below meth c s₁ B hml hv
  obtain ⟨rfl, hP, hK, hlit⟩ := hv
  have hts := atoms_spec (ws := Jvm.Cond.code y cc nL ret :: ALL) B.pre
  have hown : s.vm.findClass y.cls = some m.cls := findClass_of_methodNamed B.named
  have hl := lv_entry (as.map (z_cv g.2.2)) (n := nL) (by rw [z_sl_len]; exact hlen)
  rw [z_args_eq] at hl
  rw [lg_entry_eq]
  have hlocks := B.notSynchronized
  refine k hn p l e (z_rm d) s m _ below meth c g (z_A g nh) 0 0 s.heap [] _ _ ⟨⟨B.exec, B.bytes, hml, hown, fun w hw => hts w (List.mem_cons_of_mem _ hw)⟩, hK, hi, fun _ h => h, hlit, (fun q hq => by cases hq), Nat.le_refl _, Nat.le_refl _, Nat.le_refl _, Nat.le_refl _⟩ hP va_S.rf hl ?_
  intro v h' H' locs' pc' ls' hZ hl' hP' hS' hret
  obtain ⟨hnar, hZ⟩ := hZ
  rcases v with _ | (x | q)
  · have hr0 : ret = none := hnar
    exact W.vret B.exec B.bytes (B.returns.trans hr0) (fun t ht hW => ⟨⟨none, h', rfl, hZ, hl', by rw [ht]; exact hP'⟩, hS'.F ht⟩) hS'.2.2 hret
  · obtain ⟨ty, hr0, hnr⟩ := hnar
    exact W.zret B.exec B.bytes (B.returns.trans hr0) hnr (fun t ht hW => ⟨⟨some (.inl x), h', rfl, hZ, hl', by rw [ht]; exact hP'⟩, hS'.F ht⟩) hS'.2.2 hret
  · obtain ⟨n, hr0⟩ := hnar
    refine W.aret B.exec B.bytes (B.returns.trans hr0) (Or.inl ⟨n, rfl⟩) (v := z_cv g.2.2 (.inr q)) ?_ (fun t ht hW => ⟨⟨some (.inr q), h', rfl, hZ, hl', by rw [ht]; exact hP'⟩, hS'.F ht⟩) hS'.2.2 hret
    cases q with
    | none => exact Or.inl rfl
    | some a => exact Or.inr ⟨_, rfl⟩
end
